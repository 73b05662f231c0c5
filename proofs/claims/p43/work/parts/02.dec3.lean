theorem dX10_rowOf_20 : decode cX10_rowOf 20 = .ok (.dup, 1) := by decide +kernel
theorem dX10_rowOf_21 : decode cX10_rowOf 21 = .ok (.ldc_w 352, 3) := by decide +kernel
theorem dX10_rowOf_24 : decode cX10_rowOf 24 = .ok (.invokespecial 72, 3) := by decide +kernel
theorem dX10_rowOf_27 : decode cX10_rowOf 27 = .ok (.athrow, 1) := by decide +kernel
theorem dX10_rowOf_28 : decode cX10_rowOf 28 = .ok (.iload_n 2, 1) := by decide +kernel
theorem dX10_rowOf_29 : decode cX10_rowOf 29 = .ok (.ireturn, 1) := by decide +kernel
theorem dL_cell_0 : decode cL_cell 0 = .ok (.iload_n 1, 1) := by decide +kernel
theorem dL_cell_1 : decode cL_cell 1 = .ok (.aload_n 0, 1) := by decide +kernel
theorem dL_cell_2 : decode cL_cell 2 = .ok (.arraylength, 1) := by decide +kernel
theorem dL_cell_3 : decode cL_cell 3 = .ok (.if_icmp .ge 9, 3) := by decide +kernel
theorem dL_cell_6 : decode cL_cell 6 = .ok (.aload_n 0, 1) := by decide +kernel
theorem dL_cell_7 : decode cL_cell 7 = .ok (.iload_n 1, 1) := by decide +kernel
theorem dL_cell_8 : decode cL_cell 8 = .ok (.iaload, 1) := by decide +kernel
theorem dL_cell_9 : decode cL_cell 9 = .ok (.goto 13, 3) := by decide +kernel
theorem dL_cell_12 : decode cL_cell 12 = .ok (.ldc 7, 2) := by decide +kernel
theorem dL_cell_14 : decode cL_cell 14 = .ok (.iload_n 1, 1) := by decide +kernel
theorem dL_cell_15 : decode cL_cell 15 = .ok (.bipush 127, 2) := by decide +kernel
theorem dL_cell_17 : decode cL_cell 17 = .ok (.iadd, 1) := by decide +kernel
theorem dL_cell_18 : decode cL_cell 18 = .ok (.imul, 1) := by decide +kernel
theorem dL_cell_19 : decode cL_cell 19 = .ok (.ldc 8, 2) := by decide +kernel
theorem dL_cell_21 : decode cL_cell 21 = .ok (.iadd, 1) := by decide +kernel
theorem dL_cell_22 : decode cL_cell 22 = .ok (.ireturn, 1) := by decide +kernel
theorem dL_low_0 : decode cL_low 0 = .ok (.iload_n 0, 1) := by decide +kernel
theorem dL_low_1 : decode cL_low 1 = .ok (.ldc 9, 2) := by decide +kernel
theorem dL_low_3 : decode cL_low 3 = .ok (.iand, 1) := by decide +kernel
theorem dL_low_4 : decode cL_low 4 = .ok (.iload_n 1, 1) := by decide +kernel
theorem dL_low_5 : decode cL_low 5 = .ok (.irem, 1) := by decide +kernel
theorem dL_low_6 : decode cL_low 6 = .ok (.ireturn, 1) := by decide +kernel
theorem dL_calls_0 : decode cL_calls 0 = .ok (.iload_n 1, 1) := by decide +kernel
theorem dL_calls_1 : decode cL_calls 1 = .ok (.ifCond .ne 12, 3) := by decide +kernel
theorem dL_calls_4 : decode cL_calls 4 = .ok (.aload_n 0, 1) := by decide +kernel
theorem dL_calls_5 : decode cL_calls 5 = .ok (.iload_n 2, 1) := by decide +kernel
theorem dL_calls_6 : decode cL_calls 6 = .ok (.iload_n 3, 1) := by decide +kernel
theorem dL_calls_7 : decode cL_calls 7 = .ok (.invokevirtual 10, 3) := by decide +kernel
theorem dL_calls_10 : decode cL_calls 10 = .ok (.goto 73, 3) := by decide +kernel
theorem dL_calls_13 : decode cL_calls 13 = .ok (.iload_n 1, 1) := by decide +kernel
theorem dL_calls_14 : decode cL_calls 14 = .ok (.iconst 1, 1) := by decide +kernel
theorem dL_calls_15 : decode cL_calls 15 = .ok (.if_icmp .ne 10, 3) := by decide +kernel
theorem dL_calls_18 : decode cL_calls 18 = .ok (.aload_n 0, 1) := by decide +kernel
theorem dL_calls_19 : decode cL_calls 19 = .ok (.invokevirtual 16, 3) := by decide +kernel
theorem dL_calls_22 : decode cL_calls 22 = .ok (.goto 61, 3) := by decide +kernel
theorem dL_calls_25 : decode cL_calls 25 = .ok (.iload_n 1, 1) := by decide +kernel
theorem dL_calls_26 : decode cL_calls 26 = .ok (.iconst 2, 1) := by decide +kernel
theorem dL_calls_27 : decode cL_calls 27 = .ok (.if_icmp .ne 11, 3) := by decide +kernel
theorem dL_calls_30 : decode cL_calls 30 = .ok (.aload_n 0, 1) := by decide +kernel
theorem dL_calls_31 : decode cL_calls 31 = .ok (.iload_n 2, 1) := by decide +kernel
theorem dL_calls_32 : decode cL_calls 32 = .ok (.invokevirtual 20, 3) := by decide +kernel
theorem dL_calls_35 : decode cL_calls 35 = .ok (.goto 48, 3) := by decide +kernel
theorem dL_calls_38 : decode cL_calls 38 = .ok (.iload_n 1, 1) := by decide +kernel
theorem dL_calls_39 : decode cL_calls 39 = .ok (.iconst 3, 1) := by decide +kernel
theorem dL_calls_40 : decode cL_calls 40 = .ok (.if_icmp .ne 13, 3) := by decide +kernel
theorem dL_calls_43 : decode cL_calls 43 = .ok (.aload_n 0, 1) := by decide +kernel
theorem dL_calls_44 : decode cL_calls 44 = .ok (.lload 4, 2) := by decide +kernel
theorem dL_calls_46 : decode cL_calls 46 = .ok (.iload_n 2, 1) := by decide +kernel
theorem dL_calls_47 : decode cL_calls 47 = .ok (.invokevirtual 24, 3) := by decide +kernel
theorem dL_calls_50 : decode cL_calls 50 = .ok (.goto 33, 3) := by decide +kernel
theorem dL_calls_53 : decode cL_calls 53 = .ok (.iload_n 1, 1) := by decide +kernel
theorem dL_calls_54 : decode cL_calls 54 = .ok (.iconst 4, 1) := by decide +kernel
theorem dL_calls_55 : decode cL_calls 55 = .ok (.if_icmp .ne 10, 3) := by decide +kernel
theorem dL_calls_58 : decode cL_calls 58 = .ok (.aload_n 0, 1) := by decide +kernel
theorem dL_calls_59 : decode cL_calls 59 = .ok (.invokevirtual 28, 3) := by decide +kernel
theorem dL_calls_62 : decode cL_calls 62 = .ok (.goto 21, 3) := by decide +kernel
theorem dL_calls_65 : decode cL_calls 65 = .ok (.iload_n 1, 1) := by decide +kernel
theorem dL_calls_66 : decode cL_calls 66 = .ok (.iconst 5, 1) := by decide +kernel
theorem dL_calls_67 : decode cL_calls 67 = .ok (.if_icmp .ne 11, 3) := by decide +kernel
theorem dL_calls_70 : decode cL_calls 70 = .ok (.aload_n 0, 1) := by decide +kernel
theorem dL_calls_71 : decode cL_calls 71 = .ok (.iload_n 2, 1) := by decide +kernel
theorem dL_calls_72 : decode cL_calls 72 = .ok (.invokevirtual 31, 3) := by decide +kernel
theorem dL_calls_75 : decode cL_calls 75 = .ok (.goto 8, 3) := by decide +kernel
theorem dL_calls_78 : decode cL_calls 78 = .ok (.aload_n 0, 1) := by decide +kernel
theorem dL_calls_79 : decode cL_calls 79 = .ok (.iload_n 2, 1) := by decide +kernel
theorem dL_calls_80 : decode cL_calls 80 = .ok (.invokevirtual 34, 3) := by decide +kernel
theorem dL_calls_83 : decode cL_calls 83 = .ok (.ireturn, 1) := by decide +kernel
theorem dL_calls_84 : decode cL_calls 84 = .ok (.astore 6, 2) := by decide +kernel
theorem dL_calls_86 : decode cL_calls 86 = .ok (.sipush (-1002), 3) := by decide +kernel
theorem dL_calls_89 : decode cL_calls 89 = .ok (.ireturn, 1) := by decide +kernel
theorem dL_calls_90 : decode cL_calls 90 = .ok (.astore 6, 2) := by decide +kernel
theorem dL_calls_92 : decode cL_calls 92 = .ok (.sipush (-1003), 3) := by decide +kernel
theorem dL_calls_95 : decode cL_calls 95 = .ok (.ireturn, 1) := by decide +kernel
theorem dL_out_0 : decode cL_out 0 = .ok (.iload_n 0, 1) := by decide +kernel
theorem dL_out_1 : decode cL_out 1 = .ok (.istore 5, 2) := by decide +kernel
theorem dL_out_3 : decode cL_out 3 = .ok (.iconst 0, 1) := by decide +kernel
theorem dL_out_4 : decode cL_out 4 = .ok (.istore 6, 2) := by decide +kernel
theorem dL_out_6 : decode cL_out 6 = .ok (.iload 6, 2) := by decide +kernel
theorem dL_out_8 : decode cL_out 8 = .ok (.iload_n 1, 1) := by decide +kernel
theorem dL_out_9 : decode cL_out 9 = .ok (.if_icmp .ge 125, 3) := by decide +kernel
theorem dL_out_12 : decode cL_out 12 = .ok (.aload 4, 2) := by decide +kernel
theorem dL_out_14 : decode cL_out 14 = .ok (.iload 6, 2) := by decide +kernel
theorem dL_out_16 : decode cL_out 16 = .ok (.iaload, 1) := by decide +kernel
theorem dL_out_17 : decode cL_out 17 = .ok (.bipush 8, 2) := by decide +kernel
theorem dL_out_19 : decode cL_out 19 = .ok (.irem, 1) := by decide +kernel
theorem dL_out_20 : decode cL_out 20 = .ok (.istore 7, 2) := by decide +kernel
theorem dL_out_22 : decode cL_out 22 = .ok (.aload 4, 2) := by decide +kernel
theorem dL_out_24 : decode cL_out 24 = .ok (.iload 6, 2) := by decide +kernel
theorem dL_out_26 : decode cL_out 26 = .ok (.iaload, 1) := by decide +kernel
theorem dL_out_27 : decode cL_out 27 = .ok (.bipush 8, 2) := by decide +kernel
theorem dL_out_29 : decode cL_out 29 = .ok (.idiv, 1) := by decide +kernel
theorem dL_out_30 : decode cL_out 30 = .ok (.istore 8, 2) := by decide +kernel
theorem dL_out_32 : decode cL_out 32 = .ok (.iload 5, 2) := by decide +kernel
theorem dL_out_34 : decode cL_out 34 = .ok (.iload 7, 2) := by decide +kernel
theorem dL_out_36 : decode cL_out 36 = .ok (.ishr, 1) := by decide +kernel
theorem dL_out_37 : decode cL_out 37 = .ok (.iconst 1, 1) := by decide +kernel
theorem dL_out_38 : decode cL_out 38 = .ok (.iand, 1) := by decide +kernel
theorem dL_out_39 : decode cL_out 39 = .ok (.istore 9, 2) := by decide +kernel
theorem dL_out_41 : decode cL_out 41 = .ok (.iload 5, 2) := by decide +kernel
theorem dL_out_43 : decode cL_out 43 = .ok (.iload 8, 2) := by decide +kernel
theorem dL_out_45 : decode cL_out 45 = .ok (.ishr, 1) := by decide +kernel
theorem dL_out_46 : decode cL_out 46 = .ok (.iconst 1, 1) := by decide +kernel
theorem dL_out_47 : decode cL_out 47 = .ok (.iand, 1) := by decide +kernel
theorem dL_out_48 : decode cL_out 48 = .ok (.istore 10, 2) := by decide +kernel
theorem dL_out_50 : decode cL_out 50 = .ok (.iload 6, 2) := by decide +kernel
theorem dL_out_52 : decode cL_out 52 = .ok (.iload_n 2, 1) := by decide +kernel
theorem dL_out_53 : decode cL_out 53 = .ok (.if_icmp .eq 11, 3) := by decide +kernel
theorem dL_out_56 : decode cL_out 56 = .ok (.iload 9, 2) := by decide +kernel
theorem dL_out_58 : decode cL_out 58 = .ok (.iload 10, 2) := by decide +kernel
theorem dL_out_60 : decode cL_out 60 = .ok (.iand, 1) := by decide +kernel
theorem dL_out_61 : decode cL_out 61 = .ok (.goto 27, 3) := by decide +kernel
theorem dL_out_64 : decode cL_out 64 = .ok (.iload_n 3, 1) := by decide +kernel
theorem dL_out_65 : decode cL_out 65 = .ok (.ifCond .ne 8, 3) := by decide +kernel
theorem dL_out_68 : decode cL_out 68 = .ok (.iload 9, 2) := by decide +kernel
theorem dL_out_70 : decode cL_out 70 = .ok (.goto 18, 3) := by decide +kernel
theorem dL_out_73 : decode cL_out 73 = .ok (.iload_n 3, 1) := by decide +kernel
theorem dL_out_74 : decode cL_out 74 = .ok (.iconst 1, 1) := by decide +kernel
theorem dL_out_75 : decode cL_out 75 = .ok (.if_icmp .ne 8, 3) := by decide +kernel
theorem dL_out_78 : decode cL_out 78 = .ok (.iload 10, 2) := by decide +kernel
theorem dL_out_80 : decode cL_out 80 = .ok (.goto 8, 3) := by decide +kernel
theorem dL_out_83 : decode cL_out 83 = .ok (.iload 9, 2) := by decide +kernel
theorem dL_out_85 : decode cL_out 85 = .ok (.iload 10, 2) := by decide +kernel
theorem dL_out_87 : decode cL_out 87 = .ok (.ior, 1) := by decide +kernel
theorem dL_out_88 : decode cL_out 88 = .ok (.istore 11, 2) := by decide +kernel
theorem dL_out_90 : decode cL_out 90 = .ok (.iload 9, 2) := by decide +kernel
theorem dL_out_92 : decode cL_out 92 = .ok (.iload 10, 2) := by decide +kernel
theorem dL_out_94 : decode cL_out 94 = .ok (.iadd, 1) := by decide +kernel
theorem dL_out_95 : decode cL_out 95 = .ok (.iload 11, 2) := by decide +kernel
theorem dL_out_97 : decode cL_out 97 = .ok (.isub, 1) := by decide +kernel
theorem dL_out_98 : decode cL_out 98 = .ok (.istore 12, 2) := by decide +kernel
theorem dL_out_100 : decode cL_out 100 = .ok (.iload 5, 2) := by decide +kernel
theorem dL_out_102 : decode cL_out 102 = .ok (.iconst 1, 1) := by decide +kernel
theorem dL_out_103 : decode cL_out 103 = .ok (.iload 7, 2) := by decide +kernel
theorem dL_out_105 : decode cL_out 105 = .ok (.ishl, 1) := by decide +kernel
theorem dL_out_106 : decode cL_out 106 = .ok (.iconst 1, 1) := by decide +kernel
theorem dL_out_107 : decode cL_out 107 = .ok (.iload 8, 2) := by decide +kernel
theorem dL_out_109 : decode cL_out 109 = .ok (.ishl, 1) := by decide +kernel
theorem dL_out_110 : decode cL_out 110 = .ok (.ior, 1) := by decide +kernel
theorem dL_out_111 : decode cL_out 111 = .ok (.iconst (-1), 1) := by decide +kernel
theorem dL_out_112 : decode cL_out 112 = .ok (.ixor, 1) := by decide +kernel
theorem dL_out_113 : decode cL_out 113 = .ok (.iand, 1) := by decide +kernel
theorem dL_out_114 : decode cL_out 114 = .ok (.iload 11, 2) := by decide +kernel
theorem dL_out_116 : decode cL_out 116 = .ok (.iload 7, 2) := by decide +kernel
theorem dL_out_118 : decode cL_out 118 = .ok (.ishl, 1) := by decide +kernel
theorem dL_out_119 : decode cL_out 119 = .ok (.ior, 1) := by decide +kernel
theorem dL_out_120 : decode cL_out 120 = .ok (.iload 12, 2) := by decide +kernel
theorem dL_out_122 : decode cL_out 122 = .ok (.iload 8, 2) := by decide +kernel
theorem dL_out_124 : decode cL_out 124 = .ok (.ishl, 1) := by decide +kernel
theorem dL_out_125 : decode cL_out 125 = .ok (.ior, 1) := by decide +kernel
theorem dL_out_126 : decode cL_out 126 = .ok (.istore 5, 2) := by decide +kernel
theorem dL_out_128 : decode cL_out 128 = .ok (.iinc 6 1, 3) := by decide +kernel
theorem dL_out_131 : decode cL_out 131 = .ok (.goto (-125), 3) := by decide +kernel
theorem dL_out_134 : decode cL_out 134 = .ok (.iload 5, 2) := by decide +kernel
theorem dL_out_136 : decode cL_out 136 = .ok (.ireturn, 1) := by decide +kernel
theorem dL_upright_0 : decode cL_upright 0 = .ok (.iload_n 0, 1) := by decide +kernel
theorem dL_upright_1 : decode cL_upright 1 = .ok (.iload_n 1, 1) := by decide +kernel
theorem dL_upright_2 : decode cL_upright 2 = .ok (.ishr, 1) := by decide +kernel
theorem dL_upright_3 : decode cL_upright 3 = .ok (.iconst 1, 1) := by decide +kernel
theorem dL_upright_4 : decode cL_upright 4 = .ok (.iload_n 2, 1) := by decide +kernel
theorem dL_upright_5 : decode cL_upright 5 = .ok (.iload_n 1, 1) := by decide +kernel
theorem dL_upright_6 : decode cL_upright 6 = .ok (.isub, 1) := by decide +kernel
theorem dL_upright_7 : decode cL_upright 7 = .ok (.ishl, 1) := by decide +kernel
theorem dL_upright_8 : decode cL_upright 8 = .ok (.iconst 1, 1) := by decide +kernel
theorem dL_upright_9 : decode cL_upright 9 = .ok (.isub, 1) := by decide +kernel
theorem dL_upright_10 : decode cL_upright 10 = .ok (.iand, 1) := by decide +kernel
theorem dL_upright_11 : decode cL_upright 11 = .ok (.istore_n 3, 1) := by decide +kernel
theorem dL_upright_12 : decode cL_upright 12 = .ok (.iload_n 3, 1) := by decide +kernel
theorem dL_upright_13 : decode cL_upright 13 = .ok (.iconst (-1), 1) := by decide +kernel
theorem dL_upright_14 : decode cL_upright 14 = .ok (.ixor, 1) := by decide +kernel
theorem dL_upright_15 : decode cL_upright 15 = .ok (.iconst 1, 1) := by decide +kernel
theorem dL_upright_16 : decode cL_upright 16 = .ok (.iload_n 2, 1) := by decide +kernel
theorem dL_upright_17 : decode cL_upright 17 = .ok (.iload_n 1, 1) := by decide +kernel
theorem dL_upright_18 : decode cL_upright 18 = .ok (.isub, 1) := by decide +kernel
theorem dL_upright_19 : decode cL_upright 19 = .ok (.ishl, 1) := by decide +kernel
theorem dL_upright_20 : decode cL_upright 20 = .ok (.iconst 1, 1) := by decide +kernel
theorem dL_upright_21 : decode cL_upright 21 = .ok (.isub, 1) := by decide +kernel
theorem dL_upright_22 : decode cL_upright 22 = .ok (.iand, 1) := by decide +kernel
theorem dL_upright_23 : decode cL_upright 23 = .ok (.istore 4, 2) := by decide +kernel
theorem dL_upright_25 : decode cL_upright 25 = .ok (.iload 4, 2) := by decide +kernel
theorem dL_upright_27 : decode cL_upright 27 = .ok (.iload 4, 2) := by decide +kernel
theorem dL_upright_29 : decode cL_upright 29 = .ok (.iconst 1, 1) := by decide +kernel
theorem dL_upright_30 : decode cL_upright 30 = .ok (.iadd, 1) := by decide +kernel
theorem dL_upright_31 : decode cL_upright 31 = .ok (.iand, 1) := by decide +kernel
theorem dL_upright_32 : decode cL_upright 32 = .ok (.ifCond .ne 7, 3) := by decide +kernel
theorem dL_upright_35 : decode cL_upright 35 = .ok (.iconst 1, 1) := by decide +kernel
theorem dL_upright_36 : decode cL_upright 36 = .ok (.goto 4, 3) := by decide +kernel
theorem dL_upright_39 : decode cL_upright 39 = .ok (.iconst 0, 1) := by decide +kernel
theorem dL_upright_40 : decode cL_upright 40 = .ok (.ireturn, 1) := by decide +kernel
theorem dL_next_0 : decode cL_next 0 = .ok (.iload_n 1, 1) := by decide +kernel
theorem dL_next_1 : decode cL_next 1 = .ok (.iconst 2, 1) := by decide +kernel
theorem dL_next_2 : decode cL_next 2 = .ok (.isub, 1) := by decide +kernel
theorem dL_next_3 : decode cL_next 3 = .ok (.istore_n 2, 1) := by decide +kernel
theorem dL_next_4 : decode cL_next 4 = .ok (.iload_n 2, 1) := by decide +kernel
theorem dL_next_5 : decode cL_next 5 = .ok (.ifCond .lt 20, 3) := by decide +kernel
theorem dL_next_8 : decode cL_next 8 = .ok (.aload_n 0, 1) := by decide +kernel
theorem dL_next_9 : decode cL_next 9 = .ok (.iload_n 2, 1) := by decide +kernel
theorem dL_next_10 : decode cL_next 10 = .ok (.iaload, 1) := by decide +kernel
theorem dL_next_11 : decode cL_next 11 = .ok (.aload_n 0, 1) := by decide +kernel
theorem dL_next_12 : decode cL_next 12 = .ok (.iload_n 2, 1) := by decide +kernel
theorem dL_next_13 : decode cL_next 13 = .ok (.iconst 1, 1) := by decide +kernel
theorem dL_next_14 : decode cL_next 14 = .ok (.iadd, 1) := by decide +kernel
theorem dL_next_15 : decode cL_next 15 = .ok (.iaload, 1) := by decide +kernel
theorem dL_next_16 : decode cL_next 16 = .ok (.if_icmp .le 9, 3) := by decide +kernel
theorem dL_next_19 : decode cL_next 19 = .ok (.iinc 2 (-1), 3) := by decide +kernel
theorem dL_next_22 : decode cL_next 22 = .ok (.goto (-18), 3) := by decide +kernel
theorem dL_next_25 : decode cL_next 25 = .ok (.iload_n 2, 1) := by decide +kernel
theorem dL_next_26 : decode cL_next 26 = .ok (.ifCond .ge 5, 3) := by decide +kernel
theorem dL_next_29 : decode cL_next 29 = .ok (.iconst 0, 1) := by decide +kernel
theorem dL_next_30 : decode cL_next 30 = .ok (.ireturn, 1) := by decide +kernel
theorem dL_next_31 : decode cL_next 31 = .ok (.iload_n 1, 1) := by decide +kernel
theorem dL_next_32 : decode cL_next 32 = .ok (.iconst 1, 1) := by decide +kernel
theorem dL_next_33 : decode cL_next 33 = .ok (.isub, 1) := by decide +kernel
theorem dL_next_34 : decode cL_next 34 = .ok (.istore_n 3, 1) := by decide +kernel
theorem dL_next_35 : decode cL_next 35 = .ok (.aload_n 0, 1) := by decide +kernel
theorem dL_next_36 : decode cL_next 36 = .ok (.iload_n 3, 1) := by decide +kernel
theorem dL_next_37 : decode cL_next 37 = .ok (.iaload, 1) := by decide +kernel
theorem dL_next_38 : decode cL_next 38 = .ok (.aload_n 0, 1) := by decide +kernel
theorem dL_next_39 : decode cL_next 39 = .ok (.iload_n 2, 1) := by decide +kernel
theorem dL_next_40 : decode cL_next 40 = .ok (.iaload, 1) := by decide +kernel
theorem dL_next_41 : decode cL_next 41 = .ok (.if_icmp .ge 9, 3) := by decide +kernel
theorem dL_next_44 : decode cL_next 44 = .ok (.iinc 3 (-1), 3) := by decide +kernel
theorem dL_next_47 : decode cL_next 47 = .ok (.goto (-12), 3) := by decide +kernel
theorem dL_next_50 : decode cL_next 50 = .ok (.aload_n 0, 1) := by decide +kernel
theorem dL_next_51 : decode cL_next 51 = .ok (.iload_n 2, 1) := by decide +kernel
theorem dL_next_52 : decode cL_next 52 = .ok (.iaload, 1) := by decide +kernel
theorem dL_next_53 : decode cL_next 53 = .ok (.istore 4, 2) := by decide +kernel
theorem dL_next_55 : decode cL_next 55 = .ok (.aload_n 0, 1) := by decide +kernel
theorem dL_next_56 : decode cL_next 56 = .ok (.iload_n 2, 1) := by decide +kernel
theorem dL_next_57 : decode cL_next 57 = .ok (.aload_n 0, 1) := by decide +kernel
theorem dL_next_58 : decode cL_next 58 = .ok (.iload_n 3, 1) := by decide +kernel
theorem dL_next_59 : decode cL_next 59 = .ok (.iaload, 1) := by decide +kernel
theorem dL_next_60 : decode cL_next 60 = .ok (.iastore, 1) := by decide +kernel
theorem dL_next_61 : decode cL_next 61 = .ok (.aload_n 0, 1) := by decide +kernel
theorem dL_next_62 : decode cL_next 62 = .ok (.iload_n 3, 1) := by decide +kernel
theorem dL_next_63 : decode cL_next 63 = .ok (.iload 4, 2) := by decide +kernel
theorem dL_next_65 : decode cL_next 65 = .ok (.iastore, 1) := by decide +kernel
theorem dL_next_66 : decode cL_next 66 = .ok (.iload_n 2, 1) := by decide +kernel
theorem dL_next_67 : decode cL_next 67 = .ok (.iconst 1, 1) := by decide +kernel
theorem dL_next_68 : decode cL_next 68 = .ok (.iadd, 1) := by decide +kernel
theorem dL_next_69 : decode cL_next 69 = .ok (.istore 5, 2) := by decide +kernel
theorem dL_next_71 : decode cL_next 71 = .ok (.iload 5, 2) := by decide +kernel
theorem dL_next_73 : decode cL_next 73 = .ok (.iload_n 1, 1) := by decide +kernel
theorem dL_next_74 : decode cL_next 74 = .ok (.iload 5, 2) := by decide +kernel
theorem dL_next_76 : decode cL_next 76 = .ok (.iload_n 2, 1) := by decide +kernel
theorem dL_next_77 : decode cL_next 77 = .ok (.isub, 1) := by decide +kernel
theorem dL_next_78 : decode cL_next 78 = .ok (.isub, 1) := by decide +kernel
theorem dL_next_79 : decode cL_next 79 = .ok (.if_icmp .ge 37, 3) := by decide +kernel
theorem dL_next_82 : decode cL_next 82 = .ok (.iload_n 1, 1) := by decide +kernel
theorem dL_next_83 : decode cL_next 83 = .ok (.iload 5, 2) := by decide +kernel
theorem dL_next_85 : decode cL_next 85 = .ok (.iload_n 2, 1) := by decide +kernel
theorem dL_next_86 : decode cL_next 86 = .ok (.isub, 1) := by decide +kernel
theorem dL_next_87 : decode cL_next 87 = .ok (.isub, 1) := by decide +kernel
theorem dL_next_88 : decode cL_next 88 = .ok (.istore 6, 2) := by decide +kernel
theorem dL_next_90 : decode cL_next 90 = .ok (.aload_n 0, 1) := by decide +kernel
theorem dL_next_91 : decode cL_next 91 = .ok (.iload 5, 2) := by decide +kernel
theorem dL_next_93 : decode cL_next 93 = .ok (.iaload, 1) := by decide +kernel
theorem dL_next_94 : decode cL_next 94 = .ok (.istore 4, 2) := by decide +kernel
theorem dL_next_96 : decode cL_next 96 = .ok (.aload_n 0, 1) := by decide +kernel
theorem dL_next_97 : decode cL_next 97 = .ok (.iload 5, 2) := by decide +kernel
theorem dL_next_99 : decode cL_next 99 = .ok (.aload_n 0, 1) := by decide +kernel
theorem dL_next_100 : decode cL_next 100 = .ok (.iload 6, 2) := by decide +kernel
theorem dL_next_102 : decode cL_next 102 = .ok (.iaload, 1) := by decide +kernel
theorem dL_next_103 : decode cL_next 103 = .ok (.iastore, 1) := by decide +kernel
theorem dL_next_104 : decode cL_next 104 = .ok (.aload_n 0, 1) := by decide +kernel
theorem dL_next_105 : decode cL_next 105 = .ok (.iload 6, 2) := by decide +kernel
theorem dL_next_107 : decode cL_next 107 = .ok (.iload 4, 2) := by decide +kernel
theorem dL_next_109 : decode cL_next 109 = .ok (.iastore, 1) := by decide +kernel
theorem dL_next_110 : decode cL_next 110 = .ok (.iinc 5 1, 3) := by decide +kernel
theorem dL_next_113 : decode cL_next 113 = .ok (.goto (-42), 3) := by decide +kernel
theorem dL_next_116 : decode cL_next 116 = .ok (.iconst 1, 1) := by decide +kernel
theorem dL_next_117 : decode cL_next 117 = .ok (.ireturn, 1) := by decide +kernel
theorem dL_code_0 : decode cL_code 0 = .ok (.iconst 0, 1) := by decide +kernel
theorem dL_code_1 : decode cL_code 1 = .ok (.istore_n 2, 1) := by decide +kernel
theorem dL_code_2 : decode cL_code 2 = .ok (.iconst 1, 1) := by decide +kernel
theorem dL_code_3 : decode cL_code 3 = .ok (.istore_n 3, 1) := by decide +kernel
theorem dL_code_4 : decode cL_code 4 = .ok (.iconst 0, 1) := by decide +kernel
theorem dL_code_5 : decode cL_code 5 = .ok (.istore 4, 2) := by decide +kernel
theorem dL_code_7 : decode cL_code 7 = .ok (.iload 4, 2) := by decide +kernel
theorem dL_code_9 : decode cL_code 9 = .ok (.iload_n 1, 1) := by decide +kernel
theorem dL_code_10 : decode cL_code 10 = .ok (.if_icmp .ge 23, 3) := by decide +kernel
theorem dL_code_13 : decode cL_code 13 = .ok (.iload_n 2, 1) := by decide +kernel
theorem dL_code_14 : decode cL_code 14 = .ok (.iload_n 3, 1) := by decide +kernel
theorem dL_code_15 : decode cL_code 15 = .ok (.aload_n 0, 1) := by decide +kernel
theorem dL_code_16 : decode cL_code 16 = .ok (.iload 4, 2) := by decide +kernel
theorem dL_code_18 : decode cL_code 18 = .ok (.iaload, 1) := by decide +kernel
theorem dL_code_19 : decode cL_code 19 = .ok (.imul, 1) := by decide +kernel
theorem dL_code_20 : decode cL_code 20 = .ok (.iadd, 1) := by decide +kernel
theorem dL_code_21 : decode cL_code 21 = .ok (.istore_n 2, 1) := by decide +kernel
theorem dL_code_22 : decode cL_code 22 = .ok (.iload_n 3, 1) := by decide +kernel
theorem dL_code_23 : decode cL_code 23 = .ok (.bipush 10, 2) := by decide +kernel
theorem dL_code_25 : decode cL_code 25 = .ok (.imul, 1) := by decide +kernel
theorem dL_code_26 : decode cL_code 26 = .ok (.istore_n 3, 1) := by decide +kernel
theorem dL_code_27 : decode cL_code 27 = .ok (.iinc 4 1, 3) := by decide +kernel
theorem dL_code_30 : decode cL_code 30 = .ok (.goto (-23), 3) := by decide +kernel
theorem dL_code_33 : decode cL_code 33 = .ok (.iload_n 2, 1) := by decide +kernel
theorem dL_code_34 : decode cL_code 34 = .ok (.ireturn, 1) := by decide +kernel
theorem dL_runs_0 : decode cL_runs 0 = .ok (.iconst 0, 1) := by decide +kernel
theorem dL_runs_1 : decode cL_runs 1 = .ok (.istore 5, 2) := by decide +kernel
theorem dL_runs_3 : decode cL_runs 3 = .ok (.iload 5, 2) := by decide +kernel
theorem dL_runs_5 : decode cL_runs 5 = .ok (.iload_n 2, 1) := by decide +kernel
theorem dL_runs_6 : decode cL_runs 6 = .ok (.if_icmp .ge 17, 3) := by decide +kernel
theorem dL_runs_9 : decode cL_runs 9 = .ok (.aload_n 1, 1) := by decide +kernel
theorem dL_runs_10 : decode cL_runs 10 = .ok (.iload 5, 2) := by decide +kernel
theorem dL_runs_12 : decode cL_runs 12 = .ok (.aload_n 0, 1) := by decide +kernel
theorem dL_runs_13 : decode cL_runs 13 = .ok (.iload 5, 2) := by decide +kernel
theorem dL_runs_15 : decode cL_runs 15 = .ok (.iaload, 1) := by decide +kernel
theorem dL_runs_16 : decode cL_runs 16 = .ok (.iastore, 1) := by decide +kernel
theorem dL_runs_17 : decode cL_runs 17 = .ok (.iinc 5 1, 3) := by decide +kernel
theorem dL_runs_20 : decode cL_runs 20 = .ok (.goto (-17), 3) := by decide +kernel
theorem dL_runs_23 : decode cL_runs 23 = .ok (.iconst 0, 1) := by decide +kernel
theorem dL_runs_24 : decode cL_runs 24 = .ok (.istore 5, 2) := by decide +kernel
theorem dL_runs_26 : decode cL_runs 26 = .ok (.iload 5, 2) := by decide +kernel
theorem dL_runs_28 : decode cL_runs 28 = .ok (.aload 4, 2) := by decide +kernel
theorem dL_runs_30 : decode cL_runs 30 = .ok (.iconst 1, 1) := by decide +kernel
theorem dL_runs_31 : decode cL_runs 31 = .ok (.iaload, 1) := by decide +kernel
theorem dL_runs_32 : decode cL_runs 32 = .ok (.if_icmp .ge 71, 3) := by decide +kernel
theorem dL_runs_35 : decode cL_runs 35 = .ok (.aload_n 3, 1) := by decide +kernel
theorem dL_runs_36 : decode cL_runs 36 = .ok (.iload 5, 2) := by decide +kernel
theorem dL_runs_38 : decode cL_runs 38 = .ok (.iaload, 1) := by decide +kernel
theorem dL_runs_39 : decode cL_runs 39 = .ok (.bipush 8, 2) := by decide +kernel
theorem dL_runs_41 : decode cL_runs 41 = .ok (.irem, 1) := by decide +kernel
theorem dL_runs_42 : decode cL_runs 42 = .ok (.istore 6, 2) := by decide +kernel
theorem dL_runs_44 : decode cL_runs 44 = .ok (.aload_n 3, 1) := by decide +kernel
theorem dL_runs_45 : decode cL_runs 45 = .ok (.iload 5, 2) := by decide +kernel
theorem dL_runs_47 : decode cL_runs 47 = .ok (.iaload, 1) := by decide +kernel
theorem dL_runs_48 : decode cL_runs 48 = .ok (.bipush 8, 2) := by decide +kernel
theorem dL_runs_50 : decode cL_runs 50 = .ok (.idiv, 1) := by decide +kernel
theorem dL_runs_51 : decode cL_runs 51 = .ok (.istore 7, 2) := by decide +kernel
theorem dL_runs_53 : decode cL_runs 53 = .ok (.aload_n 1, 1) := by decide +kernel
theorem dL_runs_54 : decode cL_runs 54 = .ok (.iload 6, 2) := by decide +kernel
theorem dL_runs_56 : decode cL_runs 56 = .ok (.iaload, 1) := by decide +kernel
theorem dL_runs_57 : decode cL_runs 57 = .ok (.aload_n 1, 1) := by decide +kernel
theorem dL_runs_58 : decode cL_runs 58 = .ok (.iload 7, 2) := by decide +kernel
theorem dL_runs_60 : decode cL_runs 60 = .ok (.iaload, 1) := by decide +kernel
theorem dL_runs_61 : decode cL_runs 61 = .ok (.if_icmp .ge 10, 3) := by decide +kernel
theorem dL_runs_64 : decode cL_runs 64 = .ok (.aload_n 1, 1) := by decide +kernel
theorem dL_runs_65 : decode cL_runs 65 = .ok (.iload 6, 2) := by decide +kernel
theorem dL_runs_67 : decode cL_runs 67 = .ok (.iaload, 1) := by decide +kernel
theorem dL_runs_68 : decode cL_runs 68 = .ok (.goto 7, 3) := by decide +kernel
theorem dL_runs_71 : decode cL_runs 71 = .ok (.aload_n 1, 1) := by decide +kernel
theorem dL_runs_72 : decode cL_runs 72 = .ok (.iload 7, 2) := by decide +kernel
theorem dL_runs_74 : decode cL_runs 74 = .ok (.iaload, 1) := by decide +kernel
theorem dL_runs_75 : decode cL_runs 75 = .ok (.istore 8, 2) := by decide +kernel
theorem dL_runs_77 : decode cL_runs 77 = .ok (.aload_n 1, 1) := by decide +kernel
theorem dL_runs_78 : decode cL_runs 78 = .ok (.iload 7, 2) := by decide +kernel
theorem dL_runs_80 : decode cL_runs 80 = .ok (.dup2, 1) := by decide +kernel
theorem dL_runs_81 : decode cL_runs 81 = .ok (.iaload, 1) := by decide +kernel
theorem dL_runs_82 : decode cL_runs 82 = .ok (.aload_n 1, 1) := by decide +kernel
theorem dL_runs_83 : decode cL_runs 83 = .ok (.iload 6, 2) := by decide +kernel
theorem dL_runs_85 : decode cL_runs 85 = .ok (.iaload, 1) := by decide +kernel
theorem dL_runs_86 : decode cL_runs 86 = .ok (.iload 8, 2) := by decide +kernel
theorem dL_runs_88 : decode cL_runs 88 = .ok (.isub, 1) := by decide +kernel
theorem dL_runs_89 : decode cL_runs 89 = .ok (.iadd, 1) := by decide +kernel
theorem dL_runs_90 : decode cL_runs 90 = .ok (.iastore, 1) := by decide +kernel
theorem dL_runs_91 : decode cL_runs 91 = .ok (.aload_n 1, 1) := by decide +kernel
theorem dL_runs_92 : decode cL_runs 92 = .ok (.iload 6, 2) := by decide +kernel
theorem dL_runs_94 : decode cL_runs 94 = .ok (.iload 8, 2) := by decide +kernel
theorem dL_runs_96 : decode cL_runs 96 = .ok (.iastore, 1) := by decide +kernel
theorem dL_runs_97 : decode cL_runs 97 = .ok (.iinc 5 1, 3) := by decide +kernel
theorem dL_runs_100 : decode cL_runs 100 = .ok (.goto (-74), 3) := by decide +kernel
theorem dL_runs_103 : decode cL_runs 103 = .ok (.return_, 1) := by decide +kernel
theorem dL_often_0 : decode cL_often 0 = .ok (.iconst 0, 1) := by decide +kernel
theorem dL_often_1 : decode cL_often 1 = .ok (.istore_n 3, 1) := by decide +kernel
theorem dL_often_2 : decode cL_often 2 = .ok (.iconst 0, 1) := by decide +kernel
theorem dL_often_3 : decode cL_often 3 = .ok (.istore 4, 2) := by decide +kernel
theorem dL_often_5 : decode cL_often 5 = .ok (.iload 4, 2) := by decide +kernel
theorem dL_often_7 : decode cL_often 7 = .ok (.iconst 1, 1) := by decide +kernel
theorem dL_often_8 : decode cL_often 8 = .ok (.aload_n 2, 1) := by decide +kernel
theorem dL_often_9 : decode cL_often 9 = .ok (.iconst 0, 1) := by decide +kernel
theorem dL_often_10 : decode cL_often 10 = .ok (.iaload, 1) := by decide +kernel
theorem dL_often_11 : decode cL_often 11 = .ok (.ishl, 1) := by decide +kernel
theorem dL_often_12 : decode cL_often 12 = .ok (.if_icmp .ge 40, 3) := by decide +kernel
theorem dL_often_15 : decode cL_often 15 = .ok (.iload_n 3, 1) := by decide +kernel
theorem dL_often_16 : decode cL_often 16 = .ok (.iload 4, 2) := by decide +kernel
theorem dL_often_18 : decode cL_often 18 = .ok (.iload_n 0, 1) := by decide +kernel
theorem dL_often_19 : decode cL_often 19 = .ok (.iconst (-1), 1) := by decide +kernel
theorem dL_often_20 : decode cL_often 20 = .ok (.iconst 0, 1) := by decide +kernel
theorem dL_often_21 : decode cL_often 21 = .ok (.aload_n 1, 1) := by decide +kernel
theorem dL_often_22 : decode cL_often 22 = .ok (.invokestatic 41, 3) := by decide +kernel
theorem dL_often_25 : decode cL_often 25 = .ok (.iload 4, 2) := by decide +kernel
theorem dL_often_27 : decode cL_often 27 = .ok (.iload_n 0, 1) := by decide +kernel
theorem dL_often_28 : decode cL_often 28 = .ok (.iconst 1, 1) := by decide +kernel
theorem dL_often_29 : decode cL_often 29 = .ok (.iadd, 1) := by decide +kernel
theorem dL_often_30 : decode cL_often 30 = .ok (.iconst (-1), 1) := by decide +kernel
theorem dL_often_31 : decode cL_often 31 = .ok (.iconst 0, 1) := by decide +kernel
theorem dL_often_32 : decode cL_often 32 = .ok (.aload_n 1, 1) := by decide +kernel
theorem dL_often_33 : decode cL_often 33 = .ok (.invokestatic 41, 3) := by decide +kernel
theorem dL_often_36 : decode cL_often 36 = .ok (.if_icmp .ne 7, 3) := by decide +kernel
theorem dL_often_39 : decode cL_often 39 = .ok (.iconst 0, 1) := by decide +kernel
theorem dL_often_40 : decode cL_often 40 = .ok (.goto 4, 3) := by decide +kernel
theorem dL_often_43 : decode cL_often 43 = .ok (.iconst 1, 1) := by decide +kernel
theorem dL_often_44 : decode cL_often 44 = .ok (.iadd, 1) := by decide +kernel
theorem dL_often_45 : decode cL_often 45 = .ok (.istore_n 3, 1) := by decide +kernel
theorem dL_often_46 : decode cL_often 46 = .ok (.iinc 4 1, 3) := by decide +kernel
theorem dL_often_49 : decode cL_often 49 = .ok (.goto (-44), 3) := by decide +kernel
theorem dL_often_52 : decode cL_often 52 = .ok (.iload_n 3, 1) := by decide +kernel
theorem dL_often_53 : decode cL_often 53 = .ok (.ireturn, 1) := by decide +kernel
theorem dL_layers_0 : decode cL_layers 0 = .ok (.bipush 6, 2) := by decide +kernel
theorem dL_layers_2 : decode cL_layers 2 = .ok (.newarray .int, 2) := by decide +kernel
theorem dL_layers_4 : decode cL_layers 4 = .ok (.astore_n 3, 1) := by decide +kernel
theorem dL_layers_5 : decode cL_layers 5 = .ok (.iconst 0, 1) := by decide +kernel
theorem dL_layers_6 : decode cL_layers 6 = .ok (.istore 4, 2) := by decide +kernel
theorem dL_layers_8 : decode cL_layers 8 = .ok (.iconst 0, 1) := by decide +kernel
theorem dL_layers_9 : decode cL_layers 9 = .ok (.istore 5, 2) := by decide +kernel
theorem dL_layers_11 : decode cL_layers 11 = .ok (.iload 5, 2) := by decide +kernel
theorem dL_layers_13 : decode cL_layers 13 = .ok (.aload_n 2, 1) := by decide +kernel
theorem dL_layers_14 : decode cL_layers 14 = .ok (.iconst 1, 1) := by decide +kernel
theorem dL_layers_15 : decode cL_layers 15 = .ok (.iaload, 1) := by decide +kernel
theorem dL_layers_16 : decode cL_layers 16 = .ok (.if_icmp .ge 101, 3) := by decide +kernel
theorem dL_layers_19 : decode cL_layers 19 = .ok (.aload_n 3, 1) := by decide +kernel
theorem dL_layers_20 : decode cL_layers 20 = .ok (.aload_n 1, 1) := by decide +kernel
theorem dL_layers_21 : decode cL_layers 21 = .ok (.iload 5, 2) := by decide +kernel
theorem dL_layers_23 : decode cL_layers 23 = .ok (.iaload, 1) := by decide +kernel
theorem dL_layers_24 : decode cL_layers 24 = .ok (.bipush 8, 2) := by decide +kernel
theorem dL_layers_26 : decode cL_layers 26 = .ok (.irem, 1) := by decide +kernel
theorem dL_layers_27 : decode cL_layers 27 = .ok (.iaload, 1) := by decide +kernel
theorem dL_layers_28 : decode cL_layers 28 = .ok (.istore 6, 2) := by decide +kernel
theorem dL_layers_30 : decode cL_layers 30 = .ok (.aload_n 3, 1) := by decide +kernel
theorem dL_layers_31 : decode cL_layers 31 = .ok (.aload_n 1, 1) := by decide +kernel
theorem dL_layers_32 : decode cL_layers 32 = .ok (.iload 5, 2) := by decide +kernel
theorem dL_layers_34 : decode cL_layers 34 = .ok (.iaload, 1) := by decide +kernel
theorem dL_layers_35 : decode cL_layers 35 = .ok (.bipush 8, 2) := by decide +kernel
theorem dL_layers_37 : decode cL_layers 37 = .ok (.idiv, 1) := by decide +kernel
theorem dL_layers_38 : decode cL_layers 38 = .ok (.iaload, 1) := by decide +kernel
theorem dL_layers_39 : decode cL_layers 39 = .ok (.istore 7, 2) := by decide +kernel
theorem dL_layers_41 : decode cL_layers 41 = .ok (.aload_n 0, 1) := by decide +kernel
theorem dL_layers_42 : decode cL_layers 42 = .ok (.iload 5, 2) := by decide +kernel
theorem dL_layers_44 : decode cL_layers 44 = .ok (.iload 6, 2) := by decide +kernel
theorem dL_layers_46 : decode cL_layers 46 = .ok (.iload 7, 2) := by decide +kernel
theorem dL_layers_48 : decode cL_layers 48 = .ok (.if_icmp .le 8, 3) := by decide +kernel
theorem dL_layers_51 : decode cL_layers 51 = .ok (.iload 6, 2) := by decide +kernel
theorem dL_layers_53 : decode cL_layers 53 = .ok (.goto 5, 3) := by decide +kernel
theorem dL_layers_56 : decode cL_layers 56 = .ok (.iload 7, 2) := by decide +kernel
theorem dL_layers_58 : decode cL_layers 58 = .ok (.iastore, 1) := by decide +kernel
theorem dL_layers_59 : decode cL_layers 59 = .ok (.aload_n 3, 1) := by decide +kernel
theorem dL_layers_60 : decode cL_layers 60 = .ok (.aload_n 1, 1) := by decide +kernel
theorem dL_layers_61 : decode cL_layers 61 = .ok (.iload 5, 2) := by decide +kernel
theorem dL_layers_63 : decode cL_layers 63 = .ok (.iaload, 1) := by decide +kernel
theorem dL_layers_64 : decode cL_layers 64 = .ok (.bipush 8, 2) := by decide +kernel
theorem dL_layers_66 : decode cL_layers 66 = .ok (.irem, 1) := by decide +kernel
theorem dL_layers_67 : decode cL_layers 67 = .ok (.aload_n 0, 1) := by decide +kernel
theorem dL_layers_68 : decode cL_layers 68 = .ok (.iload 5, 2) := by decide +kernel
theorem dL_layers_70 : decode cL_layers 70 = .ok (.iaload, 1) := by decide +kernel
theorem dL_layers_71 : decode cL_layers 71 = .ok (.iconst 1, 1) := by decide +kernel
theorem dL_layers_72 : decode cL_layers 72 = .ok (.iadd, 1) := by decide +kernel
theorem dL_layers_73 : decode cL_layers 73 = .ok (.iastore, 1) := by decide +kernel
theorem dL_layers_74 : decode cL_layers 74 = .ok (.aload_n 3, 1) := by decide +kernel
theorem dL_layers_75 : decode cL_layers 75 = .ok (.aload_n 1, 1) := by decide +kernel
theorem dL_layers_76 : decode cL_layers 76 = .ok (.iload 5, 2) := by decide +kernel
theorem dL_layers_78 : decode cL_layers 78 = .ok (.iaload, 1) := by decide +kernel
theorem dL_layers_79 : decode cL_layers 79 = .ok (.bipush 8, 2) := by decide +kernel
theorem dL_layers_81 : decode cL_layers 81 = .ok (.idiv, 1) := by decide +kernel
theorem dL_layers_82 : decode cL_layers 82 = .ok (.aload_n 0, 1) := by decide +kernel
theorem dL_layers_83 : decode cL_layers 83 = .ok (.iload 5, 2) := by decide +kernel
theorem dL_layers_85 : decode cL_layers 85 = .ok (.iaload, 1) := by decide +kernel
theorem dL_layers_86 : decode cL_layers 86 = .ok (.iconst 1, 1) := by decide +kernel
theorem dL_layers_87 : decode cL_layers 87 = .ok (.iadd, 1) := by decide +kernel
theorem dL_layers_88 : decode cL_layers 88 = .ok (.iastore, 1) := by decide +kernel
theorem dL_layers_89 : decode cL_layers 89 = .ok (.aload_n 0, 1) := by decide +kernel
theorem dL_layers_90 : decode cL_layers 90 = .ok (.iload 5, 2) := by decide +kernel
theorem dL_layers_92 : decode cL_layers 92 = .ok (.iaload, 1) := by decide +kernel
theorem dL_layers_93 : decode cL_layers 93 = .ok (.iload 4, 2) := by decide +kernel
theorem dL_layers_95 : decode cL_layers 95 = .ok (.if_icmp .lt 12, 3) := by decide +kernel
theorem dL_layers_98 : decode cL_layers 98 = .ok (.aload_n 0, 1) := by decide +kernel
theorem dL_layers_99 : decode cL_layers 99 = .ok (.iload 5, 2) := by decide +kernel
theorem dL_layers_101 : decode cL_layers 101 = .ok (.iaload, 1) := by decide +kernel
theorem dL_layers_102 : decode cL_layers 102 = .ok (.iconst 1, 1) := by decide +kernel
theorem dL_layers_103 : decode cL_layers 103 = .ok (.iadd, 1) := by decide +kernel
theorem dL_layers_104 : decode cL_layers 104 = .ok (.goto 5, 3) := by decide +kernel
theorem dL_layers_107 : decode cL_layers 107 = .ok (.iload 4, 2) := by decide +kernel
theorem dL_layers_109 : decode cL_layers 109 = .ok (.istore 4, 2) := by decide +kernel
theorem dL_layers_111 : decode cL_layers 111 = .ok (.iinc 5 1, 3) := by decide +kernel
theorem dL_layers_114 : decode cL_layers 114 = .ok (.goto (-103), 3) := by decide +kernel
theorem dL_layers_117 : decode cL_layers 117 = .ok (.iload 4, 2) := by decide +kernel
theorem dL_layers_119 : decode cL_layers 119 = .ok (.ireturn, 1) := by decide +kernel
theorem dL_puts_0 : decode cL_puts 0 = .ok (.aload_n 2, 1) := by decide +kernel
theorem dL_puts_1 : decode cL_puts 1 = .ok (.aload_n 3, 1) := by decide +kernel
theorem dL_puts_2 : decode cL_puts 2 = .ok (.iconst 1, 1) := by decide +kernel
theorem dL_puts_3 : decode cL_puts 3 = .ok (.iaload, 1) := by decide +kernel
theorem dL_puts_4 : decode cL_puts 4 = .ok (.iload_n 0, 1) := by decide +kernel
theorem dL_puts_5 : decode cL_puts 5 = .ok (.bipush 8, 2) := by decide +kernel
theorem dL_puts_7 : decode cL_puts 7 = .ok (.iload_n 1, 1) := by decide +kernel
theorem dL_puts_8 : decode cL_puts 8 = .ok (.imul, 1) := by decide +kernel
theorem dL_puts_9 : decode cL_puts 9 = .ok (.iadd, 1) := by decide +kernel
theorem dL_puts_10 : decode cL_puts 10 = .ok (.iastore, 1) := by decide +kernel
theorem dL_puts_11 : decode cL_puts 11 = .ok (.aload_n 3, 1) := by decide +kernel
theorem dL_puts_12 : decode cL_puts 12 = .ok (.iconst 1, 1) := by decide +kernel
theorem dL_puts_13 : decode cL_puts 13 = .ok (.dup2, 1) := by decide +kernel
theorem dL_puts_14 : decode cL_puts 14 = .ok (.iaload, 1) := by decide +kernel
theorem dL_puts_15 : decode cL_puts 15 = .ok (.iconst 1, 1) := by decide +kernel
theorem dL_puts_16 : decode cL_puts 16 = .ok (.iadd, 1) := by decide +kernel
theorem dL_puts_17 : decode cL_puts 17 = .ok (.iastore, 1) := by decide +kernel
theorem dL_puts_18 : decode cL_puts 18 = .ok (.return_, 1) := by decide +kernel
theorem dL_made_0 : decode cL_made 0 = .ok (.iload_n 0, 1) := by decide +kernel
theorem dL_made_1 : decode cL_made 1 = .ok (.ifCond .eq 8, 3) := by decide +kernel
theorem dL_made_4 : decode cL_made 4 = .ok (.iload_n 0, 1) := by decide +kernel
theorem dL_made_5 : decode cL_made 5 = .ok (.iconst 1, 1) := by decide +kernel
theorem dL_made_6 : decode cL_made 6 = .ok (.if_icmp .ne 13, 3) := by decide +kernel
theorem dL_made_9 : decode cL_made 9 = .ok (.iload_n 1, 1) := by decide +kernel
theorem dL_made_10 : decode cL_made 10 = .ok (.iload_n 1, 1) := by decide +kernel
theorem dL_made_11 : decode cL_made 11 = .ok (.iconst 1, 1) := by decide +kernel
theorem dL_made_12 : decode cL_made 12 = .ok (.isub, 1) := by decide +kernel
theorem dL_made_13 : decode cL_made 13 = .ok (.imul, 1) := by decide +kernel
theorem dL_made_14 : decode cL_made 14 = .ok (.iconst 2, 1) := by decide +kernel
theorem dL_made_15 : decode cL_made 15 = .ok (.idiv, 1) := by decide +kernel
theorem dL_made_16 : decode cL_made 16 = .ok (.goto 32, 3) := by decide +kernel
theorem dL_made_19 : decode cL_made 19 = .ok (.iload_n 1, 1) := by decide +kernel
theorem dL_made_20 : decode cL_made 20 = .ok (.iconst 2, 1) := by decide +kernel
theorem dL_made_21 : decode cL_made 21 = .ok (.if_icmp .ne 7, 3) := by decide +kernel
theorem dL_made_24 : decode cL_made 24 = .ok (.iconst 1, 1) := by decide +kernel
theorem dL_made_25 : decode cL_made 25 = .ok (.goto 23, 3) := by decide +kernel
theorem dL_made_28 : decode cL_made 28 = .ok (.iload_n 1, 1) := by decide +kernel
theorem dL_made_29 : decode cL_made 29 = .ok (.iconst 3, 1) := by decide +kernel
theorem dL_made_30 : decode cL_made 30 = .ok (.if_icmp .ne 7, 3) := by decide +kernel
theorem dL_made_33 : decode cL_made 33 = .ok (.iconst 3, 1) := by decide +kernel
theorem dL_made_34 : decode cL_made 34 = .ok (.goto 14, 3) := by decide +kernel
theorem dL_made_37 : decode cL_made 37 = .ok (.iload_n 1, 1) := by decide +kernel
theorem dL_made_38 : decode cL_made 38 = .ok (.iconst 4, 1) := by decide +kernel
theorem dL_made_39 : decode cL_made 39 = .ok (.if_icmp .ne 7, 3) := by decide +kernel
theorem dL_made_42 : decode cL_made 42 = .ok (.iconst 5, 1) := by decide +kernel
theorem dL_made_43 : decode cL_made 43 = .ok (.goto 5, 3) := by decide +kernel
theorem dL_made_46 : decode cL_made 46 = .ok (.bipush 9, 2) := by decide +kernel
theorem dL_made_48 : decode cL_made 48 = .ok (.ireturn, 1) := by decide +kernel
theorem dL_makes_0 : decode cL_makes 0 = .ok (.aload_n 2, 1) := by decide +kernel
theorem dL_makes_1 : decode cL_makes 1 = .ok (.iconst 0, 1) := by decide +kernel
theorem dL_makes_2 : decode cL_makes 2 = .ok (.iaload, 1) := by decide +kernel
theorem dL_makes_3 : decode cL_makes 3 = .ok (.istore_n 3, 1) := by decide +kernel
theorem dL_makes_4 : decode cL_makes 4 = .ok (.iload_n 0, 1) := by decide +kernel
theorem dL_makes_5 : decode cL_makes 5 = .ok (.ifCond .ne 49, 3) := by decide +kernel
theorem dL_makes_8 : decode cL_makes 8 = .ok (.iload_n 3, 1) := by decide +kernel
theorem dL_makes_9 : decode cL_makes 9 = .ok (.iconst 1, 1) := by decide +kernel
theorem dL_makes_10 : decode cL_makes 10 = .ok (.isub, 1) := by decide +kernel
theorem dL_makes_11 : decode cL_makes 11 = .ok (.istore 4, 2) := by decide +kernel
theorem dL_makes_13 : decode cL_makes 13 = .ok (.iload 4, 2) := by decide +kernel
theorem dL_makes_15 : decode cL_makes 15 = .ok (.ifCond .le 36, 3) := by decide +kernel
theorem dL_makes_18 : decode cL_makes 18 = .ok (.iconst 0, 1) := by decide +kernel
theorem dL_makes_19 : decode cL_makes 19 = .ok (.istore 5, 2) := by decide +kernel
theorem dL_makes_21 : decode cL_makes 21 = .ok (.iload 5, 2) := by decide +kernel
theorem dL_makes_23 : decode cL_makes 23 = .ok (.iload 4, 2) := by decide +kernel
theorem dL_makes_25 : decode cL_makes 25 = .ok (.if_icmp .ge 20, 3) := by decide +kernel
theorem dL_makes_28 : decode cL_makes 28 = .ok (.iload 5, 2) := by decide +kernel
theorem dL_makes_30 : decode cL_makes 30 = .ok (.iload 5, 2) := by decide +kernel
theorem dL_makes_32 : decode cL_makes 32 = .ok (.iconst 1, 1) := by decide +kernel
theorem dL_makes_33 : decode cL_makes 33 = .ok (.iadd, 1) := by decide +kernel
theorem dL_makes_34 : decode cL_makes 34 = .ok (.aload_n 1, 1) := by decide +kernel
theorem dL_makes_35 : decode cL_makes 35 = .ok (.aload_n 2, 1) := by decide +kernel
theorem dL_makes_36 : decode cL_makes 36 = .ok (.invokestatic 47, 3) := by decide +kernel
theorem dL_makes_39 : decode cL_makes 39 = .ok (.iinc 5 1, 3) := by decide +kernel
theorem dL_makes_42 : decode cL_makes 42 = .ok (.goto (-21), 3) := by decide +kernel
theorem dL_makes_45 : decode cL_makes 45 = .ok (.iinc 4 (-1), 3) := by decide +kernel
theorem dL_makes_48 : decode cL_makes 48 = .ok (.goto (-35), 3) := by decide +kernel
theorem dL_makes_51 : decode cL_makes 51 = .ok (.goto 178, 3) := by decide +kernel
theorem dL_makes_54 : decode cL_makes 54 = .ok (.iload_n 0, 1) := by decide +kernel
theorem dL_makes_55 : decode cL_makes 55 = .ok (.iconst 1, 1) := by decide +kernel
theorem dL_makes_56 : decode cL_makes 56 = .ok (.if_icmp .ne 62, 3) := by decide +kernel
theorem dL_makes_59 : decode cL_makes 59 = .ok (.iconst 0, 1) := by decide +kernel
theorem dL_makes_60 : decode cL_makes 60 = .ok (.istore 4, 2) := by decide +kernel
theorem dL_makes_62 : decode cL_makes 62 = .ok (.iload 4, 2) := by decide +kernel
theorem dL_makes_64 : decode cL_makes 64 = .ok (.iload_n 3, 1) := by decide +kernel
theorem dL_makes_65 : decode cL_makes 65 = .ok (.iload_n 3, 1) := by decide +kernel
theorem dL_makes_66 : decode cL_makes 66 = .ok (.imul, 1) := by decide +kernel
theorem dL_makes_67 : decode cL_makes 67 = .ok (.if_icmp .ge 48, 3) := by decide +kernel
theorem dL_makes_70 : decode cL_makes 70 = .ok (.iload 4, 2) := by decide +kernel
theorem dL_makes_72 : decode cL_makes 72 = .ok (.iload_n 3, 1) := by decide +kernel
theorem dL_makes_73 : decode cL_makes 73 = .ok (.irem, 1) := by decide +kernel
theorem dL_makes_74 : decode cL_makes 74 = .ok (.iconst 1, 1) := by decide +kernel
theorem dL_makes_75 : decode cL_makes 75 = .ok (.iadd, 1) := by decide +kernel
theorem dL_makes_76 : decode cL_makes 76 = .ok (.iload_n 3, 1) := by decide +kernel
theorem dL_makes_77 : decode cL_makes 77 = .ok (.if_icmp .ge 32, 3) := by decide +kernel
theorem dL_makes_80 : decode cL_makes 80 = .ok (.iload 4, 2) := by decide +kernel
theorem dL_makes_82 : decode cL_makes 82 = .ok (.iload_n 3, 1) := by decide +kernel
theorem dL_makes_83 : decode cL_makes 83 = .ok (.irem, 1) := by decide +kernel
theorem dL_makes_84 : decode cL_makes 84 = .ok (.iload 4, 2) := by decide +kernel
theorem dL_makes_86 : decode cL_makes 86 = .ok (.iload_n 3, 1) := by decide +kernel
theorem dL_makes_87 : decode cL_makes 87 = .ok (.idiv, 1) := by decide +kernel
theorem dL_makes_88 : decode cL_makes 88 = .ok (.iadd, 1) := by decide +kernel
theorem dL_makes_89 : decode cL_makes 89 = .ok (.iconst 2, 1) := by decide +kernel
theorem dL_makes_90 : decode cL_makes 90 = .ok (.irem, 1) := by decide +kernel
theorem dL_makes_91 : decode cL_makes 91 = .ok (.ifCond .ne 18, 3) := by decide +kernel
theorem dL_makes_94 : decode cL_makes 94 = .ok (.iload 4, 2) := by decide +kernel
theorem dL_makes_96 : decode cL_makes 96 = .ok (.iload_n 3, 1) := by decide +kernel
theorem dL_makes_97 : decode cL_makes 97 = .ok (.irem, 1) := by decide +kernel
theorem dL_makes_98 : decode cL_makes 98 = .ok (.iload 4, 2) := by decide +kernel
theorem dL_makes_100 : decode cL_makes 100 = .ok (.iload_n 3, 1) := by decide +kernel
theorem dL_makes_101 : decode cL_makes 101 = .ok (.irem, 1) := by decide +kernel
theorem dL_makes_102 : decode cL_makes 102 = .ok (.iconst 1, 1) := by decide +kernel
theorem dL_makes_103 : decode cL_makes 103 = .ok (.iadd, 1) := by decide +kernel
theorem dL_makes_104 : decode cL_makes 104 = .ok (.aload_n 1, 1) := by decide +kernel
theorem dL_makes_105 : decode cL_makes 105 = .ok (.aload_n 2, 1) := by decide +kernel
theorem dL_makes_106 : decode cL_makes 106 = .ok (.invokestatic 47, 3) := by decide +kernel
theorem dL_makes_109 : decode cL_makes 109 = .ok (.iinc 4 1, 3) := by decide +kernel
theorem dL_makes_112 : decode cL_makes 112 = .ok (.goto (-50), 3) := by decide +kernel
theorem dL_makes_115 : decode cL_makes 115 = .ok (.goto 114, 3) := by decide +kernel
theorem dL_makes_118 : decode cL_makes 118 = .ok (.ldc2_w 51, 3) := by decide +kernel
theorem dL_makes_121 : decode cL_makes 121 = .ok (.lstore 4, 2) := by decide +kernel
theorem dL_makes_123 : decode cL_makes 123 = .ok (.iload_n 3, 1) := by decide +kernel
theorem dL_makes_124 : decode cL_makes 124 = .ok (.iconst 5, 1) := by decide +kernel
theorem dL_makes_125 : decode cL_makes 125 = .ok (.if_icmp .ne 8, 3) := by decide +kernel
theorem dL_makes_128 : decode cL_makes 128 = .ok (.lload 4, 2) := by decide +kernel
theorem dL_makes_130 : decode cL_makes 130 = .ok (.goto 26, 3) := by decide +kernel
theorem dL_makes_133 : decode cL_makes 133 = .ok (.iload_n 3, 1) := by decide +kernel
theorem dL_makes_134 : decode cL_makes 134 = .ok (.iconst 4, 1) := by decide +kernel
theorem dL_makes_135 : decode cL_makes 135 = .ok (.if_icmp .ne 9, 3) := by decide +kernel
theorem dL_makes_138 : decode cL_makes 138 = .ok (.ldc2_w 53, 3) := by decide +kernel
theorem dL_makes_141 : decode cL_makes 141 = .ok (.goto 15, 3) := by decide +kernel
theorem dL_makes_144 : decode cL_makes 144 = .ok (.iload_n 3, 1) := by decide +kernel
theorem dL_makes_145 : decode cL_makes 145 = .ok (.iconst 3, 1) := by decide +kernel
theorem dL_makes_146 : decode cL_makes 146 = .ok (.if_icmp .ne 9, 3) := by decide +kernel
theorem dL_makes_149 : decode cL_makes 149 = .ok (.ldc2_w 55, 3) := by decide +kernel
theorem dL_makes_152 : decode cL_makes 152 = .ok (.goto 4, 3) := by decide +kernel
theorem dL_makes_155 : decode cL_makes 155 = .ok (.lconst 1, 1) := by decide +kernel
theorem dL_makes_156 : decode cL_makes 156 = .ok (.lstore 6, 2) := by decide +kernel
theorem dL_makes_158 : decode cL_makes 158 = .ok (.iconst 2, 1) := by decide +kernel
theorem dL_makes_159 : decode cL_makes 159 = .ok (.iload_n 3, 1) := by decide +kernel
theorem dL_makes_160 : decode cL_makes 160 = .ok (.invokestatic 57, 3) := by decide +kernel
theorem dL_makes_163 : decode cL_makes 163 = .ok (.iconst 1, 1) := by decide +kernel
theorem dL_makes_164 : decode cL_makes 164 = .ok (.isub, 1) := by decide +kernel
theorem dL_makes_165 : decode cL_makes 165 = .ok (.istore 8, 2) := by decide +kernel
theorem dL_makes_167 : decode cL_makes 167 = .ok (.iload 8, 2) := by decide +kernel
theorem dL_makes_169 : decode cL_makes 169 = .ok (.ifCond .lt 60, 3) := by decide +kernel
theorem dL_makes_172 : decode cL_makes 172 = .ok (.lload 6, 2) := by decide +kernel
theorem dL_makes_174 : decode cL_makes 174 = .ok (.lstore 9, 2) := by decide +kernel
theorem dL_makes_176 : decode cL_makes 176 = .ok (.iconst 0, 1) := by decide +kernel
theorem dL_makes_177 : decode cL_makes 177 = .ok (.istore 11, 2) := by decide +kernel
theorem dL_makes_179 : decode cL_makes 179 = .ok (.iload 11, 2) := by decide +kernel
theorem dL_makes_181 : decode cL_makes 181 = .ok (.iload 8, 2) := by decide +kernel
theorem dL_makes_183 : decode cL_makes 183 = .ok (.if_icmp .ge 17, 3) := by decide +kernel
theorem dL_makes_186 : decode cL_makes 186 = .ok (.lload 9, 2) := by decide +kernel
theorem dL_makes_188 : decode cL_makes 188 = .ok (.ldc2_w 60, 3) := by decide +kernel
theorem dL_makes_191 : decode cL_makes 191 = .ok (.ldiv, 1) := by decide +kernel
theorem dL_makes_192 : decode cL_makes 192 = .ok (.lstore 9, 2) := by decide +kernel
theorem dL_makes_194 : decode cL_makes 194 = .ok (.iinc 11 1, 3) := by decide +kernel
theorem dL_makes_197 : decode cL_makes 197 = .ok (.goto (-18), 3) := by decide +kernel
theorem dL_makes_200 : decode cL_makes 200 = .ok (.lload 9, 2) := by decide +kernel
theorem dL_makes_202 : decode cL_makes 202 = .ok (.ldc2_w 62, 3) := by decide +kernel
theorem dL_makes_205 : decode cL_makes 205 = .ok (.ldiv, 1) := by decide +kernel
theorem dL_makes_206 : decode cL_makes 206 = .ok (.ldc2_w 62, 3) := by decide +kernel
theorem dL_makes_209 : decode cL_makes 209 = .ok (.lrem, 1) := by decide +kernel
theorem dL_makes_210 : decode cL_makes 210 = .ok (.l2i, 1) := by decide +kernel
theorem dL_makes_211 : decode cL_makes 211 = .ok (.lload 9, 2) := by decide +kernel
theorem dL_makes_213 : decode cL_makes 213 = .ok (.ldc2_w 62, 3) := by decide +kernel
theorem dL_makes_216 : decode cL_makes 216 = .ok (.lrem, 1) := by decide +kernel
theorem dL_makes_217 : decode cL_makes 217 = .ok (.l2i, 1) := by decide +kernel
theorem dL_makes_218 : decode cL_makes 218 = .ok (.aload_n 1, 1) := by decide +kernel
theorem dL_makes_219 : decode cL_makes 219 = .ok (.aload_n 2, 1) := by decide +kernel
theorem dL_makes_220 : decode cL_makes 220 = .ok (.invokestatic 47, 3) := by decide +kernel
theorem dL_makes_223 : decode cL_makes 223 = .ok (.iinc 8 (-1), 3) := by decide +kernel
theorem dL_makes_226 : decode cL_makes 226 = .ok (.goto (-59), 3) := by decide +kernel
theorem dL_makes_229 : decode cL_makes 229 = .ok (.return_, 1) := by decide +kernel
theorem dL_fault_0 : decode cL_fault 0 = .ok (.bipush 6, 2) := by decide +kernel
theorem dL_fault_2 : decode cL_fault 2 = .ok (.newarray .int, 2) := by decide +kernel
theorem dL_fault_4 : decode cL_fault 4 = .ok (.astore_n 2, 1) := by decide +kernel
theorem dL_fault_5 : decode cL_fault 5 = .ok (.iconst 1, 1) := by decide +kernel
theorem dL_fault_6 : decode cL_fault 6 = .ok (.istore_n 3, 1) := by decide +kernel
theorem dL_fault_7 : decode cL_fault 7 = .ok (.iconst 0, 1) := by decide +kernel
theorem dL_fault_8 : decode cL_fault 8 = .ok (.istore 4, 2) := by decide +kernel
theorem dL_fault_10 : decode cL_fault 10 = .ok (.iload 4, 2) := by decide +kernel
theorem dL_fault_12 : decode cL_fault 12 = .ok (.aload_n 1, 1) := by decide +kernel
theorem dL_fault_13 : decode cL_fault 13 = .ok (.iconst 2, 1) := by decide +kernel
theorem dL_fault_14 : decode cL_fault 14 = .ok (.iaload, 1) := by decide +kernel
theorem dL_fault_15 : decode cL_fault 15 = .ok (.if_icmp .ge 142, 3) := by decide +kernel
theorem dL_fault_18 : decode cL_fault 18 = .ok (.aload_n 0, 1) := by decide +kernel
theorem dL_fault_19 : decode cL_fault 19 = .ok (.iload 4, 2) := by decide +kernel
theorem dL_fault_21 : decode cL_fault 21 = .ok (.iaload, 1) := by decide +kernel
theorem dL_fault_22 : decode cL_fault 22 = .ok (.bipush 48, 2) := by decide +kernel
theorem dL_fault_24 : decode cL_fault 24 = .ok (.isub, 1) := by decide +kernel
theorem dL_fault_25 : decode cL_fault 25 = .ok (.istore 5, 2) := by decide +kernel
theorem dL_fault_27 : decode cL_fault 27 = .ok (.iload 4, 2) := by decide +kernel
theorem dL_fault_29 : decode cL_fault 29 = .ok (.iconst 4, 1) := by decide +kernel
theorem dL_fault_30 : decode cL_fault 30 = .ok (.irem, 1) := by decide +kernel
theorem dL_fault_31 : decode cL_fault 31 = .ok (.iconst 1, 1) := by decide +kernel
theorem dL_fault_32 : decode cL_fault 32 = .ok (.if_icmp .ne 20, 3) := by decide +kernel
theorem dL_fault_35 : decode cL_fault 35 = .ok (.aload_n 0, 1) := by decide +kernel
theorem dL_fault_36 : decode cL_fault 36 = .ok (.iload 4, 2) := by decide +kernel
theorem dL_fault_38 : decode cL_fault 38 = .ok (.iaload, 1) := by decide +kernel
theorem dL_fault_39 : decode cL_fault 39 = .ok (.bipush 58, 2) := by decide +kernel
theorem dL_fault_41 : decode cL_fault 41 = .ok (.if_icmp .ne 7, 3) := by decide +kernel
theorem dL_fault_44 : decode cL_fault 44 = .ok (.iconst 1, 1) := by decide +kernel
theorem dL_fault_45 : decode cL_fault 45 = .ok (.goto 67, 3) := by decide +kernel
theorem dL_fault_48 : decode cL_fault 48 = .ok (.iconst 0, 1) := by decide +kernel
theorem dL_fault_49 : decode cL_fault 49 = .ok (.goto 63, 3) := by decide +kernel
theorem dL_fault_52 : decode cL_fault 52 = .ok (.iload 4, 2) := by decide +kernel
theorem dL_fault_54 : decode cL_fault 54 = .ok (.iconst 4, 1) := by decide +kernel
theorem dL_fault_55 : decode cL_fault 55 = .ok (.irem, 1) := by decide +kernel
theorem dL_fault_56 : decode cL_fault 56 = .ok (.iconst 3, 1) := by decide +kernel
theorem dL_fault_57 : decode cL_fault 57 = .ok (.if_icmp .ne 29, 3) := by decide +kernel
theorem dL_fault_60 : decode cL_fault 60 = .ok (.aload_n 0, 1) := by decide +kernel
theorem dL_fault_61 : decode cL_fault 61 = .ok (.iload 4, 2) := by decide +kernel
theorem dL_fault_63 : decode cL_fault 63 = .ok (.iaload, 1) := by decide +kernel
theorem dL_fault_64 : decode cL_fault 64 = .ok (.bipush 32, 2) := by decide +kernel
theorem dL_fault_66 : decode cL_fault 66 = .ok (.if_icmp .eq 12, 3) := by decide +kernel
theorem dL_fault_69 : decode cL_fault 69 = .ok (.aload_n 0, 1) := by decide +kernel
theorem dL_fault_70 : decode cL_fault 70 = .ok (.iload 4, 2) := by decide +kernel
theorem dL_fault_72 : decode cL_fault 72 = .ok (.iaload, 1) := by decide +kernel
theorem dL_fault_73 : decode cL_fault 73 = .ok (.bipush 47, 2) := by decide +kernel
theorem dL_fault_75 : decode cL_fault 75 = .ok (.if_icmp .ne 7, 3) := by decide +kernel
theorem dL_fault_78 : decode cL_fault 78 = .ok (.iconst 1, 1) := by decide +kernel
theorem dL_fault_79 : decode cL_fault 79 = .ok (.goto 33, 3) := by decide +kernel
theorem dL_fault_82 : decode cL_fault 82 = .ok (.iconst 0, 1) := by decide +kernel
theorem dL_fault_83 : decode cL_fault 83 = .ok (.goto 29, 3) := by decide +kernel
theorem dL_fault_86 : decode cL_fault 86 = .ok (.iload 5, 2) := by decide +kernel
theorem dL_fault_88 : decode cL_fault 88 = .ok (.ifCond .lt 23, 3) := by decide +kernel
theorem dL_fault_91 : decode cL_fault 91 = .ok (.iload 5, 2) := by decide +kernel
theorem dL_fault_93 : decode cL_fault 93 = .ok (.aload_n 1, 1) := by decide +kernel
theorem dL_fault_94 : decode cL_fault 94 = .ok (.iconst 0, 1) := by decide +kernel
theorem dL_fault_95 : decode cL_fault 95 = .ok (.iaload, 1) := by decide +kernel
theorem dL_fault_96 : decode cL_fault 96 = .ok (.if_icmp .ge 15, 3) := by decide +kernel
theorem dL_fault_99 : decode cL_fault 99 = .ok (.aload_n 2, 1) := by decide +kernel
theorem dL_fault_100 : decode cL_fault 100 = .ok (.iload 5, 2) := by decide +kernel
theorem dL_fault_102 : decode cL_fault 102 = .ok (.iaload, 1) := by decide +kernel
theorem dL_fault_103 : decode cL_fault 103 = .ok (.iload_n 3, 1) := by decide +kernel
theorem dL_fault_104 : decode cL_fault 104 = .ok (.if_icmp .ge 7, 3) := by decide +kernel
theorem dL_fault_107 : decode cL_fault 107 = .ok (.iconst 1, 1) := by decide +kernel
theorem dL_fault_108 : decode cL_fault 108 = .ok (.goto 4, 3) := by decide +kernel
theorem dL_fault_111 : decode cL_fault 111 = .ok (.iconst 0, 1) := by decide +kernel
theorem dL_fault_112 : decode cL_fault 112 = .ok (.istore 6, 2) := by decide +kernel
theorem dL_fault_114 : decode cL_fault 114 = .ok (.iload 6, 2) := by decide +kernel
theorem dL_fault_116 : decode cL_fault 116 = .ok (.ifCond .ne 6, 3) := by decide +kernel
theorem dL_fault_119 : decode cL_fault 119 = .ok (.iload 4, 2) := by decide +kernel
theorem dL_fault_121 : decode cL_fault 121 = .ok (.ireturn, 1) := by decide +kernel
theorem dL_fault_122 : decode cL_fault 122 = .ok (.iload_n 3, 1) := by decide +kernel
theorem dL_fault_123 : decode cL_fault 123 = .ok (.aload_n 0, 1) := by decide +kernel
theorem dL_fault_124 : decode cL_fault 124 = .ok (.iload 4, 2) := by decide +kernel
theorem dL_fault_126 : decode cL_fault 126 = .ok (.iaload, 1) := by decide +kernel
theorem dL_fault_127 : decode cL_fault 127 = .ok (.bipush 47, 2) := by decide +kernel
theorem dL_fault_129 : decode cL_fault 129 = .ok (.if_icmp .ne 7, 3) := by decide +kernel
theorem dL_fault_132 : decode cL_fault 132 = .ok (.iconst 1, 1) := by decide +kernel
theorem dL_fault_133 : decode cL_fault 133 = .ok (.goto 4, 3) := by decide +kernel
theorem dL_fault_136 : decode cL_fault 136 = .ok (.iconst 0, 1) := by decide +kernel
theorem dL_fault_137 : decode cL_fault 137 = .ok (.iadd, 1) := by decide +kernel
theorem dL_fault_138 : decode cL_fault 138 = .ok (.istore_n 3, 1) := by decide +kernel
theorem dL_fault_139 : decode cL_fault 139 = .ok (.iload 4, 2) := by decide +kernel
theorem dL_fault_141 : decode cL_fault 141 = .ok (.iconst 2, 1) := by decide +kernel
theorem dL_fault_142 : decode cL_fault 142 = .ok (.irem, 1) := by decide +kernel
theorem dL_fault_143 : decode cL_fault 143 = .ok (.ifCond .ne 8, 3) := by decide +kernel
theorem dL_fault_146 : decode cL_fault 146 = .ok (.aload_n 2, 1) := by decide +kernel
theorem dL_fault_147 : decode cL_fault 147 = .ok (.iload 5, 2) := by decide +kernel
theorem dL_fault_149 : decode cL_fault 149 = .ok (.iload_n 3, 1) := by decide +kernel
theorem dL_fault_150 : decode cL_fault 150 = .ok (.iastore, 1) := by decide +kernel
theorem dL_fault_151 : decode cL_fault 151 = .ok (.iinc 4 1, 3) := by decide +kernel
theorem dL_fault_154 : decode cL_fault 154 = .ok (.goto (-144), 3) := by decide +kernel
theorem dL_fault_157 : decode cL_fault 157 = .ok (.aload_n 1, 1) := by decide +kernel
theorem dL_fault_158 : decode cL_fault 158 = .ok (.iconst 2, 1) := by decide +kernel
theorem dL_fault_159 : decode cL_fault 159 = .ok (.iaload, 1) := by decide +kernel
theorem dL_fault_160 : decode cL_fault 160 = .ok (.iconst 4, 1) := by decide +kernel
theorem dL_fault_161 : decode cL_fault 161 = .ok (.irem, 1) := by decide +kernel
theorem dL_fault_162 : decode cL_fault 162 = .ok (.iconst 3, 1) := by decide +kernel
theorem dL_fault_163 : decode cL_fault 163 = .ok (.if_icmp .ne 7, 3) := by decide +kernel
theorem dL_fault_166 : decode cL_fault 166 = .ok (.iconst (-1), 1) := by decide +kernel
theorem dL_fault_167 : decode cL_fault 167 = .ok (.goto 6, 3) := by decide +kernel
theorem dL_fault_170 : decode cL_fault 170 = .ok (.aload_n 1, 1) := by decide +kernel
theorem dL_fault_171 : decode cL_fault 171 = .ok (.iconst 2, 1) := by decide +kernel
theorem dL_fault_172 : decode cL_fault 172 = .ok (.iaload, 1) := by decide +kernel
theorem dL_fault_173 : decode cL_fault 173 = .ok (.ireturn, 1) := by decide +kernel
theorem dL_written_0 : decode cL_written 0 = .ok (.bipush 24, 2) := by decide +kernel
theorem dL_written_2 : decode cL_written 2 = .ok (.newarray .int, 2) := by decide +kernel
theorem dL_written_4 : decode cL_written 4 = .ok (.astore_n 3, 1) := by decide +kernel
theorem dL_written_5 : decode cL_written 5 = .ok (.aload_n 3, 1) := by decide +kernel
theorem dL_written_6 : decode cL_written 6 = .ok (.aload_n 1, 1) := by decide +kernel
theorem dL_written_7 : decode cL_written 7 = .ok (.aload_n 2, 1) := by decide +kernel
theorem dL_written_8 : decode cL_written 8 = .ok (.invokestatic 64, 3) := by decide +kernel
theorem dL_written_11 : decode cL_written 11 = .ok (.istore 4, 2) := by decide +kernel
theorem dL_written_13 : decode cL_written 13 = .ok (.iconst 0, 1) := by decide +kernel
theorem dL_written_14 : decode cL_written 14 = .ok (.istore 5, 2) := by decide +kernel
theorem dL_written_16 : decode cL_written 16 = .ok (.iconst 0, 1) := by decide +kernel
theorem dL_written_17 : decode cL_written 17 = .ok (.istore 6, 2) := by decide +kernel
theorem dL_written_19 : decode cL_written 19 = .ok (.iload 6, 2) := by decide +kernel
theorem dL_written_21 : decode cL_written 21 = .ok (.iload 4, 2) := by decide +kernel
theorem dL_written_23 : decode cL_written 23 = .ok (.if_icmp .ge 186, 3) := by decide +kernel
theorem dL_written_26 : decode cL_written 26 = .ok (.iconst 1, 1) := by decide +kernel
theorem dL_written_27 : decode cL_written 27 = .ok (.istore 7, 2) := by decide +kernel
theorem dL_written_29 : decode cL_written 29 = .ok (.iconst 0, 1) := by decide +kernel
theorem dL_written_30 : decode cL_written 30 = .ok (.istore 8, 2) := by decide +kernel
theorem dL_written_32 : decode cL_written 32 = .ok (.iload 8, 2) := by decide +kernel
theorem dL_written_34 : decode cL_written 34 = .ok (.aload_n 2, 1) := by decide +kernel
theorem dL_written_35 : decode cL_written 35 = .ok (.iconst 0, 1) := by decide +kernel
theorem dL_written_36 : decode cL_written 36 = .ok (.iaload, 1) := by decide +kernel
theorem dL_written_37 : decode cL_written 37 = .ok (.if_icmp .ge 166, 3) := by decide +kernel
theorem dL_written_40 : decode cL_written 40 = .ok (.iconst 0, 1) := by decide +kernel
theorem dL_written_41 : decode cL_written 41 = .ok (.istore 9, 2) := by decide +kernel
theorem dL_written_43 : decode cL_written 43 = .ok (.iload 9, 2) := by decide +kernel
theorem dL_written_45 : decode cL_written 45 = .ok (.aload_n 2, 1) := by decide +kernel
theorem dL_written_46 : decode cL_written 46 = .ok (.iconst 1, 1) := by decide +kernel
theorem dL_written_47 : decode cL_written 47 = .ok (.iaload, 1) := by decide +kernel
theorem dL_written_48 : decode cL_written 48 = .ok (.if_icmp .ge 149, 3) := by decide +kernel
theorem dL_written_51 : decode cL_written 51 = .ok (.aload_n 1, 1) := by decide +kernel
theorem dL_written_52 : decode cL_written 52 = .ok (.iload 9, 2) := by decide +kernel
theorem dL_written_54 : decode cL_written 54 = .ok (.iaload, 1) := by decide +kernel
theorem dL_written_55 : decode cL_written 55 = .ok (.bipush 8, 2) := by decide +kernel
theorem dL_written_57 : decode cL_written 57 = .ok (.irem, 1) := by decide +kernel
theorem dL_written_58 : decode cL_written 58 = .ok (.istore 10, 2) := by decide +kernel
theorem dL_written_60 : decode cL_written 60 = .ok (.aload_n 1, 1) := by decide +kernel
theorem dL_written_61 : decode cL_written 61 = .ok (.iload 9, 2) := by decide +kernel
theorem dL_written_63 : decode cL_written 63 = .ok (.iaload, 1) := by decide +kernel
theorem dL_written_64 : decode cL_written 64 = .ok (.bipush 8, 2) := by decide +kernel
theorem dL_written_66 : decode cL_written 66 = .ok (.idiv, 1) := by decide +kernel
theorem dL_written_67 : decode cL_written 67 = .ok (.istore 11, 2) := by decide +kernel
theorem dL_written_69 : decode cL_written 69 = .ok (.aload_n 3, 1) := by decide +kernel
theorem dL_written_70 : decode cL_written 70 = .ok (.iload 9, 2) := by decide +kernel
theorem dL_written_72 : decode cL_written 72 = .ok (.iaload, 1) := by decide +kernel
theorem dL_written_73 : decode cL_written 73 = .ok (.iload 6, 2) := by decide +kernel
theorem dL_written_75 : decode cL_written 75 = .ok (.if_icmp .ne 116, 3) := by decide +kernel
theorem dL_written_78 : decode cL_written 78 = .ok (.iload 10, 2) := by decide +kernel
theorem dL_written_80 : decode cL_written 80 = .ok (.iload 11, 2) := by decide +kernel
theorem dL_written_82 : decode cL_written 82 = .ok (.if_icmp .ge 8, 3) := by decide +kernel
theorem dL_written_85 : decode cL_written 85 = .ok (.iload 10, 2) := by decide +kernel
theorem dL_written_87 : decode cL_written 87 = .ok (.goto 5, 3) := by decide +kernel
theorem dL_written_90 : decode cL_written 90 = .ok (.iload 11, 2) := by decide +kernel
theorem dL_written_92 : decode cL_written 92 = .ok (.iload 8, 2) := by decide +kernel
theorem dL_written_94 : decode cL_written 94 = .ok (.if_icmp .ne 97, 3) := by decide +kernel
theorem dL_written_97 : decode cL_written 97 = .ok (.iload 5, 2) := by decide +kernel
theorem dL_written_99 : decode cL_written 99 = .ok (.ifCond .le 22, 3) := by decide +kernel
theorem dL_written_102 : decode cL_written 102 = .ok (.iload 5, 2) := by decide +kernel
theorem dL_written_104 : decode cL_written 104 = .ok (.iload_n 0, 1) := by decide +kernel
theorem dL_written_105 : decode cL_written 105 = .ok (.if_icmp .ne 16, 3) := by decide +kernel
theorem dL_written_108 : decode cL_written 108 = .ok (.iload 7, 2) := by decide +kernel
theorem dL_written_110 : decode cL_written 110 = .ok (.ifCond .eq 8, 3) := by decide +kernel
theorem dL_written_113 : decode cL_written 113 = .ok (.bipush 47, 2) := by decide +kernel
theorem dL_written_115 : decode cL_written 115 = .ok (.goto 5, 3) := by decide +kernel
theorem dL_written_118 : decode cL_written 118 = .ok (.bipush 32, 2) := by decide +kernel
theorem dL_written_120 : decode cL_written 120 = .ok (.ireturn, 1) := by decide +kernel
theorem dL_written_121 : decode cL_written 121 = .ok (.iload 5, 2) := by decide +kernel
theorem dL_written_123 : decode cL_written 123 = .ok (.iload 5, 2) := by decide +kernel
theorem dL_written_125 : decode cL_written 125 = .ok (.ifCond .le 7, 3) := by decide +kernel
theorem dL_written_128 : decode cL_written 128 = .ok (.iconst 1, 1) := by decide +kernel
theorem dL_written_129 : decode cL_written 129 = .ok (.goto 4, 3) := by decide +kernel
theorem dL_written_132 : decode cL_written 132 = .ok (.iconst 0, 1) := by decide +kernel
theorem dL_written_133 : decode cL_written 133 = .ok (.iadd, 1) := by decide +kernel
theorem dL_written_134 : decode cL_written 134 = .ok (.istore 5, 2) := by decide +kernel
theorem dL_written_136 : decode cL_written 136 = .ok (.iload_n 0, 1) := by decide +kernel
theorem dL_written_137 : decode cL_written 137 = .ok (.iload 5, 2) := by decide +kernel
theorem dL_written_139 : decode cL_written 139 = .ok (.if_icmp .lt 46, 3) := by decide +kernel
theorem dL_written_142 : decode cL_written 142 = .ok (.iload_n 0, 1) := by decide +kernel
theorem dL_written_143 : decode cL_written 143 = .ok (.iload 5, 2) := by decide +kernel
theorem dL_written_145 : decode cL_written 145 = .ok (.iconst 3, 1) := by decide +kernel
theorem dL_written_146 : decode cL_written 146 = .ok (.iadd, 1) := by decide +kernel
theorem dL_written_147 : decode cL_written 147 = .ok (.if_icmp .ge 38, 3) := by decide +kernel
theorem dL_written_150 : decode cL_written 150 = .ok (.iload_n 0, 1) := by decide +kernel
theorem dL_written_151 : decode cL_written 151 = .ok (.iload 5, 2) := by decide +kernel
theorem dL_written_153 : decode cL_written 153 = .ok (.if_icmp .ne 12, 3) := by decide +kernel
theorem dL_written_156 : decode cL_written 156 = .ok (.bipush 48, 2) := by decide +kernel
theorem dL_written_158 : decode cL_written 158 = .ok (.iload 10, 2) := by decide +kernel
theorem dL_written_160 : decode cL_written 160 = .ok (.iadd, 1) := by decide +kernel
theorem dL_written_161 : decode cL_written 161 = .ok (.i2c, 1) := by decide +kernel
theorem dL_written_162 : decode cL_written 162 = .ok (.goto 22, 3) := by decide +kernel
theorem dL_written_165 : decode cL_written 165 = .ok (.iload_n 0, 1) := by decide +kernel
theorem dL_written_166 : decode cL_written 166 = .ok (.iload 5, 2) := by decide +kernel
theorem dL_written_168 : decode cL_written 168 = .ok (.iconst 1, 1) := by decide +kernel
theorem dL_written_169 : decode cL_written 169 = .ok (.iadd, 1) := by decide +kernel
theorem dL_written_170 : decode cL_written 170 = .ok (.if_icmp .ne 8, 3) := by decide +kernel
theorem dL_written_173 : decode cL_written 173 = .ok (.bipush 58, 2) := by decide +kernel
theorem dL_written_175 : decode cL_written 175 = .ok (.goto 9, 3) := by decide +kernel
theorem dL_written_178 : decode cL_written 178 = .ok (.bipush 48, 2) := by decide +kernel
theorem dL_written_180 : decode cL_written 180 = .ok (.iload 11, 2) := by decide +kernel
theorem dL_written_182 : decode cL_written 182 = .ok (.iadd, 1) := by decide +kernel
theorem dL_written_183 : decode cL_written 183 = .ok (.i2c, 1) := by decide +kernel
theorem dL_written_184 : decode cL_written 184 = .ok (.ireturn, 1) := by decide +kernel
theorem dL_written_185 : decode cL_written 185 = .ok (.iinc 5 3, 3) := by decide +kernel
theorem dL_written_188 : decode cL_written 188 = .ok (.iconst 0, 1) := by decide +kernel
theorem dL_written_189 : decode cL_written 189 = .ok (.istore 7, 2) := by decide +kernel
theorem dL_written_191 : decode cL_written 191 = .ok (.iinc 9 1, 3) := by decide +kernel
theorem dL_written_194 : decode cL_written 194 = .ok (.goto (-151), 3) := by decide +kernel
theorem dL_written_197 : decode cL_written 197 = .ok (.iinc 8 1, 3) := by decide +kernel
theorem dL_written_200 : decode cL_written 200 = .ok (.goto (-168), 3) := by decide +kernel
theorem dL_written_203 : decode cL_written 203 = .ok (.iinc 6 1, 3) := by decide +kernel
theorem dL_written_206 : decode cL_written 206 = .ok (.goto (-187), 3) := by decide +kernel
theorem dL_written_209 : decode cL_written 209 = .ok (.bipush 32, 2) := by decide +kernel
theorem dL_written_211 : decode cL_written 211 = .ok (.ireturn, 1) := by decide +kernel
theorem dL_agrees_0 : decode cL_agrees 0 = .ok (.iconst 1, 1) := by decide +kernel
theorem dL_agrees_1 : decode cL_agrees 1 = .ok (.istore_n 3, 1) := by decide +kernel
theorem dL_agrees_2 : decode cL_agrees 2 = .ok (.iconst 0, 1) := by decide +kernel
theorem dL_agrees_3 : decode cL_agrees 3 = .ok (.istore 4, 2) := by decide +kernel
theorem dL_agrees_5 : decode cL_agrees 5 = .ok (.iload 4, 2) := by decide +kernel
theorem dL_agrees_7 : decode cL_agrees 7 = .ok (.bipush 36, 2) := by decide +kernel
theorem dL_agrees_9 : decode cL_agrees 9 = .ok (.if_icmp .ge 43, 3) := by decide +kernel
theorem dL_agrees_12 : decode cL_agrees 12 = .ok (.iload_n 3, 1) := by decide +kernel
theorem dL_agrees_13 : decode cL_agrees 13 = .ok (.ifCond .eq 31, 3) := by decide +kernel
theorem dL_agrees_16 : decode cL_agrees 16 = .ok (.aload_n 1, 1) := by decide +kernel
theorem dL_agrees_17 : decode cL_agrees 17 = .ok (.iload 4, 2) := by decide +kernel
theorem dL_agrees_19 : decode cL_agrees 19 = .ok (.iaload, 1) := by decide +kernel
theorem dL_agrees_20 : decode cL_agrees 20 = .ok (.ifCond .eq 20, 3) := by decide +kernel
theorem dL_agrees_23 : decode cL_agrees 23 = .ok (.aload_n 0, 1) := by decide +kernel
theorem dL_agrees_24 : decode cL_agrees 24 = .ok (.iload 4, 2) := by decide +kernel
theorem dL_agrees_26 : decode cL_agrees 26 = .ok (.bipush 6, 2) := by decide +kernel
theorem dL_agrees_28 : decode cL_agrees 28 = .ok (.idiv, 1) := by decide +kernel
theorem dL_agrees_29 : decode cL_agrees 29 = .ok (.iaload, 1) := by decide +kernel
theorem dL_agrees_30 : decode cL_agrees 30 = .ok (.aload_n 0, 1) := by decide +kernel
theorem dL_agrees_31 : decode cL_agrees 31 = .ok (.iload 4, 2) := by decide +kernel
theorem dL_agrees_33 : decode cL_agrees 33 = .ok (.bipush 6, 2) := by decide +kernel
theorem dL_agrees_35 : decode cL_agrees 35 = .ok (.irem, 1) := by decide +kernel
theorem dL_agrees_36 : decode cL_agrees 36 = .ok (.iaload, 1) := by decide +kernel
theorem dL_agrees_37 : decode cL_agrees 37 = .ok (.if_icmp .ge 7, 3) := by decide +kernel
theorem dL_agrees_40 : decode cL_agrees 40 = .ok (.iconst 1, 1) := by decide +kernel
theorem dL_agrees_41 : decode cL_agrees 41 = .ok (.goto 4, 3) := by decide +kernel
theorem dL_agrees_44 : decode cL_agrees 44 = .ok (.iconst 0, 1) := by decide +kernel
theorem dL_agrees_45 : decode cL_agrees 45 = .ok (.istore_n 3, 1) := by decide +kernel
theorem dL_agrees_46 : decode cL_agrees 46 = .ok (.iinc 4 1, 3) := by decide +kernel
theorem dL_agrees_49 : decode cL_agrees 49 = .ok (.goto (-44), 3) := by decide +kernel
theorem dL_agrees_52 : decode cL_agrees 52 = .ok (.iload_n 3, 1) := by decide +kernel
theorem dL_agrees_53 : decode cL_agrees 53 = .ok (.ireturn, 1) := by decide +kernel
theorem dL_agreeing_0 : decode cL_agreeing 0 = .ok (.bipush 6, 2) := by decide +kernel
theorem dL_agreeing_2 : decode cL_agreeing 2 = .ok (.newarray .int, 2) := by decide +kernel
theorem dL_agreeing_4 : decode cL_agreeing 4 = .ok (.astore 4, 2) := by decide +kernel
theorem dL_agreeing_6 : decode cL_agreeing 6 = .ok (.iconst 0, 1) := by decide +kernel
theorem dL_agreeing_7 : decode cL_agreeing 7 = .ok (.istore 5, 2) := by decide +kernel
theorem dL_agreeing_9 : decode cL_agreeing 9 = .ok (.iload 5, 2) := by decide +kernel
theorem dL_agreeing_11 : decode cL_agreeing 11 = .ok (.aload_n 3, 1) := by decide +kernel
theorem dL_agreeing_12 : decode cL_agreeing 12 = .ok (.iconst 0, 1) := by decide +kernel
theorem dL_agreeing_13 : decode cL_agreeing 13 = .ok (.iaload, 1) := by decide +kernel
theorem dL_agreeing_14 : decode cL_agreeing 14 = .ok (.if_icmp .ge 16, 3) := by decide +kernel
theorem dL_agreeing_17 : decode cL_agreeing 17 = .ok (.aload 4, 2) := by decide +kernel
theorem dL_agreeing_19 : decode cL_agreeing 19 = .ok (.iload 5, 2) := by decide +kernel
theorem dL_agreeing_21 : decode cL_agreeing 21 = .ok (.iload 5, 2) := by decide +kernel
theorem dL_agreeing_23 : decode cL_agreeing 23 = .ok (.iastore, 1) := by decide +kernel
theorem dL_agreeing_24 : decode cL_agreeing 24 = .ok (.iinc 5 1, 3) := by decide +kernel
theorem dL_agreeing_27 : decode cL_agreeing 27 = .ok (.goto (-18), 3) := by decide +kernel
theorem dL_agreeing_30 : decode cL_agreeing 30 = .ok (.iconst 0, 1) := by decide +kernel
theorem dL_agreeing_31 : decode cL_agreeing 31 = .ok (.istore 5, 2) := by decide +kernel
theorem dL_agreeing_33 : decode cL_agreeing 33 = .ok (.iconst 1, 1) := by decide +kernel
theorem dL_agreeing_34 : decode cL_agreeing 34 = .ok (.istore 6, 2) := by decide +kernel
theorem dL_agreeing_36 : decode cL_agreeing 36 = .ok (.iload 6, 2) := by decide +kernel
theorem dL_agreeing_38 : decode cL_agreeing 38 = .ok (.ifCond .eq 54, 3) := by decide +kernel
theorem dL_agreeing_41 : decode cL_agreeing 41 = .ok (.iload 5, 2) := by decide +kernel
theorem dL_agreeing_43 : decode cL_agreeing 43 = .ok (.aload 4, 2) := by decide +kernel
theorem dL_agreeing_45 : decode cL_agreeing 45 = .ok (.aload_n 2, 1) := by decide +kernel
theorem dL_agreeing_46 : decode cL_agreeing 46 = .ok (.aload_n 3, 1) := by decide +kernel
theorem dL_agreeing_47 : decode cL_agreeing 47 = .ok (.iconst 0, 1) := by decide +kernel
theorem dL_agreeing_48 : decode cL_agreeing 48 = .ok (.iaload, 1) := by decide +kernel
theorem dL_agreeing_49 : decode cL_agreeing 49 = .ok (.invokestatic 68, 3) := by decide +kernel
theorem dL_agreeing_52 : decode cL_agreeing 52 = .ok (.ifCond .eq 23, 3) := by decide +kernel
theorem dL_agreeing_55 : decode cL_agreeing 55 = .ok (.iload_n 0, 1) := by decide +kernel
theorem dL_agreeing_56 : decode cL_agreeing 56 = .ok (.iload_n 1, 1) := by decide +kernel
theorem dL_agreeing_57 : decode cL_agreeing 57 = .ok (.if_icmp .eq 14, 3) := by decide +kernel
theorem dL_agreeing_60 : decode cL_agreeing 60 = .ok (.aload 4, 2) := by decide +kernel
theorem dL_agreeing_62 : decode cL_agreeing 62 = .ok (.iload_n 0, 1) := by decide +kernel
theorem dL_agreeing_63 : decode cL_agreeing 63 = .ok (.iaload, 1) := by decide +kernel
theorem dL_agreeing_64 : decode cL_agreeing 64 = .ok (.aload 4, 2) := by decide +kernel
theorem dL_agreeing_66 : decode cL_agreeing 66 = .ok (.iload_n 1, 1) := by decide +kernel
theorem dL_agreeing_67 : decode cL_agreeing 67 = .ok (.iaload, 1) := by decide +kernel
theorem dL_agreeing_68 : decode cL_agreeing 68 = .ok (.if_icmp .ge 7, 3) := by decide +kernel
theorem dL_agreeing_71 : decode cL_agreeing 71 = .ok (.iconst 1, 1) := by decide +kernel
theorem dL_agreeing_72 : decode cL_agreeing 72 = .ok (.goto 4, 3) := by decide +kernel
theorem dL_agreeing_75 : decode cL_agreeing 75 = .ok (.iconst 0, 1) := by decide +kernel
theorem dL_agreeing_76 : decode cL_agreeing 76 = .ok (.iadd, 1) := by decide +kernel
theorem dL_agreeing_77 : decode cL_agreeing 77 = .ok (.istore 5, 2) := by decide +kernel
theorem dL_agreeing_79 : decode cL_agreeing 79 = .ok (.aload 4, 2) := by decide +kernel
theorem dL_agreeing_81 : decode cL_agreeing 81 = .ok (.aload_n 3, 1) := by decide +kernel
theorem dL_agreeing_82 : decode cL_agreeing 82 = .ok (.iconst 0, 1) := by decide +kernel
theorem dL_agreeing_83 : decode cL_agreeing 83 = .ok (.iaload, 1) := by decide +kernel
theorem dL_agreeing_84 : decode cL_agreeing 84 = .ok (.invokestatic 72, 3) := by decide +kernel
theorem dL_agreeing_87 : decode cL_agreeing 87 = .ok (.istore 6, 2) := by decide +kernel
theorem dL_agreeing_89 : decode cL_agreeing 89 = .ok (.goto (-53), 3) := by decide +kernel
theorem dL_agreeing_92 : decode cL_agreeing 92 = .ok (.iload 5, 2) := by decide +kernel
theorem dL_agreeing_94 : decode cL_agreeing 94 = .ok (.ireturn, 1) := by decide +kernel
theorem dL_steps_0 : decode cL_steps 0 = .ok (.iload_n 0, 1) := by decide +kernel
theorem dL_steps_1 : decode cL_steps 1 = .ok (.ifCond .eq 8, 3) := by decide +kernel
theorem dL_steps_4 : decode cL_steps 4 = .ok (.iload_n 0, 1) := by decide +kernel
theorem dL_steps_5 : decode cL_steps 5 = .ok (.iconst 2, 1) := by decide +kernel
theorem dL_steps_6 : decode cL_steps 6 = .ok (.if_icmp .ne 9, 3) := by decide +kernel
theorem dL_steps_9 : decode cL_steps 9 = .ok (.iload_n 1, 1) := by decide +kernel
theorem dL_steps_10 : decode cL_steps 10 = .ok (.iconst 1, 1) := by decide +kernel
theorem dL_steps_11 : decode cL_steps 11 = .ok (.isub, 1) := by decide +kernel
theorem dL_steps_12 : decode cL_steps 12 = .ok (.goto 19, 3) := by decide +kernel
theorem dL_steps_15 : decode cL_steps 15 = .ok (.iload_n 0, 1) := by decide +kernel
theorem dL_steps_16 : decode cL_steps 16 = .ok (.iconst 1, 1) := by decide +kernel
theorem dL_steps_17 : decode cL_steps 17 = .ok (.if_icmp .ne 9, 3) := by decide +kernel
theorem dL_steps_20 : decode cL_steps 20 = .ok (.iload_n 1, 1) := by decide +kernel
theorem dL_steps_21 : decode cL_steps 21 = .ok (.iload_n 1, 1) := by decide +kernel
theorem dL_steps_22 : decode cL_steps 22 = .ok (.imul, 1) := by decide +kernel
theorem dL_steps_23 : decode cL_steps 23 = .ok (.goto 8, 3) := by decide +kernel
theorem dL_steps_26 : decode cL_steps 26 = .ok (.iload_n 1, 1) := by decide +kernel
theorem dL_steps_27 : decode cL_steps 27 = .ok (.iload_n 1, 1) := by decide +kernel
theorem dL_steps_28 : decode cL_steps 28 = .ok (.imul, 1) := by decide +kernel
theorem dL_steps_29 : decode cL_steps 29 = .ok (.iload_n 1, 1) := by decide +kernel
theorem dL_steps_30 : decode cL_steps 30 = .ok (.imul, 1) := by decide +kernel
theorem dL_steps_31 : decode cL_steps 31 = .ok (.ireturn, 1) := by decide +kernel
theorem dL_turn_0 : decode cL_turn 0 = .ok (.iconst 0, 1) := by decide +kernel
theorem dL_turn_1 : decode cL_turn 1 = .ok (.istore_n 3, 1) := by decide +kernel
theorem dL_turn_2 : decode cL_turn 2 = .ok (.iload_n 3, 1) := by decide +kernel
theorem dL_turn_3 : decode cL_turn 3 = .ok (.iload_n 2, 1) := by decide +kernel
theorem dL_turn_4 : decode cL_turn 4 = .ok (.iload_n 1, 1) := by decide +kernel
theorem dL_turn_5 : decode cL_turn 5 = .ok (.isub, 1) := by decide +kernel
theorem dL_turn_6 : decode cL_turn 6 = .ok (.iconst 2, 1) := by decide +kernel
theorem dL_turn_7 : decode cL_turn 7 = .ok (.idiv, 1) := by decide +kernel
theorem dL_turn_8 : decode cL_turn 8 = .ok (.if_icmp .ge 37, 3) := by decide +kernel
theorem dL_turn_11 : decode cL_turn 11 = .ok (.aload_n 0, 1) := by decide +kernel
theorem dL_turn_12 : decode cL_turn 12 = .ok (.iload_n 1, 1) := by decide +kernel
theorem dL_turn_13 : decode cL_turn 13 = .ok (.iload_n 3, 1) := by decide +kernel
theorem dL_turn_14 : decode cL_turn 14 = .ok (.iadd, 1) := by decide +kernel
theorem dL_turn_15 : decode cL_turn 15 = .ok (.iaload, 1) := by decide +kernel
theorem dL_turn_16 : decode cL_turn 16 = .ok (.istore 4, 2) := by decide +kernel
theorem dL_turn_18 : decode cL_turn 18 = .ok (.aload_n 0, 1) := by decide +kernel
theorem dL_turn_19 : decode cL_turn 19 = .ok (.iload_n 1, 1) := by decide +kernel
theorem dL_turn_20 : decode cL_turn 20 = .ok (.iload_n 3, 1) := by decide +kernel
theorem dL_turn_21 : decode cL_turn 21 = .ok (.iadd, 1) := by decide +kernel
theorem dL_turn_22 : decode cL_turn 22 = .ok (.aload_n 0, 1) := by decide +kernel
theorem dL_turn_23 : decode cL_turn 23 = .ok (.iload_n 2, 1) := by decide +kernel
theorem dL_turn_24 : decode cL_turn 24 = .ok (.iconst 1, 1) := by decide +kernel
theorem dL_turn_25 : decode cL_turn 25 = .ok (.isub, 1) := by decide +kernel
theorem dL_turn_26 : decode cL_turn 26 = .ok (.iload_n 3, 1) := by decide +kernel
theorem dL_turn_27 : decode cL_turn 27 = .ok (.isub, 1) := by decide +kernel
theorem dL_turn_28 : decode cL_turn 28 = .ok (.iaload, 1) := by decide +kernel
theorem dL_turn_29 : decode cL_turn 29 = .ok (.iastore, 1) := by decide +kernel
theorem dL_turn_30 : decode cL_turn 30 = .ok (.aload_n 0, 1) := by decide +kernel
theorem dL_turn_31 : decode cL_turn 31 = .ok (.iload_n 2, 1) := by decide +kernel
theorem dL_turn_32 : decode cL_turn 32 = .ok (.iconst 1, 1) := by decide +kernel
theorem dL_turn_33 : decode cL_turn 33 = .ok (.isub, 1) := by decide +kernel
theorem dL_turn_34 : decode cL_turn 34 = .ok (.iload_n 3, 1) := by decide +kernel
theorem dL_turn_35 : decode cL_turn 35 = .ok (.isub, 1) := by decide +kernel
theorem dL_turn_36 : decode cL_turn 36 = .ok (.iload 4, 2) := by decide +kernel
theorem dL_turn_38 : decode cL_turn 38 = .ok (.iastore, 1) := by decide +kernel
theorem dL_turn_39 : decode cL_turn 39 = .ok (.iinc 3 1, 3) := by decide +kernel
theorem dL_turn_42 : decode cL_turn 42 = .ok (.goto (-40), 3) := by decide +kernel
theorem dL_turn_45 : decode cL_turn 45 = .ok (.return_, 1) := by decide +kernel
theorem dL_moves_0 : decode cL_moves 0 = .ok (.iload_n 0, 1) := by decide +kernel
theorem dL_moves_1 : decode cL_moves 1 = .ok (.ifCond .ne 7, 3) := by decide +kernel
theorem dL_moves_4 : decode cL_moves 4 = .ok (.iload_n 1, 1) := by decide +kernel
theorem dL_moves_5 : decode cL_moves 5 = .ok (.goto 6, 3) := by decide +kernel
theorem dL_moves_8 : decode cL_moves 8 = .ok (.iload_n 1, 1) := by decide +kernel
theorem dL_moves_9 : decode cL_moves 9 = .ok (.iload_n 3, 1) := by decide +kernel
theorem dL_moves_10 : decode cL_moves 10 = .ok (.irem, 1) := by decide +kernel
theorem dL_moves_11 : decode cL_moves 11 = .ok (.istore 4, 2) := by decide +kernel
theorem dL_moves_13 : decode cL_moves 13 = .ok (.iload_n 0, 1) := by decide +kernel
theorem dL_moves_14 : decode cL_moves 14 = .ok (.ifCond .ne 9, 3) := by decide +kernel
theorem dL_moves_17 : decode cL_moves 17 = .ok (.iload_n 1, 1) := by decide +kernel
theorem dL_moves_18 : decode cL_moves 18 = .ok (.iconst 1, 1) := by decide +kernel
theorem dL_moves_19 : decode cL_moves 19 = .ok (.iadd, 1) := by decide +kernel
theorem dL_moves_20 : decode cL_moves 20 = .ok (.goto 8, 3) := by decide +kernel
theorem dL_moves_23 : decode cL_moves 23 = .ok (.iload_n 1, 1) := by decide +kernel
theorem dL_moves_24 : decode cL_moves 24 = .ok (.iload_n 3, 1) := by decide +kernel
theorem dL_moves_25 : decode cL_moves 25 = .ok (.idiv, 1) := by decide +kernel
theorem dL_moves_26 : decode cL_moves 26 = .ok (.iload_n 3, 1) := by decide +kernel
theorem dL_moves_27 : decode cL_moves 27 = .ok (.irem, 1) := by decide +kernel
theorem dL_moves_28 : decode cL_moves 28 = .ok (.istore 5, 2) := by decide +kernel
theorem dL_moves_30 : decode cL_moves 30 = .ok (.iload_n 1, 1) := by decide +kernel
theorem dL_moves_31 : decode cL_moves 31 = .ok (.iload_n 3, 1) := by decide +kernel
theorem dL_moves_32 : decode cL_moves 32 = .ok (.idiv, 1) := by decide +kernel
theorem dL_moves_33 : decode cL_moves 33 = .ok (.iload_n 3, 1) := by decide +kernel
theorem dL_moves_34 : decode cL_moves 34 = .ok (.idiv, 1) := by decide +kernel
theorem dL_moves_35 : decode cL_moves 35 = .ok (.iconst 1, 1) := by decide +kernel
theorem dL_moves_36 : decode cL_moves 36 = .ok (.iadd, 1) := by decide +kernel
theorem dL_moves_37 : decode cL_moves 37 = .ok (.istore 6, 2) := by decide +kernel
theorem dL_moves_39 : decode cL_moves 39 = .ok (.iload_n 0, 1) := by decide +kernel
theorem dL_moves_40 : decode cL_moves 40 = .ok (.iconst 2, 1) := by decide +kernel
theorem dL_moves_41 : decode cL_moves 41 = .ok (.if_icmp .ne 13, 3) := by decide +kernel
theorem dL_moves_44 : decode cL_moves 44 = .ok (.aload_n 2, 1) := by decide +kernel
theorem dL_moves_45 : decode cL_moves 45 = .ok (.iconst 0, 1) := by decide +kernel
theorem dL_moves_46 : decode cL_moves 46 = .ok (.iload_n 1, 1) := by decide +kernel
theorem dL_moves_47 : decode cL_moves 47 = .ok (.iconst 2, 1) := by decide +kernel
theorem dL_moves_48 : decode cL_moves 48 = .ok (.iadd, 1) := by decide +kernel
theorem dL_moves_49 : decode cL_moves 49 = .ok (.invokestatic 76, 3) := by decide +kernel
theorem dL_moves_52 : decode cL_moves 52 = .ok (.iconst 1, 1) := by decide +kernel
theorem dL_moves_53 : decode cL_moves 53 = .ok (.ireturn, 1) := by decide +kernel
theorem dL_moves_54 : decode cL_moves 54 = .ok (.iload 4, 2) := by decide +kernel
theorem dL_moves_56 : decode cL_moves 56 = .ok (.iload 5, 2) := by decide +kernel
theorem dL_moves_58 : decode cL_moves 58 = .ok (.if_icmp .ge 15, 3) := by decide +kernel
theorem dL_moves_61 : decode cL_moves 61 = .ok (.iload_n 0, 1) := by decide +kernel
theorem dL_moves_62 : decode cL_moves 62 = .ok (.iconst 3, 1) := by decide +kernel
theorem dL_moves_63 : decode cL_moves 63 = .ok (.if_icmp .ne 12, 3) := by decide +kernel
theorem dL_moves_66 : decode cL_moves 66 = .ok (.iload 5, 2) := by decide +kernel
theorem dL_moves_68 : decode cL_moves 68 = .ok (.iload 6, 2) := by decide +kernel
theorem dL_moves_70 : decode cL_moves 70 = .ok (.if_icmp .lt 5, 3) := by decide +kernel
theorem dL_moves_73 : decode cL_moves 73 = .ok (.iconst 0, 1) := by decide +kernel
theorem dL_moves_74 : decode cL_moves 74 = .ok (.ireturn, 1) := by decide +kernel
theorem dL_moves_75 : decode cL_moves 75 = .ok (.iload_n 0, 1) := by decide +kernel
theorem dL_moves_76 : decode cL_moves 76 = .ok (.iconst 3, 1) := by decide +kernel
theorem dL_moves_77 : decode cL_moves 77 = .ok (.if_icmp .ne 41, 3) := by decide +kernel
theorem dL_moves_80 : decode cL_moves 80 = .ok (.aload_n 2, 1) := by decide +kernel
theorem dL_moves_81 : decode cL_moves 81 = .ok (.iload 4, 2) := by decide +kernel
theorem dL_moves_83 : decode cL_moves 83 = .ok (.iload 6, 2) := by decide +kernel
theorem dL_moves_85 : decode cL_moves 85 = .ok (.invokestatic 76, 3) := by decide +kernel
theorem dL_moves_88 : decode cL_moves 88 = .ok (.aload_n 2, 1) := by decide +kernel
theorem dL_moves_89 : decode cL_moves 89 = .ok (.iload 4, 2) := by decide +kernel
theorem dL_moves_91 : decode cL_moves 91 = .ok (.iload 4, 2) := by decide +kernel
theorem dL_moves_93 : decode cL_moves 93 = .ok (.iload 6, 2) := by decide +kernel
theorem dL_moves_95 : decode cL_moves 95 = .ok (.iadd, 1) := by decide +kernel
theorem dL_moves_96 : decode cL_moves 96 = .ok (.iload 5, 2) := by decide +kernel
theorem dL_moves_98 : decode cL_moves 98 = .ok (.isub, 1) := by decide +kernel
theorem dL_moves_99 : decode cL_moves 99 = .ok (.invokestatic 76, 3) := by decide +kernel
theorem dL_moves_102 : decode cL_moves 102 = .ok (.aload_n 2, 1) := by decide +kernel
theorem dL_moves_103 : decode cL_moves 103 = .ok (.iload 4, 2) := by decide +kernel
theorem dL_moves_105 : decode cL_moves 105 = .ok (.iload 6, 2) := by decide +kernel
theorem dL_moves_107 : decode cL_moves 107 = .ok (.iadd, 1) := by decide +kernel
theorem dL_moves_108 : decode cL_moves 108 = .ok (.iload 5, 2) := by decide +kernel
theorem dL_moves_110 : decode cL_moves 110 = .ok (.isub, 1) := by decide +kernel
theorem dL_moves_111 : decode cL_moves 111 = .ok (.iload 6, 2) := by decide +kernel
theorem dL_moves_113 : decode cL_moves 113 = .ok (.invokestatic 76, 3) := by decide +kernel
theorem dL_moves_116 : decode cL_moves 116 = .ok (.iconst 1, 1) := by decide +kernel
theorem dL_moves_117 : decode cL_moves 117 = .ok (.ireturn, 1) := by decide +kernel
theorem dL_moves_118 : decode cL_moves 118 = .ok (.aload_n 2, 1) := by decide +kernel
theorem dL_moves_119 : decode cL_moves 119 = .ok (.iload 4, 2) := by decide +kernel
theorem dL_moves_121 : decode cL_moves 121 = .ok (.iaload, 1) := by decide +kernel
theorem dL_moves_122 : decode cL_moves 122 = .ok (.istore 7, 2) := by decide +kernel
theorem dL_moves_124 : decode cL_moves 124 = .ok (.aload_n 2, 1) := by decide +kernel
theorem dL_moves_125 : decode cL_moves 125 = .ok (.iload 4, 2) := by decide +kernel
theorem dL_moves_127 : decode cL_moves 127 = .ok (.aload_n 2, 1) := by decide +kernel
theorem dL_moves_128 : decode cL_moves 128 = .ok (.iload 5, 2) := by decide +kernel
theorem dL_moves_130 : decode cL_moves 130 = .ok (.iaload, 1) := by decide +kernel
theorem dL_moves_131 : decode cL_moves 131 = .ok (.iastore, 1) := by decide +kernel
theorem dL_moves_132 : decode cL_moves 132 = .ok (.aload_n 2, 1) := by decide +kernel
theorem dL_moves_133 : decode cL_moves 133 = .ok (.iload 5, 2) := by decide +kernel
theorem dL_moves_135 : decode cL_moves 135 = .ok (.iload 7, 2) := by decide +kernel
theorem dL_moves_137 : decode cL_moves 137 = .ok (.iastore, 1) := by decide +kernel
theorem dL_moves_138 : decode cL_moves 138 = .ok (.iconst 1, 1) := by decide +kernel
theorem dL_moves_139 : decode cL_moves 139 = .ok (.ireturn, 1) := by decide +kernel
theorem dL_upsideDown_0 : decode cL_upsideDown 0 = .ok (.iconst 0, 1) := by decide +kernel
theorem dL_upsideDown_1 : decode cL_upsideDown 1 = .ok (.istore_n 2, 1) := by decide +kernel
theorem dL_upsideDown_2 : decode cL_upsideDown 2 = .ok (.iconst 0, 1) := by decide +kernel
theorem dL_upsideDown_3 : decode cL_upsideDown 3 = .ok (.istore_n 3, 1) := by decide +kernel
theorem dL_upsideDown_4 : decode cL_upsideDown 4 = .ok (.iload_n 3, 1) := by decide +kernel
theorem dL_upsideDown_5 : decode cL_upsideDown 5 = .ok (.iload_n 1, 1) := by decide +kernel
theorem dL_upsideDown_6 : decode cL_upsideDown 6 = .ok (.iload_n 1, 1) := by decide +kernel
theorem dL_upsideDown_7 : decode cL_upsideDown 7 = .ok (.imul, 1) := by decide +kernel
theorem dL_upsideDown_8 : decode cL_upsideDown 8 = .ok (.if_icmp .ge 39, 3) := by decide +kernel
theorem dL_upsideDown_11 : decode cL_upsideDown 11 = .ok (.iload_n 2, 1) := by decide +kernel
theorem dL_upsideDown_12 : decode cL_upsideDown 12 = .ok (.iload_n 3, 1) := by decide +kernel
theorem dL_upsideDown_13 : decode cL_upsideDown 13 = .ok (.iload_n 1, 1) := by decide +kernel
theorem dL_upsideDown_14 : decode cL_upsideDown 14 = .ok (.idiv, 1) := by decide +kernel
theorem dL_upsideDown_15 : decode cL_upsideDown 15 = .ok (.iload_n 3, 1) := by decide +kernel
theorem dL_upsideDown_16 : decode cL_upsideDown 16 = .ok (.iload_n 1, 1) := by decide +kernel
theorem dL_upsideDown_17 : decode cL_upsideDown 17 = .ok (.irem, 1) := by decide +kernel
theorem dL_upsideDown_18 : decode cL_upsideDown 18 = .ok (.if_icmp .ge 20, 3) := by decide +kernel
theorem dL_upsideDown_21 : decode cL_upsideDown 21 = .ok (.aload_n 0, 1) := by decide +kernel
theorem dL_upsideDown_22 : decode cL_upsideDown 22 = .ok (.iload_n 3, 1) := by decide +kernel
theorem dL_upsideDown_23 : decode cL_upsideDown 23 = .ok (.iload_n 1, 1) := by decide +kernel
theorem dL_upsideDown_24 : decode cL_upsideDown 24 = .ok (.idiv, 1) := by decide +kernel
theorem dL_upsideDown_25 : decode cL_upsideDown 25 = .ok (.iaload, 1) := by decide +kernel
theorem dL_upsideDown_26 : decode cL_upsideDown 26 = .ok (.aload_n 0, 1) := by decide +kernel
theorem dL_upsideDown_27 : decode cL_upsideDown 27 = .ok (.iload_n 3, 1) := by decide +kernel
theorem dL_upsideDown_28 : decode cL_upsideDown 28 = .ok (.iload_n 1, 1) := by decide +kernel
theorem dL_upsideDown_29 : decode cL_upsideDown 29 = .ok (.irem, 1) := by decide +kernel
theorem dL_upsideDown_30 : decode cL_upsideDown 30 = .ok (.iaload, 1) := by decide +kernel
theorem dL_upsideDown_31 : decode cL_upsideDown 31 = .ok (.if_icmp .le 7, 3) := by decide +kernel
theorem dL_upsideDown_34 : decode cL_upsideDown 34 = .ok (.iconst 1, 1) := by decide +kernel
theorem dL_upsideDown_35 : decode cL_upsideDown 35 = .ok (.goto 4, 3) := by decide +kernel
theorem dL_upsideDown_38 : decode cL_upsideDown 38 = .ok (.iconst 0, 1) := by decide +kernel
theorem dL_upsideDown_39 : decode cL_upsideDown 39 = .ok (.iadd, 1) := by decide +kernel
theorem dL_upsideDown_40 : decode cL_upsideDown 40 = .ok (.istore_n 2, 1) := by decide +kernel
theorem dL_upsideDown_41 : decode cL_upsideDown 41 = .ok (.iinc 3 1, 3) := by decide +kernel
theorem dL_upsideDown_44 : decode cL_upsideDown 44 = .ok (.goto (-40), 3) := by decide +kernel
theorem dL_upsideDown_47 : decode cL_upsideDown 47 = .ok (.iload_n 2, 1) := by decide +kernel
theorem dL_upsideDown_48 : decode cL_upsideDown 48 = .ok (.ireturn, 1) := by decide +kernel
theorem dL_rings_0 : decode cL_rings 0 = .ok (.iconst 0, 1) := by decide +kernel
theorem dL_rings_1 : decode cL_rings 1 = .ok (.istore_n 2, 1) := by decide +kernel
theorem dL_rings_2 : decode cL_rings 2 = .ok (.iconst 0, 1) := by decide +kernel
theorem dL_rings_3 : decode cL_rings 3 = .ok (.istore_n 3, 1) := by decide +kernel
theorem dL_rings_4 : decode cL_rings 4 = .ok (.iconst 0, 1) := by decide +kernel
theorem dL_rings_5 : decode cL_rings 5 = .ok (.istore 4, 2) := by decide +kernel
theorem dL_rings_7 : decode cL_rings 7 = .ok (.iload 4, 2) := by decide +kernel
theorem dL_rings_9 : decode cL_rings 9 = .ok (.iload_n 1, 1) := by decide +kernel
theorem dL_rings_10 : decode cL_rings 10 = .ok (.if_icmp .ge 55, 3) := by decide +kernel
theorem dL_rings_13 : decode cL_rings 13 = .ok (.iload_n 3, 1) := by decide +kernel
theorem dL_rings_14 : decode cL_rings 14 = .ok (.iload_n 2, 1) := by decide +kernel
theorem dL_rings_15 : decode cL_rings 15 = .ok (.iload 4, 2) := by decide +kernel
theorem dL_rings_17 : decode cL_rings 17 = .ok (.ishr, 1) := by decide +kernel
theorem dL_rings_18 : decode cL_rings 18 = .ok (.iconst 1, 1) := by decide +kernel
theorem dL_rings_19 : decode cL_rings 19 = .ok (.iand, 1) := by decide +kernel
theorem dL_rings_20 : decode cL_rings 20 = .ok (.ifCond .ne 7, 3) := by decide +kernel
theorem dL_rings_23 : decode cL_rings 23 = .ok (.iconst 1, 1) := by decide +kernel
theorem dL_rings_24 : decode cL_rings 24 = .ok (.goto 4, 3) := by decide +kernel
theorem dL_rings_27 : decode cL_rings 27 = .ok (.iconst 0, 1) := by decide +kernel
theorem dL_rings_28 : decode cL_rings 28 = .ok (.iadd, 1) := by decide +kernel
theorem dL_rings_29 : decode cL_rings 29 = .ok (.istore_n 3, 1) := by decide +kernel
theorem dL_rings_30 : decode cL_rings 30 = .ok (.iload 4, 2) := by decide +kernel
theorem dL_rings_32 : decode cL_rings 32 = .ok (.istore 5, 2) := by decide +kernel
theorem dL_rings_34 : decode cL_rings 34 = .ok (.iload_n 2, 1) := by decide +kernel
theorem dL_rings_35 : decode cL_rings 35 = .ok (.iload 5, 2) := by decide +kernel
theorem dL_rings_37 : decode cL_rings 37 = .ok (.ishr, 1) := by decide +kernel
theorem dL_rings_38 : decode cL_rings 38 = .ok (.iconst 1, 1) := by decide +kernel
theorem dL_rings_39 : decode cL_rings 39 = .ok (.iand, 1) := by decide +kernel
theorem dL_rings_40 : decode cL_rings 40 = .ok (.ifCond .ne 19, 3) := by decide +kernel
theorem dL_rings_43 : decode cL_rings 43 = .ok (.iload_n 2, 1) := by decide +kernel
theorem dL_rings_44 : decode cL_rings 44 = .ok (.iconst 1, 1) := by decide +kernel
theorem dL_rings_45 : decode cL_rings 45 = .ok (.iload 5, 2) := by decide +kernel
theorem dL_rings_47 : decode cL_rings 47 = .ok (.ishl, 1) := by decide +kernel
theorem dL_rings_48 : decode cL_rings 48 = .ok (.ior, 1) := by decide +kernel
theorem dL_rings_49 : decode cL_rings 49 = .ok (.istore_n 2, 1) := by decide +kernel
theorem dL_rings_50 : decode cL_rings 50 = .ok (.aload_n 0, 1) := by decide +kernel
theorem dL_rings_51 : decode cL_rings 51 = .ok (.iload 5, 2) := by decide +kernel
theorem dL_rings_53 : decode cL_rings 53 = .ok (.iaload, 1) := by decide +kernel
theorem dL_rings_54 : decode cL_rings 54 = .ok (.istore 5, 2) := by decide +kernel
theorem dL_rings_56 : decode cL_rings 56 = .ok (.goto (-22), 3) := by decide +kernel
theorem dL_rings_59 : decode cL_rings 59 = .ok (.iinc 4 1, 3) := by decide +kernel
theorem dL_rings_62 : decode cL_rings 62 = .ok (.goto (-55), 3) := by decide +kernel
theorem dL_rings_65 : decode cL_rings 65 = .ok (.iload_n 3, 1) := by decide +kernel
theorem dL_rings_66 : decode cL_rings 66 = .ok (.ireturn, 1) := by decide +kernel
theorem dL_placeOf_0 : decode cL_placeOf 0 = .ok (.iconst 0, 1) := by decide +kernel
theorem dL_placeOf_1 : decode cL_placeOf 1 = .ok (.istore_n 3, 1) := by decide +kernel
theorem dL_placeOf_2 : decode cL_placeOf 2 = .ok (.iload_n 3, 1) := by decide +kernel
theorem dL_placeOf_3 : decode cL_placeOf 3 = .ok (.iload_n 2, 1) := by decide +kernel
theorem dL_placeOf_4 : decode cL_placeOf 4 = .ok (.if_icmp .ge 16, 3) := by decide +kernel
theorem dL_placeOf_7 : decode cL_placeOf 7 = .ok (.aload_n 1, 1) := by decide +kernel
theorem dL_placeOf_8 : decode cL_placeOf 8 = .ok (.iload_n 3, 1) := by decide +kernel
theorem dL_placeOf_9 : decode cL_placeOf 9 = .ok (.iaload, 1) := by decide +kernel
theorem dL_placeOf_10 : decode cL_placeOf 10 = .ok (.iload_n 0, 1) := by decide +kernel
theorem dL_placeOf_11 : decode cL_placeOf 11 = .ok (.if_icmp .eq 9, 3) := by decide +kernel
theorem dL_placeOf_14 : decode cL_placeOf 14 = .ok (.iinc 3 1, 3) := by decide +kernel
theorem dL_placeOf_17 : decode cL_placeOf 17 = .ok (.goto (-15), 3) := by decide +kernel
theorem dL_placeOf_20 : decode cL_placeOf 20 = .ok (.iload_n 3, 1) := by decide +kernel
theorem dL_placeOf_21 : decode cL_placeOf 21 = .ok (.ireturn, 1) := by decide +kernel
theorem dL_spreads_0 : decode cL_spreads 0 = .ok (.bipush 6, 2) := by decide +kernel
theorem dL_spreads_2 : decode cL_spreads 2 = .ok (.newarray .int, 2) := by decide +kernel
theorem dL_spreads_4 : decode cL_spreads 4 = .ok (.astore 4, 2) := by decide +kernel
theorem dL_spreads_6 : decode cL_spreads 6 = .ok (.iconst 0, 1) := by decide +kernel
theorem dL_spreads_7 : decode cL_spreads 7 = .ok (.istore 5, 2) := by decide +kernel
theorem dL_spreads_9 : decode cL_spreads 9 = .ok (.iload 5, 2) := by decide +kernel
theorem dL_spreads_11 : decode cL_spreads 11 = .ok (.iload_n 1, 1) := by decide +kernel
theorem dL_spreads_12 : decode cL_spreads 12 = .ok (.if_icmp .ge 16, 3) := by decide +kernel
theorem dL_spreads_15 : decode cL_spreads 15 = .ok (.aload 4, 2) := by decide +kernel
theorem dL_spreads_17 : decode cL_spreads 17 = .ok (.iload 5, 2) := by decide +kernel
theorem dL_spreads_19 : decode cL_spreads 19 = .ok (.iload 5, 2) := by decide +kernel
theorem dL_spreads_21 : decode cL_spreads 21 = .ok (.iastore, 1) := by decide +kernel
theorem dL_spreads_22 : decode cL_spreads 22 = .ok (.iinc 5 1, 3) := by decide +kernel
theorem dL_spreads_25 : decode cL_spreads 25 = .ok (.goto (-16), 3) := by decide +kernel
theorem dL_spreads_28 : decode cL_spreads 28 = .ok (.iconst 0, 1) := by decide +kernel
theorem dL_spreads_29 : decode cL_spreads 29 = .ok (.istore 5, 2) := by decide +kernel
theorem dL_spreads_31 : decode cL_spreads 31 = .ok (.iconst 1, 1) := by decide +kernel
theorem dL_spreads_32 : decode cL_spreads 32 = .ok (.istore 6, 2) := by decide +kernel
theorem dL_spreads_34 : decode cL_spreads 34 = .ok (.iload 6, 2) := by decide +kernel
theorem dL_spreads_36 : decode cL_spreads 36 = .ok (.ifCond .eq 42, 3) := by decide +kernel
theorem dL_spreads_39 : decode cL_spreads 39 = .ok (.aload_n 2, 1) := by decide +kernel
theorem dL_spreads_40 : decode cL_spreads 40 = .ok (.iload 5, 2) := by decide +kernel
theorem dL_spreads_42 : decode cL_spreads 42 = .ok (.aload 4, 2) := by decide +kernel
theorem dL_spreads_44 : decode cL_spreads 44 = .ok (.iload_n 1, 1) := by decide +kernel
theorem dL_spreads_45 : decode cL_spreads 45 = .ok (.invokestatic 80, 3) := by decide +kernel
theorem dL_spreads_48 : decode cL_spreads 48 = .ok (.iastore, 1) := by decide +kernel
theorem dL_spreads_49 : decode cL_spreads 49 = .ok (.aload_n 3, 1) := by decide +kernel
theorem dL_spreads_50 : decode cL_spreads 50 = .ok (.iload 5, 2) := by decide +kernel
theorem dL_spreads_52 : decode cL_spreads 52 = .ok (.iload 5, 2) := by decide +kernel
theorem dL_spreads_54 : decode cL_spreads 54 = .ok (.ifCond .ne 7, 3) := by decide +kernel
theorem dL_spreads_57 : decode cL_spreads 57 = .ok (.iconst 0, 1) := by decide +kernel
theorem dL_spreads_58 : decode cL_spreads 58 = .ok (.goto 5, 3) := by decide +kernel
theorem dL_spreads_61 : decode cL_spreads 61 = .ok (.bipush 99, 2) := by decide +kernel
theorem dL_spreads_63 : decode cL_spreads 63 = .ok (.iastore, 1) := by decide +kernel
theorem dL_spreads_64 : decode cL_spreads 64 = .ok (.iinc 5 1, 3) := by decide +kernel
theorem dL_spreads_67 : decode cL_spreads 67 = .ok (.aload 4, 2) := by decide +kernel
theorem dL_spreads_69 : decode cL_spreads 69 = .ok (.iload_n 1, 1) := by decide +kernel
theorem dL_spreads_70 : decode cL_spreads 70 = .ok (.invokestatic 72, 3) := by decide +kernel
theorem dL_spreads_73 : decode cL_spreads 73 = .ok (.istore 6, 2) := by decide +kernel
theorem dL_spreads_75 : decode cL_spreads 75 = .ok (.goto (-41), 3) := by decide +kernel
theorem dL_spreads_78 : decode cL_spreads 78 = .ok (.iconst 1, 1) := by decide +kernel
theorem dL_spreads_79 : decode cL_spreads 79 = .ok (.istore 7, 2) := by decide +kernel
theorem dL_spreads_81 : decode cL_spreads 81 = .ok (.iload 7, 2) := by decide +kernel
theorem dL_spreads_83 : decode cL_spreads 83 = .ok (.ifCond .eq 111, 3) := by decide +kernel
theorem dL_spreads_86 : decode cL_spreads 86 = .ok (.iconst 0, 1) := by decide +kernel
theorem dL_spreads_87 : decode cL_spreads 87 = .ok (.istore 7, 2) := by decide +kernel
theorem dL_spreads_89 : decode cL_spreads 89 = .ok (.iconst 0, 1) := by decide +kernel
theorem dL_spreads_90 : decode cL_spreads 90 = .ok (.istore 8, 2) := by decide +kernel
theorem dL_spreads_92 : decode cL_spreads 92 = .ok (.iload 8, 2) := by decide +kernel
theorem dL_spreads_94 : decode cL_spreads 94 = .ok (.iload 5, 2) := by decide +kernel
theorem dL_spreads_96 : decode cL_spreads 96 = .ok (.if_icmp .ge 95, 3) := by decide +kernel
theorem dL_spreads_99 : decode cL_spreads 99 = .ok (.iconst 0, 1) := by decide +kernel
theorem dL_spreads_100 : decode cL_spreads 100 = .ok (.istore 9, 2) := by decide +kernel
theorem dL_spreads_102 : decode cL_spreads 102 = .ok (.iload 9, 2) := by decide +kernel
theorem dL_spreads_104 : decode cL_spreads 104 = .ok (.iload_n 0, 1) := by decide +kernel
theorem dL_spreads_105 : decode cL_spreads 105 = .ok (.iload_n 1, 1) := by decide +kernel
theorem dL_spreads_106 : decode cL_spreads 106 = .ok (.invokestatic 84, 3) := by decide +kernel
theorem dL_spreads_109 : decode cL_spreads 109 = .ok (.if_icmp .ge 76, 3) := by decide +kernel
theorem dL_spreads_112 : decode cL_spreads 112 = .ok (.aload_n 2, 1) := by decide +kernel
theorem dL_spreads_113 : decode cL_spreads 113 = .ok (.iload 8, 2) := by decide +kernel
theorem dL_spreads_115 : decode cL_spreads 115 = .ok (.iaload, 1) := by decide +kernel
theorem dL_spreads_116 : decode cL_spreads 116 = .ok (.aload 4, 2) := by decide +kernel
theorem dL_spreads_118 : decode cL_spreads 118 = .ok (.iload_n 1, 1) := by decide +kernel
theorem dL_spreads_119 : decode cL_spreads 119 = .ok (.invokestatic 87, 3) := by decide +kernel
theorem dL_spreads_122 : decode cL_spreads 122 = .ok (.iload_n 0, 1) := by decide +kernel
theorem dL_spreads_123 : decode cL_spreads 123 = .ok (.iload 9, 2) := by decide +kernel
theorem dL_spreads_125 : decode cL_spreads 125 = .ok (.aload 4, 2) := by decide +kernel
theorem dL_spreads_127 : decode cL_spreads 127 = .ok (.iload_n 1, 1) := by decide +kernel
theorem dL_spreads_128 : decode cL_spreads 128 = .ok (.invokestatic 91, 3) := by decide +kernel
theorem dL_spreads_131 : decode cL_spreads 131 = .ok (.ifCond .eq 18, 3) := by decide +kernel
theorem dL_spreads_134 : decode cL_spreads 134 = .ok (.aload 4, 2) := by decide +kernel
theorem dL_spreads_136 : decode cL_spreads 136 = .ok (.iload_n 1, 1) := by decide +kernel
theorem dL_spreads_137 : decode cL_spreads 137 = .ok (.invokestatic 80, 3) := by decide +kernel
theorem dL_spreads_140 : decode cL_spreads 140 = .ok (.aload_n 2, 1) := by decide +kernel
theorem dL_spreads_141 : decode cL_spreads 141 = .ok (.iload 5, 2) := by decide +kernel
theorem dL_spreads_143 : decode cL_spreads 143 = .ok (.invokestatic 95, 3) := by decide +kernel
theorem dL_spreads_146 : decode cL_spreads 146 = .ok (.goto 5, 3) := by decide +kernel
theorem dL_spreads_149 : decode cL_spreads 149 = .ok (.iload 8, 2) := by decide +kernel
theorem dL_spreads_151 : decode cL_spreads 151 = .ok (.istore 10, 2) := by decide +kernel
theorem dL_spreads_153 : decode cL_spreads 153 = .ok (.aload_n 3, 1) := by decide +kernel
theorem dL_spreads_154 : decode cL_spreads 154 = .ok (.iload 10, 2) := by decide +kernel
theorem dL_spreads_156 : decode cL_spreads 156 = .ok (.iaload, 1) := by decide +kernel
theorem dL_spreads_157 : decode cL_spreads 157 = .ok (.aload_n 3, 1) := by decide +kernel
theorem dL_spreads_158 : decode cL_spreads 158 = .ok (.iload 8, 2) := by decide +kernel
theorem dL_spreads_160 : decode cL_spreads 160 = .ok (.iaload, 1) := by decide +kernel
theorem dL_spreads_161 : decode cL_spreads 161 = .ok (.iconst 1, 1) := by decide +kernel
theorem dL_spreads_162 : decode cL_spreads 162 = .ok (.iadd, 1) := by decide +kernel
theorem dL_spreads_163 : decode cL_spreads 163 = .ok (.if_icmp .le 16, 3) := by decide +kernel
theorem dL_spreads_166 : decode cL_spreads 166 = .ok (.aload_n 3, 1) := by decide +kernel
theorem dL_spreads_167 : decode cL_spreads 167 = .ok (.iload 10, 2) := by decide +kernel
theorem dL_spreads_169 : decode cL_spreads 169 = .ok (.aload_n 3, 1) := by decide +kernel
theorem dL_spreads_170 : decode cL_spreads 170 = .ok (.iload 8, 2) := by decide +kernel
theorem dL_spreads_172 : decode cL_spreads 172 = .ok (.iaload, 1) := by decide +kernel
theorem dL_spreads_173 : decode cL_spreads 173 = .ok (.iconst 1, 1) := by decide +kernel
theorem dL_spreads_174 : decode cL_spreads 174 = .ok (.iadd, 1) := by decide +kernel
theorem dL_spreads_175 : decode cL_spreads 175 = .ok (.iastore, 1) := by decide +kernel
theorem dL_spreads_176 : decode cL_spreads 176 = .ok (.iconst 1, 1) := by decide +kernel
theorem dL_spreads_177 : decode cL_spreads 177 = .ok (.istore 7, 2) := by decide +kernel
theorem dL_spreads_179 : decode cL_spreads 179 = .ok (.iinc 9 1, 3) := by decide +kernel
theorem dL_spreads_182 : decode cL_spreads 182 = .ok (.goto (-80), 3) := by decide +kernel
theorem dL_spreads_185 : decode cL_spreads 185 = .ok (.iinc 8 1, 3) := by decide +kernel
theorem dL_spreads_188 : decode cL_spreads 188 = .ok (.goto (-96), 3) := by decide +kernel
theorem dL_spreads_191 : decode cL_spreads 191 = .ok (.goto (-110), 3) := by decide +kernel
theorem dL_spreads_194 : decode cL_spreads 194 = .ok (.iload 5, 2) := by decide +kernel
theorem dL_spreads_196 : decode cL_spreads 196 = .ok (.ireturn, 1) := by decide +kernel
theorem dL_lays_0 : decode cL_lays 0 = .ok (.iload_n 0, 1) := by decide +kernel
theorem dL_lays_1 : decode cL_lays 1 = .ok (.istore_n 3, 1) := by decide +kernel
theorem dL_lays_2 : decode cL_lays 2 = .ok (.iconst 0, 1) := by decide +kernel
theorem dL_lays_3 : decode cL_lays 3 = .ok (.istore 4, 2) := by decide +kernel
theorem dL_lays_5 : decode cL_lays 5 = .ok (.iload 4, 2) := by decide +kernel
theorem dL_lays_7 : decode cL_lays 7 = .ok (.iload_n 2, 1) := by decide +kernel
theorem dL_lays_8 : decode cL_lays 8 = .ok (.if_icmp .ge 22, 3) := by decide +kernel
theorem dL_lays_11 : decode cL_lays 11 = .ok (.aload_n 1, 1) := by decide +kernel
theorem dL_lays_12 : decode cL_lays 12 = .ok (.iload 4, 2) := by decide +kernel
theorem dL_lays_14 : decode cL_lays 14 = .ok (.iload_n 3, 1) := by decide +kernel
theorem dL_lays_15 : decode cL_lays 15 = .ok (.bipush 10, 2) := by decide +kernel
theorem dL_lays_17 : decode cL_lays 17 = .ok (.irem, 1) := by decide +kernel
theorem dL_lays_18 : decode cL_lays 18 = .ok (.iastore, 1) := by decide +kernel
theorem dL_lays_19 : decode cL_lays 19 = .ok (.iload_n 3, 1) := by decide +kernel
theorem dL_lays_20 : decode cL_lays 20 = .ok (.bipush 10, 2) := by decide +kernel
theorem dL_lays_22 : decode cL_lays 22 = .ok (.idiv, 1) := by decide +kernel
theorem dL_lays_23 : decode cL_lays 23 = .ok (.istore_n 3, 1) := by decide +kernel
theorem dL_lays_24 : decode cL_lays 24 = .ok (.iinc 4 1, 3) := by decide +kernel
theorem dL_lays_27 : decode cL_lays 27 = .ok (.goto (-22), 3) := by decide +kernel
theorem dL_lays_30 : decode cL_lays 30 = .ok (.return_, 1) := by decide +kernel
theorem dL_distance_0 : decode cL_distance 0 = .ok (.iload_n 0, 1) := by decide +kernel
theorem dL_distance_1 : decode cL_distance 1 = .ok (.ifCond .ne 11, 3) := by decide +kernel
theorem dL_distance_4 : decode cL_distance 4 = .ok (.aload_n 1, 1) := by decide +kernel
theorem dL_distance_5 : decode cL_distance 5 = .ok (.iload_n 2, 1) := by decide +kernel
theorem dL_distance_6 : decode cL_distance 6 = .ok (.invokestatic 99, 3) := by decide +kernel
theorem dL_distance_9 : decode cL_distance 9 = .ok (.goto 32, 3) := by decide +kernel
theorem dL_distance_12 : decode cL_distance 12 = .ok (.iload_n 0, 1) := by decide +kernel
theorem dL_distance_13 : decode cL_distance 13 = .ok (.iconst 1, 1) := by decide +kernel
theorem dL_distance_14 : decode cL_distance 14 = .ok (.if_icmp .ne 13, 3) := by decide +kernel
theorem dL_distance_17 : decode cL_distance 17 = .ok (.iload_n 2, 1) := by decide +kernel
theorem dL_distance_18 : decode cL_distance 18 = .ok (.aload_n 1, 1) := by decide +kernel
theorem dL_distance_19 : decode cL_distance 19 = .ok (.iload_n 2, 1) := by decide +kernel
theorem dL_distance_20 : decode cL_distance 20 = .ok (.invokestatic 102, 3) := by decide +kernel
theorem dL_distance_23 : decode cL_distance 23 = .ok (.isub, 1) := by decide +kernel
theorem dL_distance_24 : decode cL_distance 24 = .ok (.goto 17, 3) := by decide +kernel
theorem dL_distance_27 : decode cL_distance 27 = .ok (.aload 4, 2) := by decide +kernel
theorem dL_distance_29 : decode cL_distance 29 = .ok (.aload_n 1, 1) := by decide +kernel
theorem dL_distance_30 : decode cL_distance 30 = .ok (.iload_n 2, 1) := by decide +kernel
theorem dL_distance_31 : decode cL_distance 31 = .ok (.invokestatic 80, 3) := by decide +kernel
theorem dL_distance_34 : decode cL_distance 34 = .ok (.aload_n 3, 1) := by decide +kernel
theorem dL_distance_35 : decode cL_distance 35 = .ok (.iload 5, 2) := by decide +kernel
theorem dL_distance_37 : decode cL_distance 37 = .ok (.invokestatic 95, 3) := by decide +kernel
theorem dL_distance_40 : decode cL_distance 40 = .ok (.iaload, 1) := by decide +kernel
theorem dL_distance_41 : decode cL_distance 41 = .ok (.ireturn, 1) := by decide +kernel
theorem dL_orders_0 : decode cL_orders 0 = .ok (.aload_n 3, 1) := by decide +kernel
theorem dL_orders_1 : decode cL_orders 1 = .ok (.iconst 0, 1) := by decide +kernel
theorem dL_orders_2 : decode cL_orders 2 = .ok (.iaload, 1) := by decide +kernel
theorem dL_orders_3 : decode cL_orders 3 = .ok (.istore 4, 2) := by decide +kernel
theorem dL_orders_5 : decode cL_orders 5 = .ok (.iload_n 1, 1) := by decide +kernel
theorem dL_orders_6 : decode cL_orders 6 = .ok (.iconst 1, 1) := by decide +kernel
theorem dL_orders_7 : decode cL_orders 7 = .ok (.if_icmp .le 11, 3) := by decide +kernel
theorem dL_orders_10 : decode cL_orders 10 = .ok (.iload 4, 2) := by decide +kernel
theorem dL_orders_12 : decode cL_orders 12 = .ok (.iconst 4, 1) := by decide +kernel
theorem dL_orders_13 : decode cL_orders 13 = .ok (.if_icmp .le 5, 3) := by decide +kernel
theorem dL_orders_16 : decode cL_orders 16 = .ok (.iconst 1, 1) := by decide +kernel
theorem dL_orders_17 : decode cL_orders 17 = .ok (.ireturn, 1) := by decide +kernel
theorem dL_orders_18 : decode cL_orders 18 = .ok (.bipush 24, 2) := by decide +kernel
theorem dL_orders_20 : decode cL_orders 20 = .ok (.newarray .int, 2) := by decide +kernel
theorem dL_orders_22 : decode cL_orders 22 = .ok (.astore 5, 2) := by decide +kernel
theorem dL_orders_24 : decode cL_orders 24 = .ok (.bipush 24, 2) := by decide +kernel
theorem dL_orders_26 : decode cL_orders 26 = .ok (.newarray .int, 2) := by decide +kernel
theorem dL_orders_28 : decode cL_orders 28 = .ok (.astore 6, 2) := by decide +kernel
theorem dL_orders_30 : decode cL_orders 30 = .ok (.bipush 6, 2) := by decide +kernel
theorem dL_orders_32 : decode cL_orders 32 = .ok (.newarray .int, 2) := by decide +kernel
theorem dL_orders_34 : decode cL_orders 34 = .ok (.astore 7, 2) := by decide +kernel
theorem dL_orders_36 : decode cL_orders 36 = .ok (.iload_n 1, 1) := by decide +kernel
theorem dL_orders_37 : decode cL_orders 37 = .ok (.iconst 1, 1) := by decide +kernel
theorem dL_orders_38 : decode cL_orders 38 = .ok (.if_icmp .le 16, 3) := by decide +kernel
theorem dL_orders_41 : decode cL_orders 41 = .ok (.iload_n 1, 1) := by decide +kernel
theorem dL_orders_42 : decode cL_orders 42 = .ok (.iload 4, 2) := by decide +kernel
theorem dL_orders_44 : decode cL_orders 44 = .ok (.aload 5, 2) := by decide +kernel
theorem dL_orders_46 : decode cL_orders 46 = .ok (.aload 6, 2) := by decide +kernel
theorem dL_orders_48 : decode cL_orders 48 = .ok (.invokestatic 105, 3) := by decide +kernel
theorem dL_orders_51 : decode cL_orders 51 = .ok (.goto 4, 3) := by decide +kernel
theorem dL_orders_54 : decode cL_orders 54 = .ok (.iconst 0, 1) := by decide +kernel
theorem dL_orders_55 : decode cL_orders 55 = .ok (.istore 8, 2) := by decide +kernel
theorem dL_orders_57 : decode cL_orders 57 = .ok (.iload_n 1, 1) := by decide +kernel
theorem dL_orders_58 : decode cL_orders 58 = .ok (.aload_n 2, 1) := by decide +kernel
theorem dL_orders_59 : decode cL_orders 59 = .ok (.iload 4, 2) := by decide +kernel
theorem dL_orders_61 : decode cL_orders 61 = .ok (.aload 5, 2) := by decide +kernel
theorem dL_orders_63 : decode cL_orders 63 = .ok (.aload 6, 2) := by decide +kernel
theorem dL_orders_65 : decode cL_orders 65 = .ok (.iload 8, 2) := by decide +kernel
theorem dL_orders_67 : decode cL_orders 67 = .ok (.invokestatic 109, 3) := by decide +kernel
theorem dL_orders_70 : decode cL_orders 70 = .ok (.istore 9, 2) := by decide +kernel
theorem dL_orders_72 : decode cL_orders 72 = .ok (.iconst (-1), 1) := by decide +kernel
theorem dL_orders_73 : decode cL_orders 73 = .ok (.istore 10, 2) := by decide +kernel
theorem dL_orders_75 : decode cL_orders 75 = .ok (.iconst 0, 1) := by decide +kernel
theorem dL_orders_76 : decode cL_orders 76 = .ok (.istore 11, 2) := by decide +kernel
theorem dL_orders_78 : decode cL_orders 78 = .ok (.iload 11, 2) := by decide +kernel
theorem dL_orders_80 : decode cL_orders 80 = .ok (.iload_n 1, 1) := by decide +kernel
theorem dL_orders_81 : decode cL_orders 81 = .ok (.iload 4, 2) := by decide +kernel
theorem dL_orders_83 : decode cL_orders 83 = .ok (.invokestatic 84, 3) := by decide +kernel
theorem dL_orders_86 : decode cL_orders 86 = .ok (.if_icmp .ge 109, 3) := by decide +kernel
theorem dL_orders_89 : decode cL_orders 89 = .ok (.iconst 0, 1) := by decide +kernel
theorem dL_orders_90 : decode cL_orders 90 = .ok (.istore 12, 2) := by decide +kernel
theorem dL_orders_92 : decode cL_orders 92 = .ok (.iload 12, 2) := by decide +kernel
theorem dL_orders_94 : decode cL_orders 94 = .ok (.iload 4, 2) := by decide +kernel
theorem dL_orders_96 : decode cL_orders 96 = .ok (.if_icmp .ge 18, 3) := by decide +kernel
theorem dL_orders_99 : decode cL_orders 99 = .ok (.aload 7, 2) := by decide +kernel
theorem dL_orders_101 : decode cL_orders 101 = .ok (.iload 12, 2) := by decide +kernel
theorem dL_orders_103 : decode cL_orders 103 = .ok (.aload_n 2, 1) := by decide +kernel
theorem dL_orders_104 : decode cL_orders 104 = .ok (.iload 12, 2) := by decide +kernel
theorem dL_orders_106 : decode cL_orders 106 = .ok (.iaload, 1) := by decide +kernel
theorem dL_orders_107 : decode cL_orders 107 = .ok (.iastore, 1) := by decide +kernel
theorem dL_orders_108 : decode cL_orders 108 = .ok (.iinc 12 1, 3) := by decide +kernel
theorem dL_orders_111 : decode cL_orders 111 = .ok (.goto (-19), 3) := by decide +kernel
theorem dL_orders_114 : decode cL_orders 114 = .ok (.iload_n 1, 1) := by decide +kernel
theorem dL_orders_115 : decode cL_orders 115 = .ok (.iload 11, 2) := by decide +kernel
theorem dL_orders_117 : decode cL_orders 117 = .ok (.aload 7, 2) := by decide +kernel
theorem dL_orders_119 : decode cL_orders 119 = .ok (.iload 4, 2) := by decide +kernel
theorem dL_orders_121 : decode cL_orders 121 = .ok (.invokestatic 91, 3) := by decide +kernel
theorem dL_orders_124 : decode cL_orders 124 = .ok (.ifCond .eq 26, 3) := by decide +kernel
theorem dL_orders_127 : decode cL_orders 127 = .ok (.iload_n 1, 1) := by decide +kernel
theorem dL_orders_128 : decode cL_orders 128 = .ok (.aload 7, 2) := by decide +kernel
theorem dL_orders_130 : decode cL_orders 130 = .ok (.iload 4, 2) := by decide +kernel
theorem dL_orders_132 : decode cL_orders 132 = .ok (.aload 5, 2) := by decide +kernel
theorem dL_orders_134 : decode cL_orders 134 = .ok (.aload 6, 2) := by decide +kernel
theorem dL_orders_136 : decode cL_orders 136 = .ok (.iload 8, 2) := by decide +kernel
theorem dL_orders_138 : decode cL_orders 138 = .ok (.invokestatic 109, 3) := by decide +kernel
theorem dL_orders_141 : decode cL_orders 141 = .ok (.iload 9, 2) := by decide +kernel
theorem dL_orders_143 : decode cL_orders 143 = .ok (.if_icmp .ge 7, 3) := by decide +kernel
theorem dL_orders_146 : decode cL_orders 146 = .ok (.iconst 1, 1) := by decide +kernel
theorem dL_orders_147 : decode cL_orders 147 = .ok (.goto 4, 3) := by decide +kernel
theorem dL_orders_150 : decode cL_orders 150 = .ok (.iconst 0, 1) := by decide +kernel
theorem dL_orders_151 : decode cL_orders 151 = .ok (.istore 12, 2) := by decide +kernel
theorem dL_orders_153 : decode cL_orders 153 = .ok (.iload 12, 2) := by decide +kernel
theorem dL_orders_155 : decode cL_orders 155 = .ok (.ifCond .eq 30, 3) := by decide +kernel
theorem dL_orders_158 : decode cL_orders 158 = .ok (.iload 10, 2) := by decide +kernel
theorem dL_orders_160 : decode cL_orders 160 = .ok (.ifCond .lt 15, 3) := by decide +kernel
theorem dL_orders_163 : decode cL_orders 163 = .ok (.aload 7, 2) := by decide +kernel
theorem dL_orders_165 : decode cL_orders 165 = .ok (.iload 4, 2) := by decide +kernel
theorem dL_orders_167 : decode cL_orders 167 = .ok (.invokestatic 80, 3) := by decide +kernel
theorem dL_orders_170 : decode cL_orders 170 = .ok (.iload 10, 2) := by decide +kernel
theorem dL_orders_172 : decode cL_orders 172 = .ok (.if_icmp .ge 13, 3) := by decide +kernel
theorem dL_orders_175 : decode cL_orders 175 = .ok (.aload 7, 2) := by decide +kernel
theorem dL_orders_177 : decode cL_orders 177 = .ok (.iload 4, 2) := by decide +kernel
theorem dL_orders_179 : decode cL_orders 179 = .ok (.invokestatic 80, 3) := by decide +kernel
theorem dL_orders_182 : decode cL_orders 182 = .ok (.goto 5, 3) := by decide +kernel
theorem dL_orders_185 : decode cL_orders 185 = .ok (.iload 10, 2) := by decide +kernel
theorem dL_orders_187 : decode cL_orders 187 = .ok (.istore 10, 2) := by decide +kernel
theorem dL_orders_189 : decode cL_orders 189 = .ok (.iinc 11 1, 3) := by decide +kernel
theorem dL_orders_192 : decode cL_orders 192 = .ok (.goto (-114), 3) := by decide +kernel
theorem dL_orders_195 : decode cL_orders 195 = .ok (.iconst 0, 1) := by decide +kernel
theorem dL_orders_196 : decode cL_orders 196 = .ok (.istore 11, 2) := by decide +kernel
theorem dL_orders_198 : decode cL_orders 198 = .ok (.iconst 0, 1) := by decide +kernel
theorem dL_orders_199 : decode cL_orders 199 = .ok (.istore 12, 2) := by decide +kernel
theorem dL_orders_201 : decode cL_orders 201 = .ok (.iload 12, 2) := by decide +kernel
theorem dL_orders_203 : decode cL_orders 203 = .ok (.iload 4, 2) := by decide +kernel
theorem dL_orders_205 : decode cL_orders 205 = .ok (.if_icmp .ge 16, 3) := by decide +kernel
theorem dL_orders_208 : decode cL_orders 208 = .ok (.aload 7, 2) := by decide +kernel
theorem dL_orders_210 : decode cL_orders 210 = .ok (.iload 12, 2) := by decide +kernel
theorem dL_orders_212 : decode cL_orders 212 = .ok (.iload 12, 2) := by decide +kernel
theorem dL_orders_214 : decode cL_orders 214 = .ok (.iastore, 1) := by decide +kernel
theorem dL_orders_215 : decode cL_orders 215 = .ok (.iinc 12 1, 3) := by decide +kernel
theorem dL_orders_218 : decode cL_orders 218 = .ok (.goto (-17), 3) := by decide +kernel
theorem dL_orders_221 : decode cL_orders 221 = .ok (.iconst 1, 1) := by decide +kernel
theorem dL_orders_222 : decode cL_orders 222 = .ok (.istore 12, 2) := by decide +kernel
theorem dL_orders_224 : decode cL_orders 224 = .ok (.iload 12, 2) := by decide +kernel
theorem dL_orders_226 : decode cL_orders 226 = .ok (.ifCond .eq 44, 3) := by decide +kernel
theorem dL_orders_229 : decode cL_orders 229 = .ok (.iload 11, 2) := by decide +kernel
theorem dL_orders_231 : decode cL_orders 231 = .ok (.iload_n 1, 1) := by decide +kernel
theorem dL_orders_232 : decode cL_orders 232 = .ok (.aload 7, 2) := by decide +kernel
theorem dL_orders_234 : decode cL_orders 234 = .ok (.iload 4, 2) := by decide +kernel
theorem dL_orders_236 : decode cL_orders 236 = .ok (.aload 5, 2) := by decide +kernel
theorem dL_orders_238 : decode cL_orders 238 = .ok (.aload 6, 2) := by decide +kernel
theorem dL_orders_240 : decode cL_orders 240 = .ok (.iload 8, 2) := by decide +kernel
theorem dL_orders_242 : decode cL_orders 242 = .ok (.invokestatic 109, 3) := by decide +kernel
theorem dL_orders_245 : decode cL_orders 245 = .ok (.iload 9, 2) := by decide +kernel
theorem dL_orders_247 : decode cL_orders 247 = .ok (.if_icmp .ne 7, 3) := by decide +kernel
theorem dL_orders_250 : decode cL_orders 250 = .ok (.iconst 1, 1) := by decide +kernel
theorem dL_orders_251 : decode cL_orders 251 = .ok (.goto 4, 3) := by decide +kernel
theorem dL_orders_254 : decode cL_orders 254 = .ok (.iconst 0, 1) := by decide +kernel
theorem dL_orders_255 : decode cL_orders 255 = .ok (.iadd, 1) := by decide +kernel
theorem dL_orders_256 : decode cL_orders 256 = .ok (.istore 11, 2) := by decide +kernel
theorem dL_orders_258 : decode cL_orders 258 = .ok (.aload 7, 2) := by decide +kernel
theorem dL_orders_260 : decode cL_orders 260 = .ok (.iload 4, 2) := by decide +kernel
theorem dL_orders_262 : decode cL_orders 262 = .ok (.invokestatic 72, 3) := by decide +kernel
theorem dL_orders_265 : decode cL_orders 265 = .ok (.istore 12, 2) := by decide +kernel
theorem dL_orders_267 : decode cL_orders 267 = .ok (.goto (-43), 3) := by decide +kernel
theorem dL_orders_270 : decode cL_orders 270 = .ok (.aload_n 0, 1) := by decide +kernel
theorem dL_orders_271 : decode cL_orders 271 = .ok (.iload_n 1, 1) := by decide +kernel
theorem dL_orders_272 : decode cL_orders 272 = .ok (.aload_n 2, 1) := by decide +kernel
theorem dL_orders_273 : decode cL_orders 273 = .ok (.iload 4, 2) := by decide +kernel
theorem dL_orders_275 : decode cL_orders 275 = .ok (.invokestatic 80, 3) := by decide +kernel
theorem dL_orders_278 : decode cL_orders 278 = .ok (.invokevirtual 113, 3) := by decide +kernel
theorem dL_orders_281 : decode cL_orders 281 = .ok (.iload 9, 2) := by decide +kernel
theorem dL_orders_283 : decode cL_orders 283 = .ok (.if_icmp .ne 48, 3) := by decide +kernel
theorem dL_orders_286 : decode cL_orders 286 = .ok (.aload_n 0, 1) := by decide +kernel
theorem dL_orders_287 : decode cL_orders 287 = .ok (.iload_n 1, 1) := by decide +kernel
theorem dL_orders_288 : decode cL_orders 288 = .ok (.aload_n 2, 1) := by decide +kernel
theorem dL_orders_289 : decode cL_orders 289 = .ok (.iload 4, 2) := by decide +kernel
theorem dL_orders_291 : decode cL_orders 291 = .ok (.invokestatic 80, 3) := by decide +kernel
theorem dL_orders_294 : decode cL_orders 294 = .ok (.invokevirtual 116, 3) := by decide +kernel
theorem dL_orders_297 : decode cL_orders 297 = .ok (.iload 10, 2) := by decide +kernel
theorem dL_orders_299 : decode cL_orders 299 = .ok (.if_icmp .ne 32, 3) := by decide +kernel
theorem dL_orders_302 : decode cL_orders 302 = .ok (.aload_n 0, 1) := by decide +kernel
theorem dL_orders_303 : decode cL_orders 303 = .ok (.iload_n 1, 1) := by decide +kernel
theorem dL_orders_304 : decode cL_orders 304 = .ok (.iload 9, 2) := by decide +kernel
theorem dL_orders_306 : decode cL_orders 306 = .ok (.invokevirtual 119, 3) := by decide +kernel
theorem dL_orders_309 : decode cL_orders 309 = .ok (.iload 11, 2) := by decide +kernel
theorem dL_orders_311 : decode cL_orders 311 = .ok (.if_icmp .ne 20, 3) := by decide +kernel
theorem dL_orders_314 : decode cL_orders 314 = .ok (.aload_n 0, 1) := by decide +kernel
theorem dL_orders_315 : decode cL_orders 315 = .ok (.iload_n 1, 1) := by decide +kernel
theorem dL_orders_316 : decode cL_orders 316 = .ok (.bipush 20, 2) := by decide +kernel
theorem dL_orders_318 : decode cL_orders 318 = .ok (.iload 9, 2) := by decide +kernel
theorem dL_orders_320 : decode cL_orders 320 = .ok (.iadd, 1) := by decide +kernel
theorem dL_orders_321 : decode cL_orders 321 = .ok (.invokevirtual 119, 3) := by decide +kernel
theorem dL_orders_324 : decode cL_orders 324 = .ok (.ifCond .ne 7, 3) := by decide +kernel
theorem dL_orders_327 : decode cL_orders 327 = .ok (.iconst 1, 1) := by decide +kernel
theorem dL_orders_328 : decode cL_orders 328 = .ok (.goto 4, 3) := by decide +kernel
theorem dL_orders_331 : decode cL_orders 331 = .ok (.iconst 0, 1) := by decide +kernel
theorem dL_orders_332 : decode cL_orders 332 = .ok (.ireturn, 1) := by decide +kernel
theorem dL_setting_0 : decode cL_setting 0 = .ok (.bipush 6, 2) := by decide +kernel
theorem dL_setting_2 : decode cL_setting 2 = .ok (.newarray .int, 2) := by decide +kernel
theorem dL_setting_4 : decode cL_setting 4 = .ok (.astore_n 3, 1) := by decide +kernel
theorem dL_setting_5 : decode cL_setting 5 = .ok (.iconst 0, 1) := by decide +kernel
theorem dL_setting_6 : decode cL_setting 6 = .ok (.istore 4, 2) := by decide +kernel
theorem dL_setting_8 : decode cL_setting 8 = .ok (.iload 4, 2) := by decide +kernel
theorem dL_setting_10 : decode cL_setting 10 = .ok (.iconst 1, 1) := by decide +kernel
theorem dL_setting_11 : decode cL_setting 11 = .ok (.aload_n 2, 1) := by decide +kernel
theorem dL_setting_12 : decode cL_setting 12 = .ok (.iconst 1, 1) := by decide +kernel
theorem dL_setting_13 : decode cL_setting 13 = .ok (.iaload, 1) := by decide +kernel
theorem dL_setting_14 : decode cL_setting 14 = .ok (.ishl, 1) := by decide +kernel
theorem dL_setting_15 : decode cL_setting 15 = .ok (.if_icmp .ge 154, 3) := by decide +kernel
theorem dL_setting_18 : decode cL_setting 18 = .ok (.iconst 1, 1) := by decide +kernel
theorem dL_setting_19 : decode cL_setting 19 = .ok (.istore 5, 2) := by decide +kernel
theorem dL_setting_21 : decode cL_setting 21 = .ok (.iconst 0, 1) := by decide +kernel
theorem dL_setting_22 : decode cL_setting 22 = .ok (.istore 6, 2) := by decide +kernel
theorem dL_setting_24 : decode cL_setting 24 = .ok (.iload 6, 2) := by decide +kernel
theorem dL_setting_26 : decode cL_setting 26 = .ok (.aload_n 2, 1) := by decide +kernel
theorem dL_setting_27 : decode cL_setting 27 = .ok (.iconst 0, 1) := by decide +kernel
theorem dL_setting_28 : decode cL_setting 28 = .ok (.iaload, 1) := by decide +kernel
theorem dL_setting_29 : decode cL_setting 29 = .ok (.if_icmp .ge 15, 3) := by decide +kernel
theorem dL_setting_32 : decode cL_setting 32 = .ok (.aload_n 3, 1) := by decide +kernel
theorem dL_setting_33 : decode cL_setting 33 = .ok (.iload 6, 2) := by decide +kernel
theorem dL_setting_35 : decode cL_setting 35 = .ok (.iload 6, 2) := by decide +kernel
theorem dL_setting_37 : decode cL_setting 37 = .ok (.iastore, 1) := by decide +kernel
theorem dL_setting_38 : decode cL_setting 38 = .ok (.iinc 6 1, 3) := by decide +kernel
theorem dL_setting_41 : decode cL_setting 41 = .ok (.goto (-17), 3) := by decide +kernel
theorem dL_setting_44 : decode cL_setting 44 = .ok (.iconst 0, 1) := by decide +kernel
theorem dL_setting_45 : decode cL_setting 45 = .ok (.istore 6, 2) := by decide +kernel
theorem dL_setting_47 : decode cL_setting 47 = .ok (.iload 6, 2) := by decide +kernel
theorem dL_setting_49 : decode cL_setting 49 = .ok (.aload_n 2, 1) := by decide +kernel
theorem dL_setting_50 : decode cL_setting 50 = .ok (.iconst 1, 1) := by decide +kernel
theorem dL_setting_51 : decode cL_setting 51 = .ok (.iaload, 1) := by decide +kernel
theorem dL_setting_52 : decode cL_setting 52 = .ok (.if_icmp .ge 63, 3) := by decide +kernel
theorem dL_setting_55 : decode cL_setting 55 = .ok (.aload_n 1, 1) := by decide +kernel
theorem dL_setting_56 : decode cL_setting 56 = .ok (.iload 6, 2) := by decide +kernel
theorem dL_setting_58 : decode cL_setting 58 = .ok (.iaload, 1) := by decide +kernel
theorem dL_setting_59 : decode cL_setting 59 = .ok (.bipush 8, 2) := by decide +kernel
theorem dL_setting_61 : decode cL_setting 61 = .ok (.irem, 1) := by decide +kernel
theorem dL_setting_62 : decode cL_setting 62 = .ok (.istore 7, 2) := by decide +kernel
theorem dL_setting_64 : decode cL_setting 64 = .ok (.iload 4, 2) := by decide +kernel
theorem dL_setting_66 : decode cL_setting 66 = .ok (.iload 6, 2) := by decide +kernel
theorem dL_setting_68 : decode cL_setting 68 = .ok (.ishr, 1) := by decide +kernel
theorem dL_setting_69 : decode cL_setting 69 = .ok (.iconst 1, 1) := by decide +kernel
theorem dL_setting_70 : decode cL_setting 70 = .ok (.iand, 1) := by decide +kernel
theorem dL_setting_71 : decode cL_setting 71 = .ok (.iconst 1, 1) := by decide +kernel
theorem dL_setting_72 : decode cL_setting 72 = .ok (.if_icmp .ne 13, 3) := by decide +kernel
theorem dL_setting_75 : decode cL_setting 75 = .ok (.aload_n 1, 1) := by decide +kernel
theorem dL_setting_76 : decode cL_setting 76 = .ok (.iload 6, 2) := by decide +kernel
theorem dL_setting_78 : decode cL_setting 78 = .ok (.iaload, 1) := by decide +kernel
theorem dL_setting_79 : decode cL_setting 79 = .ok (.bipush 8, 2) := by decide +kernel
theorem dL_setting_81 : decode cL_setting 81 = .ok (.idiv, 1) := by decide +kernel
theorem dL_setting_82 : decode cL_setting 82 = .ok (.goto 5, 3) := by decide +kernel
theorem dL_setting_85 : decode cL_setting 85 = .ok (.iload 7, 2) := by decide +kernel
theorem dL_setting_87 : decode cL_setting 87 = .ok (.istore 8, 2) := by decide +kernel
theorem dL_setting_89 : decode cL_setting 89 = .ok (.aload_n 3, 1) := by decide +kernel
theorem dL_setting_90 : decode cL_setting 90 = .ok (.iload 7, 2) := by decide +kernel
theorem dL_setting_92 : decode cL_setting 92 = .ok (.iaload, 1) := by decide +kernel
theorem dL_setting_93 : decode cL_setting 93 = .ok (.istore 9, 2) := by decide +kernel
theorem dL_setting_95 : decode cL_setting 95 = .ok (.aload_n 3, 1) := by decide +kernel
theorem dL_setting_96 : decode cL_setting 96 = .ok (.iload 7, 2) := by decide +kernel
theorem dL_setting_98 : decode cL_setting 98 = .ok (.aload_n 3, 1) := by decide +kernel
theorem dL_setting_99 : decode cL_setting 99 = .ok (.iload 8, 2) := by decide +kernel
theorem dL_setting_101 : decode cL_setting 101 = .ok (.iaload, 1) := by decide +kernel
theorem dL_setting_102 : decode cL_setting 102 = .ok (.iastore, 1) := by decide +kernel
theorem dL_setting_103 : decode cL_setting 103 = .ok (.aload_n 3, 1) := by decide +kernel
theorem dL_setting_104 : decode cL_setting 104 = .ok (.iload 8, 2) := by decide +kernel
theorem dL_setting_106 : decode cL_setting 106 = .ok (.iload 9, 2) := by decide +kernel
theorem dL_setting_108 : decode cL_setting 108 = .ok (.iastore, 1) := by decide +kernel
theorem dL_setting_109 : decode cL_setting 109 = .ok (.iinc 6 1, 3) := by decide +kernel
theorem dL_setting_112 : decode cL_setting 112 = .ok (.goto (-65), 3) := by decide +kernel
theorem dL_setting_115 : decode cL_setting 115 = .ok (.iconst 0, 1) := by decide +kernel
theorem dL_setting_116 : decode cL_setting 116 = .ok (.istore 6, 2) := by decide +kernel
theorem dL_setting_118 : decode cL_setting 118 = .ok (.iload 6, 2) := by decide +kernel
theorem dL_setting_120 : decode cL_setting 120 = .ok (.aload_n 2, 1) := by decide +kernel
theorem dL_setting_121 : decode cL_setting 121 = .ok (.iconst 0, 1) := by decide +kernel
theorem dL_setting_122 : decode cL_setting 122 = .ok (.iaload, 1) := by decide +kernel
theorem dL_setting_123 : decode cL_setting 123 = .ok (.if_icmp .ge 32, 3) := by decide +kernel
theorem dL_setting_126 : decode cL_setting 126 = .ok (.iload 5, 2) := by decide +kernel
theorem dL_setting_128 : decode cL_setting 128 = .ok (.ifCond .eq 18, 3) := by decide +kernel
theorem dL_setting_131 : decode cL_setting 131 = .ok (.aload_n 3, 1) := by decide +kernel
theorem dL_setting_132 : decode cL_setting 132 = .ok (.iload 6, 2) := by decide +kernel
theorem dL_setting_134 : decode cL_setting 134 = .ok (.iaload, 1) := by decide +kernel
theorem dL_setting_135 : decode cL_setting 135 = .ok (.aload_n 0, 1) := by decide +kernel
theorem dL_setting_136 : decode cL_setting 136 = .ok (.iload 6, 2) := by decide +kernel
theorem dL_setting_138 : decode cL_setting 138 = .ok (.iaload, 1) := by decide +kernel
theorem dL_setting_139 : decode cL_setting 139 = .ok (.if_icmp .ne 7, 3) := by decide +kernel
theorem dL_setting_142 : decode cL_setting 142 = .ok (.iconst 1, 1) := by decide +kernel
theorem dL_setting_143 : decode cL_setting 143 = .ok (.goto 4, 3) := by decide +kernel
theorem dL_setting_146 : decode cL_setting 146 = .ok (.iconst 0, 1) := by decide +kernel
theorem dL_setting_147 : decode cL_setting 147 = .ok (.istore 5, 2) := by decide +kernel
theorem dL_setting_149 : decode cL_setting 149 = .ok (.iinc 6 1, 3) := by decide +kernel
theorem dL_setting_152 : decode cL_setting 152 = .ok (.goto (-34), 3) := by decide +kernel
theorem dL_setting_155 : decode cL_setting 155 = .ok (.iload 5, 2) := by decide +kernel
theorem dL_setting_157 : decode cL_setting 157 = .ok (.ifCond .eq 6, 3) := by decide +kernel
theorem dL_setting_160 : decode cL_setting 160 = .ok (.iload 4, 2) := by decide +kernel
theorem dL_setting_162 : decode cL_setting 162 = .ok (.ireturn, 1) := by decide +kernel
theorem dL_setting_163 : decode cL_setting 163 = .ok (.iinc 4 1, 3) := by decide +kernel
theorem dL_setting_166 : decode cL_setting 166 = .ok (.goto (-158), 3) := by decide +kernel
theorem dL_setting_169 : decode cL_setting 169 = .ok (.iconst (-1), 1) := by decide +kernel
theorem dL_setting_170 : decode cL_setting 170 = .ok (.ireturn, 1) := by decide +kernel
theorem dL_switches_0 : decode cL_switches 0 = .ok (.aload_n 3, 1) := by decide +kernel
theorem dL_switches_1 : decode cL_switches 1 = .ok (.iconst 0, 1) := by decide +kernel
theorem dL_switches_2 : decode cL_switches 2 = .ok (.iaload, 1) := by decide +kernel
theorem dL_switches_3 : decode cL_switches 3 = .ok (.iconst 4, 1) := by decide +kernel
theorem dL_switches_4 : decode cL_switches 4 = .ok (.if_icmp .gt 11, 3) := by decide +kernel
theorem dL_switches_7 : decode cL_switches 7 = .ok (.aload_n 3, 1) := by decide +kernel
theorem dL_switches_8 : decode cL_switches 8 = .ok (.iconst 1, 1) := by decide +kernel
theorem dL_switches_9 : decode cL_switches 9 = .ok (.iaload, 1) := by decide +kernel
theorem dL_switches_10 : decode cL_switches 10 = .ok (.bipush 7, 2) := by decide +kernel
theorem dL_switches_12 : decode cL_switches 12 = .ok (.if_icmp .le 5, 3) := by decide +kernel
theorem dL_switches_15 : decode cL_switches 15 = .ok (.iconst 1, 1) := by decide +kernel
theorem dL_switches_16 : decode cL_switches 16 = .ok (.ireturn, 1) := by decide +kernel
theorem dL_switches_17 : decode cL_switches 17 = .ok (.bipush 6, 2) := by decide +kernel
theorem dL_switches_19 : decode cL_switches 19 = .ok (.newarray .int, 2) := by decide +kernel
theorem dL_switches_21 : decode cL_switches 21 = .ok (.astore 4, 2) := by decide +kernel
theorem dL_switches_23 : decode cL_switches 23 = .ok (.iconst 0, 1) := by decide +kernel
theorem dL_switches_24 : decode cL_switches 24 = .ok (.istore 5, 2) := by decide +kernel
theorem dL_switches_26 : decode cL_switches 26 = .ok (.iload 5, 2) := by decide +kernel
theorem dL_switches_28 : decode cL_switches 28 = .ok (.aload_n 3, 1) := by decide +kernel
theorem dL_switches_29 : decode cL_switches 29 = .ok (.iconst 0, 1) := by decide +kernel
theorem dL_switches_30 : decode cL_switches 30 = .ok (.iaload, 1) := by decide +kernel
theorem dL_switches_31 : decode cL_switches 31 = .ok (.if_icmp .ge 16, 3) := by decide +kernel
theorem dL_switches_34 : decode cL_switches 34 = .ok (.aload 4, 2) := by decide +kernel
theorem dL_switches_36 : decode cL_switches 36 = .ok (.iload 5, 2) := by decide +kernel
theorem dL_switches_38 : decode cL_switches 38 = .ok (.iload 5, 2) := by decide +kernel
theorem dL_switches_40 : decode cL_switches 40 = .ok (.iastore, 1) := by decide +kernel
theorem dL_switches_41 : decode cL_switches 41 = .ok (.iinc 5 1, 3) := by decide +kernel
theorem dL_switches_44 : decode cL_switches 44 = .ok (.goto (-18), 3) := by decide +kernel
theorem dL_switches_47 : decode cL_switches 47 = .ok (.iconst 0, 1) := by decide +kernel
theorem dL_switches_48 : decode cL_switches 48 = .ok (.istore 5, 2) := by decide +kernel
theorem dL_switches_50 : decode cL_switches 50 = .ok (.iconst 1, 1) := by decide +kernel
theorem dL_switches_51 : decode cL_switches 51 = .ok (.istore 6, 2) := by decide +kernel
theorem dL_switches_53 : decode cL_switches 53 = .ok (.iload 6, 2) := by decide +kernel
theorem dL_switches_55 : decode cL_switches 55 = .ok (.ifCond .eq 36, 3) := by decide +kernel
theorem dL_switches_58 : decode cL_switches 58 = .ok (.iload 5, 2) := by decide +kernel
theorem dL_switches_60 : decode cL_switches 60 = .ok (.aload 4, 2) := by decide +kernel
theorem dL_switches_62 : decode cL_switches 62 = .ok (.aload_n 2, 1) := by decide +kernel
theorem dL_switches_63 : decode cL_switches 63 = .ok (.aload_n 3, 1) := by decide +kernel
theorem dL_switches_64 : decode cL_switches 64 = .ok (.invokestatic 122, 3) := by decide +kernel
theorem dL_switches_67 : decode cL_switches 67 = .ok (.ifCond .lt 7, 3) := by decide +kernel
theorem dL_switches_70 : decode cL_switches 70 = .ok (.iconst 1, 1) := by decide +kernel
theorem dL_switches_71 : decode cL_switches 71 = .ok (.goto 4, 3) := by decide +kernel
theorem dL_switches_74 : decode cL_switches 74 = .ok (.iconst 0, 1) := by decide +kernel
theorem dL_switches_75 : decode cL_switches 75 = .ok (.iadd, 1) := by decide +kernel
theorem dL_switches_76 : decode cL_switches 76 = .ok (.istore 5, 2) := by decide +kernel
theorem dL_switches_78 : decode cL_switches 78 = .ok (.aload 4, 2) := by decide +kernel
theorem dL_switches_80 : decode cL_switches 80 = .ok (.aload_n 3, 1) := by decide +kernel
theorem dL_switches_81 : decode cL_switches 81 = .ok (.iconst 0, 1) := by decide +kernel
theorem dL_switches_82 : decode cL_switches 82 = .ok (.iaload, 1) := by decide +kernel
theorem dL_switches_83 : decode cL_switches 83 = .ok (.invokestatic 72, 3) := by decide +kernel
theorem dL_switches_86 : decode cL_switches 86 = .ok (.istore 6, 2) := by decide +kernel
theorem dL_switches_88 : decode cL_switches 88 = .ok (.goto (-35), 3) := by decide +kernel
theorem dL_switches_91 : decode cL_switches 91 = .ok (.aload_n 0, 1) := by decide +kernel
theorem dL_switches_92 : decode cL_switches 92 = .ok (.invokevirtual 125, 3) := by decide +kernel
theorem dL_switches_95 : decode cL_switches 95 = .ok (.iload 5, 2) := by decide +kernel
theorem dL_switches_97 : decode cL_switches 97 = .ok (.if_icmp .ne 27, 3) := by decide +kernel
theorem dL_switches_100 : decode cL_switches 100 = .ok (.aload_n 0, 1) := by decide +kernel
theorem dL_switches_101 : decode cL_switches 101 = .ok (.aload_n 1, 1) := by decide +kernel
theorem dL_switches_102 : decode cL_switches 102 = .ok (.aload_n 3, 1) := by decide +kernel
theorem dL_switches_103 : decode cL_switches 103 = .ok (.iconst 0, 1) := by decide +kernel
theorem dL_switches_104 : decode cL_switches 104 = .ok (.iaload, 1) := by decide +kernel
theorem dL_switches_105 : decode cL_switches 105 = .ok (.invokestatic 80, 3) := by decide +kernel
theorem dL_switches_108 : decode cL_switches 108 = .ok (.invokevirtual 128, 3) := by decide +kernel
theorem dL_switches_111 : decode cL_switches 111 = .ok (.aload_n 1, 1) := by decide +kernel
theorem dL_switches_112 : decode cL_switches 112 = .ok (.aload_n 2, 1) := by decide +kernel
theorem dL_switches_113 : decode cL_switches 113 = .ok (.aload_n 3, 1) := by decide +kernel
theorem dL_switches_114 : decode cL_switches 114 = .ok (.invokestatic 122, 3) := by decide +kernel
theorem dL_switches_117 : decode cL_switches 117 = .ok (.if_icmp .ne 7, 3) := by decide +kernel
theorem dL_switches_120 : decode cL_switches 120 = .ok (.iconst 1, 1) := by decide +kernel
theorem dL_switches_121 : decode cL_switches 121 = .ok (.goto 4, 3) := by decide +kernel
theorem dL_switches_124 : decode cL_switches 124 = .ok (.iconst 0, 1) := by decide +kernel
theorem dL_switches_125 : decode cL_switches 125 = .ok (.ireturn, 1) := by decide +kernel
theorem dL_done_0 : decode cL_done 0 = .ok (.aload_n 3, 1) := by decide +kernel
theorem dL_done_1 : decode cL_done 1 = .ok (.iconst 0, 1) := by decide +kernel
theorem dL_done_2 : decode cL_done 2 = .ok (.iaload, 1) := by decide +kernel
theorem dL_done_3 : decode cL_done 3 = .ok (.istore 4, 2) := by decide +kernel
theorem dL_done_5 : decode cL_done 5 = .ok (.aload_n 3, 1) := by decide +kernel
theorem dL_done_6 : decode cL_done 6 = .ok (.iconst 1, 1) := by decide +kernel
theorem dL_done_7 : decode cL_done 7 = .ok (.iaload, 1) := by decide +kernel
theorem dL_done_8 : decode cL_done 8 = .ok (.istore 5, 2) := by decide +kernel
theorem dL_done_10 : decode cL_done 10 = .ok (.iload 5, 2) := by decide +kernel
theorem dL_done_12 : decode cL_done 12 = .ok (.istore 6, 2) := by decide +kernel
theorem dL_done_14 : decode cL_done 14 = .ok (.iconst 1, 1) := by decide +kernel
theorem dL_done_15 : decode cL_done 15 = .ok (.istore 7, 2) := by decide +kernel
theorem dL_done_17 : decode cL_done 17 = .ok (.iload_n 0, 1) := by decide +kernel
theorem dL_done_18 : decode cL_done 18 = .ok (.ifCond .lt 22, 3) := by decide +kernel
theorem dL_done_21 : decode cL_done 21 = .ok (.aload_n 2, 1) := by decide +kernel
theorem dL_done_22 : decode cL_done 22 = .ok (.iload 6, 2) := by decide +kernel
theorem dL_done_24 : decode cL_done 24 = .ok (.iload_n 0, 1) := by decide +kernel
theorem dL_done_25 : decode cL_done 25 = .ok (.iload 4, 2) := by decide +kernel
theorem dL_done_27 : decode cL_done 27 = .ok (.idiv, 1) := by decide +kernel
theorem dL_done_28 : decode cL_done 28 = .ok (.bipush 8, 2) := by decide +kernel
theorem dL_done_30 : decode cL_done 30 = .ok (.iload_n 0, 1) := by decide +kernel
theorem dL_done_31 : decode cL_done 31 = .ok (.iload 4, 2) := by decide +kernel
theorem dL_done_33 : decode cL_done 33 = .ok (.irem, 1) := by decide +kernel
theorem dL_done_34 : decode cL_done 34 = .ok (.imul, 1) := by decide +kernel
theorem dL_done_35 : decode cL_done 35 = .ok (.iadd, 1) := by decide +kernel
theorem dL_done_36 : decode cL_done 36 = .ok (.iastore, 1) := by decide +kernel
theorem dL_done_37 : decode cL_done 37 = .ok (.iinc 6 1, 3) := by decide +kernel
theorem dL_done_40 : decode cL_done 40 = .ok (.iload_n 1, 1) := by decide +kernel
theorem dL_done_41 : decode cL_done 41 = .ok (.ifCond .lt 22, 3) := by decide +kernel
theorem dL_done_44 : decode cL_done 44 = .ok (.aload_n 2, 1) := by decide +kernel
theorem dL_done_45 : decode cL_done 45 = .ok (.iload 6, 2) := by decide +kernel
theorem dL_done_47 : decode cL_done 47 = .ok (.iload_n 1, 1) := by decide +kernel
theorem dL_done_48 : decode cL_done 48 = .ok (.iload 4, 2) := by decide +kernel
theorem dL_done_50 : decode cL_done 50 = .ok (.idiv, 1) := by decide +kernel
theorem dL_done_51 : decode cL_done 51 = .ok (.bipush 8, 2) := by decide +kernel
theorem dL_done_53 : decode cL_done 53 = .ok (.iload_n 1, 1) := by decide +kernel
theorem dL_done_54 : decode cL_done 54 = .ok (.iload 4, 2) := by decide +kernel
theorem dL_done_56 : decode cL_done 56 = .ok (.irem, 1) := by decide +kernel
theorem dL_done_57 : decode cL_done 57 = .ok (.imul, 1) := by decide +kernel
theorem dL_done_58 : decode cL_done 58 = .ok (.iadd, 1) := by decide +kernel
theorem dL_done_59 : decode cL_done 59 = .ok (.iastore, 1) := by decide +kernel
theorem dL_done_60 : decode cL_done 60 = .ok (.iinc 6 1, 3) := by decide +kernel
theorem dL_done_63 : decode cL_done 63 = .ok (.iconst 0, 1) := by decide +kernel
theorem dL_done_64 : decode cL_done 64 = .ok (.istore 8, 2) := by decide +kernel
theorem dL_done_66 : decode cL_done 66 = .ok (.iload 8, 2) := by decide +kernel
theorem dL_done_68 : decode cL_done 68 = .ok (.iconst 1, 1) := by decide +kernel
theorem dL_done_69 : decode cL_done 69 = .ok (.iload 4, 2) := by decide +kernel
theorem dL_done_71 : decode cL_done 71 = .ok (.ishl, 1) := by decide +kernel
theorem dL_done_72 : decode cL_done 72 = .ok (.if_icmp .ge 32, 3) := by decide +kernel
theorem dL_done_75 : decode cL_done 75 = .ok (.iload 7, 2) := by decide +kernel
theorem dL_done_77 : decode cL_done 77 = .ok (.ifCond .eq 27, 3) := by decide +kernel
theorem dL_done_80 : decode cL_done 80 = .ok (.iload 8, 2) := by decide +kernel
theorem dL_done_82 : decode cL_done 82 = .ok (.iload 6, 2) := by decide +kernel
theorem dL_done_84 : decode cL_done 84 = .ok (.iconst (-1), 1) := by decide +kernel
theorem dL_done_85 : decode cL_done 85 = .ok (.iconst 0, 1) := by decide +kernel
theorem dL_done_86 : decode cL_done 86 = .ok (.aload_n 2, 1) := by decide +kernel
theorem dL_done_87 : decode cL_done 87 = .ok (.invokestatic 41, 3) := by decide +kernel
theorem dL_done_90 : decode cL_done 90 = .ok (.iconst 0, 1) := by decide +kernel
theorem dL_done_91 : decode cL_done 91 = .ok (.iload 4, 2) := by decide +kernel
theorem dL_done_93 : decode cL_done 93 = .ok (.invokestatic 130, 3) := by decide +kernel
theorem dL_done_96 : decode cL_done 96 = .ok (.istore 7, 2) := by decide +kernel
theorem dL_done_98 : decode cL_done 98 = .ok (.iinc 8 1, 3) := by decide +kernel
theorem dL_done_101 : decode cL_done 101 = .ok (.goto (-35), 3) := by decide +kernel
theorem dL_done_104 : decode cL_done 104 = .ok (.iload 7, 2) := by decide +kernel
theorem dL_done_106 : decode cL_done 106 = .ok (.ireturn, 1) := by decide +kernel
theorem dL_finishes_0 : decode cL_finishes 0 = .ok (.aload_n 1, 1) := by decide +kernel
theorem dL_finishes_1 : decode cL_finishes 1 = .ok (.iconst 0, 1) := by decide +kernel
theorem dL_finishes_2 : decode cL_finishes 2 = .ok (.iaload, 1) := by decide +kernel
theorem dL_finishes_3 : decode cL_finishes 3 = .ok (.istore_n 2, 1) := by decide +kernel
theorem dL_finishes_4 : decode cL_finishes 4 = .ok (.iconst 0, 1) := by decide +kernel
theorem dL_finishes_5 : decode cL_finishes 5 = .ok (.istore_n 3, 1) := by decide +kernel
theorem dL_finishes_6 : decode cL_finishes 6 = .ok (.iload_n 3, 1) := by decide +kernel
theorem dL_finishes_7 : decode cL_finishes 7 = .ok (.iload_n 2, 1) := by decide +kernel
theorem dL_finishes_8 : decode cL_finishes 8 = .ok (.iload_n 2, 1) := by decide +kernel
theorem dL_finishes_9 : decode cL_finishes 9 = .ok (.imul, 1) := by decide +kernel
theorem dL_finishes_10 : decode cL_finishes 10 = .ok (.if_icmp .ge 30, 3) := by decide +kernel
theorem dL_finishes_13 : decode cL_finishes 13 = .ok (.iload_n 3, 1) := by decide +kernel
theorem dL_finishes_14 : decode cL_finishes 14 = .ok (.iload_n 2, 1) := by decide +kernel
theorem dL_finishes_15 : decode cL_finishes 15 = .ok (.idiv, 1) := by decide +kernel
theorem dL_finishes_16 : decode cL_finishes 16 = .ok (.iload_n 3, 1) := by decide +kernel
theorem dL_finishes_17 : decode cL_finishes 17 = .ok (.iload_n 2, 1) := by decide +kernel
theorem dL_finishes_18 : decode cL_finishes 18 = .ok (.irem, 1) := by decide +kernel
theorem dL_finishes_19 : decode cL_finishes 19 = .ok (.if_icmp .ge 15, 3) := by decide +kernel
theorem dL_finishes_22 : decode cL_finishes 22 = .ok (.iload_n 3, 1) := by decide +kernel
theorem dL_finishes_23 : decode cL_finishes 23 = .ok (.iconst (-1), 1) := by decide +kernel
theorem dL_finishes_24 : decode cL_finishes 24 = .ok (.aload_n 0, 1) := by decide +kernel
theorem dL_finishes_25 : decode cL_finishes 25 = .ok (.aload_n 1, 1) := by decide +kernel
theorem dL_finishes_26 : decode cL_finishes 26 = .ok (.invokestatic 134, 3) := by decide +kernel
theorem dL_finishes_29 : decode cL_finishes 29 = .ok (.ifCond .eq 5, 3) := by decide +kernel
theorem dL_finishes_32 : decode cL_finishes 32 = .ok (.iconst 1, 1) := by decide +kernel
theorem dL_finishes_33 : decode cL_finishes 33 = .ok (.ireturn, 1) := by decide +kernel
theorem dL_finishes_34 : decode cL_finishes 34 = .ok (.iinc 3 1, 3) := by decide +kernel
theorem dL_finishes_37 : decode cL_finishes 37 = .ok (.goto (-31), 3) := by decide +kernel
theorem dL_finishes_40 : decode cL_finishes 40 = .ok (.iconst 0, 1) := by decide +kernel
theorem dL_finishes_41 : decode cL_finishes 41 = .ok (.istore_n 3, 1) := by decide +kernel
theorem dL_finishes_42 : decode cL_finishes 42 = .ok (.iload_n 3, 1) := by decide +kernel
theorem dL_finishes_43 : decode cL_finishes 43 = .ok (.iload_n 2, 1) := by decide +kernel
theorem dL_finishes_44 : decode cL_finishes 44 = .ok (.iload_n 2, 1) := by decide +kernel
theorem dL_finishes_45 : decode cL_finishes 45 = .ok (.imul, 1) := by decide +kernel
theorem dL_finishes_46 : decode cL_finishes 46 = .ok (.iload_n 2, 1) := by decide +kernel
theorem dL_finishes_47 : decode cL_finishes 47 = .ok (.imul, 1) := by decide +kernel
theorem dL_finishes_48 : decode cL_finishes 48 = .ok (.iload_n 2, 1) := by decide +kernel
theorem dL_finishes_49 : decode cL_finishes 49 = .ok (.imul, 1) := by decide +kernel
theorem dL_finishes_50 : decode cL_finishes 50 = .ok (.if_icmp .ge 59, 3) := by decide +kernel
theorem dL_finishes_53 : decode cL_finishes 53 = .ok (.iload_n 3, 1) := by decide +kernel
theorem dL_finishes_54 : decode cL_finishes 54 = .ok (.iload_n 2, 1) := by decide +kernel
theorem dL_finishes_55 : decode cL_finishes 55 = .ok (.iload_n 2, 1) := by decide +kernel
theorem dL_finishes_56 : decode cL_finishes 56 = .ok (.imul, 1) := by decide +kernel
theorem dL_finishes_57 : decode cL_finishes 57 = .ok (.irem, 1) := by decide +kernel
theorem dL_finishes_58 : decode cL_finishes 58 = .ok (.istore 4, 2) := by decide +kernel
theorem dL_finishes_60 : decode cL_finishes 60 = .ok (.iload_n 3, 1) := by decide +kernel
theorem dL_finishes_61 : decode cL_finishes 61 = .ok (.iload_n 2, 1) := by decide +kernel
theorem dL_finishes_62 : decode cL_finishes 62 = .ok (.iload_n 2, 1) := by decide +kernel
theorem dL_finishes_63 : decode cL_finishes 63 = .ok (.imul, 1) := by decide +kernel
theorem dL_finishes_64 : decode cL_finishes 64 = .ok (.idiv, 1) := by decide +kernel
theorem dL_finishes_65 : decode cL_finishes 65 = .ok (.istore 5, 2) := by decide +kernel
theorem dL_finishes_67 : decode cL_finishes 67 = .ok (.iload 4, 2) := by decide +kernel
theorem dL_finishes_69 : decode cL_finishes 69 = .ok (.iload_n 2, 1) := by decide +kernel
theorem dL_finishes_70 : decode cL_finishes 70 = .ok (.idiv, 1) := by decide +kernel
theorem dL_finishes_71 : decode cL_finishes 71 = .ok (.iload 4, 2) := by decide +kernel
theorem dL_finishes_73 : decode cL_finishes 73 = .ok (.iload_n 2, 1) := by decide +kernel
theorem dL_finishes_74 : decode cL_finishes 74 = .ok (.irem, 1) := by decide +kernel
theorem dL_finishes_75 : decode cL_finishes 75 = .ok (.if_icmp .ge 28, 3) := by decide +kernel
theorem dL_finishes_78 : decode cL_finishes 78 = .ok (.iload 5, 2) := by decide +kernel
theorem dL_finishes_80 : decode cL_finishes 80 = .ok (.iload_n 2, 1) := by decide +kernel
theorem dL_finishes_81 : decode cL_finishes 81 = .ok (.idiv, 1) := by decide +kernel
theorem dL_finishes_82 : decode cL_finishes 82 = .ok (.iload 5, 2) := by decide +kernel
theorem dL_finishes_84 : decode cL_finishes 84 = .ok (.iload_n 2, 1) := by decide +kernel
theorem dL_finishes_85 : decode cL_finishes 85 = .ok (.irem, 1) := by decide +kernel
theorem dL_finishes_86 : decode cL_finishes 86 = .ok (.if_icmp .ge 17, 3) := by decide +kernel
theorem dL_finishes_89 : decode cL_finishes 89 = .ok (.iload 4, 2) := by decide +kernel
theorem dL_finishes_91 : decode cL_finishes 91 = .ok (.iload 5, 2) := by decide +kernel
theorem dL_finishes_93 : decode cL_finishes 93 = .ok (.aload_n 0, 1) := by decide +kernel
theorem dL_finishes_94 : decode cL_finishes 94 = .ok (.aload_n 1, 1) := by decide +kernel
theorem dL_finishes_95 : decode cL_finishes 95 = .ok (.invokestatic 134, 3) := by decide +kernel
theorem dL_finishes_98 : decode cL_finishes 98 = .ok (.ifCond .eq 5, 3) := by decide +kernel
theorem dL_finishes_101 : decode cL_finishes 101 = .ok (.iconst 2, 1) := by decide +kernel
theorem dL_finishes_102 : decode cL_finishes 102 = .ok (.ireturn, 1) := by decide +kernel
theorem dL_finishes_103 : decode cL_finishes 103 = .ok (.iinc 3 1, 3) := by decide +kernel
theorem dL_finishes_106 : decode cL_finishes 106 = .ok (.goto (-64), 3) := by decide +kernel
theorem dL_finishes_109 : decode cL_finishes 109 = .ok (.iconst (-1), 1) := by decide +kernel
theorem dL_finishes_110 : decode cL_finishes 110 = .ok (.ireturn, 1) := by decide +kernel
theorem dL_telling_0 : decode cL_telling 0 = .ok (.lconst 0, 1) := by decide +kernel
theorem dL_telling_1 : decode cL_telling 1 = .ok (.lstore 4, 2) := by decide +kernel
theorem dL_telling_3 : decode cL_telling 3 = .ok (.iconst 0, 1) := by decide +kernel
theorem dL_telling_4 : decode cL_telling 4 = .ok (.istore 6, 2) := by decide +kernel
theorem dL_telling_6 : decode cL_telling 6 = .ok (.iload 6, 2) := by decide +kernel
theorem dL_telling_8 : decode cL_telling 8 = .ok (.iconst 1, 1) := by decide +kernel
theorem dL_telling_9 : decode cL_telling 9 = .ok (.aload_n 3, 1) := by decide +kernel
theorem dL_telling_10 : decode cL_telling 10 = .ok (.iconst 0, 1) := by decide +kernel
theorem dL_telling_11 : decode cL_telling 11 = .ok (.iaload, 1) := by decide +kernel
theorem dL_telling_12 : decode cL_telling 12 = .ok (.ishl, 1) := by decide +kernel
theorem dL_telling_13 : decode cL_telling 13 = .ok (.if_icmp .ge 47, 3) := by decide +kernel
theorem dL_telling_16 : decode cL_telling 16 = .ok (.lload 4, 2) := by decide +kernel
theorem dL_telling_18 : decode cL_telling 18 = .ok (.iload 6, 2) := by decide +kernel
theorem dL_telling_20 : decode cL_telling 20 = .ok (.aload_n 3, 1) := by decide +kernel
theorem dL_telling_21 : decode cL_telling 21 = .ok (.iconst 1, 1) := by decide +kernel
theorem dL_telling_22 : decode cL_telling 22 = .ok (.iaload, 1) := by decide +kernel
theorem dL_telling_23 : decode cL_telling 23 = .ok (.iload_n 0, 1) := by decide +kernel
theorem dL_telling_24 : decode cL_telling 24 = .ok (.iload_n 1, 1) := by decide +kernel
theorem dL_telling_25 : decode cL_telling 25 = .ok (.aload_n 2, 1) := by decide +kernel
theorem dL_telling_26 : decode cL_telling 26 = .ok (.invokestatic 41, 3) := by decide +kernel
theorem dL_telling_29 : decode cL_telling 29 = .ok (.iload 6, 2) := by decide +kernel
theorem dL_telling_31 : decode cL_telling 31 = .ok (.aload_n 3, 1) := by decide +kernel
theorem dL_telling_32 : decode cL_telling 32 = .ok (.iconst 1, 1) := by decide +kernel
theorem dL_telling_33 : decode cL_telling 33 = .ok (.iaload, 1) := by decide +kernel
theorem dL_telling_34 : decode cL_telling 34 = .ok (.iconst (-1), 1) := by decide +kernel
theorem dL_telling_35 : decode cL_telling 35 = .ok (.iconst 0, 1) := by decide +kernel
theorem dL_telling_36 : decode cL_telling 36 = .ok (.aload_n 2, 1) := by decide +kernel
theorem dL_telling_37 : decode cL_telling 37 = .ok (.invokestatic 41, 3) := by decide +kernel
theorem dL_telling_40 : decode cL_telling 40 = .ok (.if_icmp .ne 7, 3) := by decide +kernel
theorem dL_telling_43 : decode cL_telling 43 = .ok (.lconst 0, 1) := by decide +kernel
theorem dL_telling_44 : decode cL_telling 44 = .ok (.goto 7, 3) := by decide +kernel
theorem dL_telling_47 : decode cL_telling 47 = .ok (.lconst 1, 1) := by decide +kernel
theorem dL_telling_48 : decode cL_telling 48 = .ok (.iload 6, 2) := by decide +kernel
theorem dL_telling_50 : decode cL_telling 50 = .ok (.lshl, 1) := by decide +kernel
theorem dL_telling_51 : decode cL_telling 51 = .ok (.lor, 1) := by decide +kernel
theorem dL_telling_52 : decode cL_telling 52 = .ok (.lstore 4, 2) := by decide +kernel
theorem dL_telling_54 : decode cL_telling 54 = .ok (.iinc 6 1, 3) := by decide +kernel
theorem dL_telling_57 : decode cL_telling 57 = .ok (.goto (-51), 3) := by decide +kernel
theorem dL_telling_60 : decode cL_telling 60 = .ok (.lload 4, 2) := by decide +kernel
theorem dL_telling_62 : decode cL_telling 62 = .ok (.lreturn, 1) := by decide +kernel
theorem dL_ones_0 : decode cL_ones 0 = .ok (.iconst 0, 1) := by decide +kernel
theorem dL_ones_1 : decode cL_ones 1 = .ok (.istore_n 2, 1) := by decide +kernel
theorem dL_ones_2 : decode cL_ones 2 = .ok (.iconst 0, 1) := by decide +kernel
theorem dL_ones_3 : decode cL_ones 3 = .ok (.istore_n 3, 1) := by decide +kernel
theorem dL_ones_4 : decode cL_ones 4 = .ok (.iload_n 3, 1) := by decide +kernel
theorem dL_ones_5 : decode cL_ones 5 = .ok (.bipush 64, 2) := by decide +kernel
theorem dL_ones_7 : decode cL_ones 7 = .ok (.if_icmp .ge 18, 3) := by decide +kernel
theorem dL_ones_10 : decode cL_ones 10 = .ok (.iload_n 2, 1) := by decide +kernel
theorem dL_ones_11 : decode cL_ones 11 = .ok (.lload_n 0, 1) := by decide +kernel
theorem dL_ones_12 : decode cL_ones 12 = .ok (.iload_n 3, 1) := by decide +kernel
theorem dL_ones_13 : decode cL_ones 13 = .ok (.lshr, 1) := by decide +kernel
theorem dL_ones_14 : decode cL_ones 14 = .ok (.lconst 1, 1) := by decide +kernel
theorem dL_ones_15 : decode cL_ones 15 = .ok (.land, 1) := by decide +kernel
theorem dL_ones_16 : decode cL_ones 16 = .ok (.l2i, 1) := by decide +kernel
theorem dL_ones_17 : decode cL_ones 17 = .ok (.iadd, 1) := by decide +kernel
theorem dL_ones_18 : decode cL_ones 18 = .ok (.istore_n 2, 1) := by decide +kernel
theorem dL_ones_19 : decode cL_ones 19 = .ok (.iinc 3 1, 3) := by decide +kernel
theorem dL_ones_22 : decode cL_ones 22 = .ok (.goto (-18), 3) := by decide +kernel
theorem dL_ones_25 : decode cL_ones 25 = .ok (.iload_n 2, 1) := by decide +kernel
theorem dL_ones_26 : decode cL_ones 26 = .ok (.ireturn, 1) := by decide +kernel
theorem dL_tests_0 : decode cL_tests 0 = .ok (.iconst (-1), 1) := by decide +kernel
theorem dL_tests_1 : decode cL_tests 1 = .ok (.istore_n 2, 1) := by decide +kernel
theorem dL_tests_2 : decode cL_tests 2 = .ok (.iconst 0, 1) := by decide +kernel
theorem dL_tests_3 : decode cL_tests 3 = .ok (.istore_n 3, 1) := by decide +kernel
theorem dL_tests_4 : decode cL_tests 4 = .ok (.iload_n 3, 1) := by decide +kernel
theorem dL_tests_5 : decode cL_tests 5 = .ok (.iconst 1, 1) := by decide +kernel
theorem dL_tests_6 : decode cL_tests 6 = .ok (.iconst 1, 1) := by decide +kernel
theorem dL_tests_7 : decode cL_tests 7 = .ok (.aload_n 1, 1) := by decide +kernel
theorem dL_tests_8 : decode cL_tests 8 = .ok (.iconst 0, 1) := by decide +kernel
theorem dL_tests_9 : decode cL_tests 9 = .ok (.iaload, 1) := by decide +kernel
