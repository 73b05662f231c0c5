theorem dX7_reach_58 : decode cX7_reach 58 = .ok (.return_, 1) := by decide +kernel
theorem dX8_init_0 : decode cX8_init 0 = .ok (.aload_n 0, 1) := by decide +kernel
theorem dX8_init_1 : decode cX8_init 1 = .ok (.invokespecial 3, 3) := by decide +kernel
theorem dX8_init_4 : decode cX8_init 4 = .ok (.aload_n 0, 1) := by decide +kernel
theorem dX8_init_5 : decode cX8_init 5 = .ok (.bipush 40, 2) := by decide +kernel
theorem dX8_init_7 : decode cX8_init 7 = .ok (.newarray .char, 2) := by decide +kernel
theorem dX8_init_9 : decode cX8_init 9 = .ok (.putfield 9, 3) := by decide +kernel
theorem dX8_init_12 : decode cX8_init 12 = .ok (.aload_n 0, 1) := by decide +kernel
theorem dX8_init_13 : decode cX8_init 13 = .ok (.iconst 0, 1) := by decide +kernel
theorem dX8_init_14 : decode cX8_init 14 = .ok (.putfield 15, 3) := by decide +kernel
theorem dX8_init_17 : decode cX8_init 17 = .ok (.return_, 1) := by decide +kernel
theorem dX8_signIn_0 : decode cX8_signIn 0 = .ok (.lload_n 0, 1) := by decide +kernel
theorem dX8_signIn_1 : decode cX8_signIn 1 = .ok (.bipush 8, 2) := by decide +kernel
theorem dX8_signIn_3 : decode cX8_signIn 3 = .ok (.iload_n 2, 1) := by decide +kernel
theorem dX8_signIn_4 : decode cX8_signIn 4 = .ok (.imul, 1) := by decide +kernel
theorem dX8_signIn_5 : decode cX8_signIn 5 = .ok (.lushr, 1) := by decide +kernel
theorem dX8_signIn_6 : decode cX8_signIn 6 = .ok (.ldc2_w 19, 3) := by decide +kernel
theorem dX8_signIn_9 : decode cX8_signIn 9 = .ok (.land, 1) := by decide +kernel
theorem dX8_signIn_10 : decode cX8_signIn 10 = .ok (.l2i, 1) := by decide +kernel
theorem dX8_signIn_11 : decode cX8_signIn 11 = .ok (.i2c, 1) := by decide +kernel
theorem dX8_signIn_12 : decode cX8_signIn 12 = .ok (.ireturn, 1) := by decide +kernel
theorem dX8_takes_0 : decode cX8_takes 0 = .ok (.iload_n 0, 1) := by decide +kernel
theorem dX8_takes_1 : decode cX8_takes 1 = .ok (.bipush 48, 2) := by decide +kernel
theorem dX8_takes_3 : decode cX8_takes 3 = .ok (.if_icmp .lt 9, 3) := by decide +kernel
theorem dX8_takes_6 : decode cX8_takes 6 = .ok (.iload_n 0, 1) := by decide +kernel
theorem dX8_takes_7 : decode cX8_takes 7 = .ok (.bipush 53, 2) := by decide +kernel
theorem dX8_takes_9 : decode cX8_takes 9 = .ok (.if_icmp .le 21, 3) := by decide +kernel
theorem dX8_takes_12 : decode cX8_takes 12 = .ok (.iload_n 0, 1) := by decide +kernel
theorem dX8_takes_13 : decode cX8_takes 13 = .ok (.bipush 58, 2) := by decide +kernel
theorem dX8_takes_15 : decode cX8_takes 15 = .ok (.if_icmp .eq 15, 3) := by decide +kernel
theorem dX8_takes_18 : decode cX8_takes 18 = .ok (.iload_n 0, 1) := by decide +kernel
theorem dX8_takes_19 : decode cX8_takes 19 = .ok (.bipush 47, 2) := by decide +kernel
theorem dX8_takes_21 : decode cX8_takes 21 = .ok (.if_icmp .eq 9, 3) := by decide +kernel
theorem dX8_takes_24 : decode cX8_takes 24 = .ok (.iload_n 0, 1) := by decide +kernel
theorem dX8_takes_25 : decode cX8_takes 25 = .ok (.bipush 32, 2) := by decide +kernel
theorem dX8_takes_27 : decode cX8_takes 27 = .ok (.if_icmp .ne 7, 3) := by decide +kernel
theorem dX8_takes_30 : decode cX8_takes 30 = .ok (.iconst 1, 1) := by decide +kernel
theorem dX8_takes_31 : decode cX8_takes 31 = .ok (.goto 4, 3) := by decide +kernel
theorem dX8_takes_34 : decode cX8_takes 34 = .ok (.iconst 0, 1) := by decide +kernel
theorem dX8_takes_35 : decode cX8_takes 35 = .ok (.ireturn, 1) := by decide +kernel
theorem dX8_put_0 : decode cX8_put 0 = .ok (.aload_n 0, 1) := by decide +kernel
theorem dX8_put_1 : decode cX8_put 1 = .ok (.getfield 15, 3) := by decide +kernel
theorem dX8_put_4 : decode cX8_put 4 = .ok (.bipush 40, 2) := by decide +kernel
theorem dX8_put_6 : decode cX8_put 6 = .ok (.if_icmp .ge 23, 3) := by decide +kernel
theorem dX8_put_9 : decode cX8_put 9 = .ok (.aload_n 0, 1) := by decide +kernel
theorem dX8_put_10 : decode cX8_put 10 = .ok (.getfield 9, 3) := by decide +kernel
theorem dX8_put_13 : decode cX8_put 13 = .ok (.aload_n 0, 1) := by decide +kernel
theorem dX8_put_14 : decode cX8_put 14 = .ok (.getfield 15, 3) := by decide +kernel
theorem dX8_put_17 : decode cX8_put 17 = .ok (.iload_n 1, 1) := by decide +kernel
theorem dX8_put_18 : decode cX8_put 18 = .ok (.castore, 1) := by decide +kernel
theorem dX8_put_19 : decode cX8_put 19 = .ok (.aload_n 0, 1) := by decide +kernel
theorem dX8_put_20 : decode cX8_put 20 = .ok (.dup, 1) := by decide +kernel
theorem dX8_put_21 : decode cX8_put 21 = .ok (.getfield 15, 3) := by decide +kernel
theorem dX8_put_24 : decode cX8_put 24 = .ok (.iconst 1, 1) := by decide +kernel
theorem dX8_put_25 : decode cX8_put 25 = .ok (.iadd, 1) := by decide +kernel
theorem dX8_put_26 : decode cX8_put 26 = .ok (.putfield 15, 3) := by decide +kernel
theorem dX8_put_29 : decode cX8_put 29 = .ok (.return_, 1) := by decide +kernel
theorem dX8_empty_0 : decode cX8_empty 0 = .ok (.aload_n 0, 1) := by decide +kernel
theorem dX8_empty_1 : decode cX8_empty 1 = .ok (.iconst 0, 1) := by decide +kernel
theorem dX8_empty_2 : decode cX8_empty 2 = .ok (.putfield 15, 3) := by decide +kernel
theorem dX8_empty_5 : decode cX8_empty 5 = .ok (.return_, 1) := by decide +kernel
theorem dX8_faultFor_0 : decode cX8_faultFor 0 = .ok (.iconst 0, 1) := by decide +kernel
theorem dX8_faultFor_1 : decode cX8_faultFor 1 = .ok (.istore_n 2, 1) := by decide +kernel
theorem dX8_faultFor_2 : decode cX8_faultFor 2 = .ok (.iconst 0, 1) := by decide +kernel
theorem dX8_faultFor_3 : decode cX8_faultFor 3 = .ok (.istore_n 3, 1) := by decide +kernel
theorem dX8_faultFor_4 : decode cX8_faultFor 4 = .ok (.iload_n 3, 1) := by decide +kernel
theorem dX8_faultFor_5 : decode cX8_faultFor 5 = .ok (.aload_n 0, 1) := by decide +kernel
theorem dX8_faultFor_6 : decode cX8_faultFor 6 = .ok (.getfield 15, 3) := by decide +kernel
theorem dX8_faultFor_9 : decode cX8_faultFor 9 = .ok (.if_icmp .ge 108, 3) := by decide +kernel
theorem dX8_faultFor_12 : decode cX8_faultFor 12 = .ok (.aload_n 0, 1) := by decide +kernel
theorem dX8_faultFor_13 : decode cX8_faultFor 13 = .ok (.getfield 9, 3) := by decide +kernel
theorem dX8_faultFor_16 : decode cX8_faultFor 16 = .ok (.iload_n 3, 1) := by decide +kernel
theorem dX8_faultFor_17 : decode cX8_faultFor 17 = .ok (.caload, 1) := by decide +kernel
theorem dX8_faultFor_18 : decode cX8_faultFor 18 = .ok (.istore 4, 2) := by decide +kernel
theorem dX8_faultFor_20 : decode cX8_faultFor 20 = .ok (.iload_n 3, 1) := by decide +kernel
theorem dX8_faultFor_21 : decode cX8_faultFor 21 = .ok (.iconst 4, 1) := by decide +kernel
theorem dX8_faultFor_22 : decode cX8_faultFor 22 = .ok (.irem, 1) := by decide +kernel
theorem dX8_faultFor_23 : decode cX8_faultFor 23 = .ok (.iconst 1, 1) := by decide +kernel
theorem dX8_faultFor_24 : decode cX8_faultFor 24 = .ok (.if_icmp .ne 12, 3) := by decide +kernel
theorem dX8_faultFor_27 : decode cX8_faultFor 27 = .ok (.iload 4, 2) := by decide +kernel
theorem dX8_faultFor_29 : decode cX8_faultFor 29 = .ok (.bipush 58, 2) := by decide +kernel
theorem dX8_faultFor_31 : decode cX8_faultFor 31 = .ok (.if_icmp .eq 80, 3) := by decide +kernel
theorem dX8_faultFor_34 : decode cX8_faultFor 34 = .ok (.iload_n 3, 1) := by decide +kernel
theorem dX8_faultFor_35 : decode cX8_faultFor 35 = .ok (.ireturn, 1) := by decide +kernel
theorem dX8_faultFor_36 : decode cX8_faultFor 36 = .ok (.iload_n 3, 1) := by decide +kernel
theorem dX8_faultFor_37 : decode cX8_faultFor 37 = .ok (.iconst 4, 1) := by decide +kernel
theorem dX8_faultFor_38 : decode cX8_faultFor 38 = .ok (.irem, 1) := by decide +kernel
theorem dX8_faultFor_39 : decode cX8_faultFor 39 = .ok (.iconst 3, 1) := by decide +kernel
theorem dX8_faultFor_40 : decode cX8_faultFor 40 = .ok (.if_icmp .ne 35, 3) := by decide +kernel
theorem dX8_faultFor_43 : decode cX8_faultFor 43 = .ok (.iload 4, 2) := by decide +kernel
theorem dX8_faultFor_45 : decode cX8_faultFor 45 = .ok (.bipush 32, 2) := by decide +kernel
theorem dX8_faultFor_47 : decode cX8_faultFor 47 = .ok (.if_icmp .eq 12, 3) := by decide +kernel
theorem dX8_faultFor_50 : decode cX8_faultFor 50 = .ok (.iload 4, 2) := by decide +kernel
theorem dX8_faultFor_52 : decode cX8_faultFor 52 = .ok (.bipush 47, 2) := by decide +kernel
theorem dX8_faultFor_54 : decode cX8_faultFor 54 = .ok (.if_icmp .eq 5, 3) := by decide +kernel
theorem dX8_faultFor_57 : decode cX8_faultFor 57 = .ok (.iload_n 3, 1) := by decide +kernel
theorem dX8_faultFor_58 : decode cX8_faultFor 58 = .ok (.ireturn, 1) := by decide +kernel
theorem dX8_faultFor_59 : decode cX8_faultFor 59 = .ok (.iload 4, 2) := by decide +kernel
theorem dX8_faultFor_61 : decode cX8_faultFor 61 = .ok (.bipush 47, 2) := by decide +kernel
theorem dX8_faultFor_63 : decode cX8_faultFor 63 = .ok (.if_icmp .ne 7, 3) := by decide +kernel
theorem dX8_faultFor_66 : decode cX8_faultFor 66 = .ok (.iconst 0, 1) := by decide +kernel
theorem dX8_faultFor_67 : decode cX8_faultFor 67 = .ok (.goto 4, 3) := by decide +kernel
theorem dX8_faultFor_70 : decode cX8_faultFor 70 = .ok (.iload_n 2, 1) := by decide +kernel
theorem dX8_faultFor_71 : decode cX8_faultFor 71 = .ok (.istore_n 2, 1) := by decide +kernel
theorem dX8_faultFor_72 : decode cX8_faultFor 72 = .ok (.goto 39, 3) := by decide +kernel
theorem dX8_faultFor_75 : decode cX8_faultFor 75 = .ok (.iload 4, 2) := by decide +kernel
theorem dX8_faultFor_77 : decode cX8_faultFor 77 = .ok (.bipush 48, 2) := by decide +kernel
theorem dX8_faultFor_79 : decode cX8_faultFor 79 = .ok (.isub, 1) := by decide +kernel
theorem dX8_faultFor_80 : decode cX8_faultFor 80 = .ok (.istore 5, 2) := by decide +kernel
theorem dX8_faultFor_82 : decode cX8_faultFor 82 = .ok (.iload 5, 2) := by decide +kernel
theorem dX8_faultFor_84 : decode cX8_faultFor 84 = .ok (.ifCond .lt 18, 3) := by decide +kernel
theorem dX8_faultFor_87 : decode cX8_faultFor 87 = .ok (.iload 5, 2) := by decide +kernel
theorem dX8_faultFor_89 : decode cX8_faultFor 89 = .ok (.iload_n 1, 1) := by decide +kernel
theorem dX8_faultFor_90 : decode cX8_faultFor 90 = .ok (.if_icmp .ge 12, 3) := by decide +kernel
theorem dX8_faultFor_93 : decode cX8_faultFor 93 = .ok (.iload_n 2, 1) := by decide +kernel
theorem dX8_faultFor_94 : decode cX8_faultFor 94 = .ok (.iload 5, 2) := by decide +kernel
theorem dX8_faultFor_96 : decode cX8_faultFor 96 = .ok (.ishr, 1) := by decide +kernel
theorem dX8_faultFor_97 : decode cX8_faultFor 97 = .ok (.iconst 1, 1) := by decide +kernel
theorem dX8_faultFor_98 : decode cX8_faultFor 98 = .ok (.iand, 1) := by decide +kernel
theorem dX8_faultFor_99 : decode cX8_faultFor 99 = .ok (.ifCond .eq 5, 3) := by decide +kernel
theorem dX8_faultFor_102 : decode cX8_faultFor 102 = .ok (.iload_n 3, 1) := by decide +kernel
theorem dX8_faultFor_103 : decode cX8_faultFor 103 = .ok (.ireturn, 1) := by decide +kernel
theorem dX8_faultFor_104 : decode cX8_faultFor 104 = .ok (.iload_n 2, 1) := by decide +kernel
theorem dX8_faultFor_105 : decode cX8_faultFor 105 = .ok (.iconst 1, 1) := by decide +kernel
theorem dX8_faultFor_106 : decode cX8_faultFor 106 = .ok (.iload 5, 2) := by decide +kernel
theorem dX8_faultFor_108 : decode cX8_faultFor 108 = .ok (.ishl, 1) := by decide +kernel
theorem dX8_faultFor_109 : decode cX8_faultFor 109 = .ok (.ior, 1) := by decide +kernel
theorem dX8_faultFor_110 : decode cX8_faultFor 110 = .ok (.istore_n 2, 1) := by decide +kernel
theorem dX8_faultFor_111 : decode cX8_faultFor 111 = .ok (.iinc 3 1, 3) := by decide +kernel
theorem dX8_faultFor_114 : decode cX8_faultFor 114 = .ok (.goto (-110), 3) := by decide +kernel
theorem dX8_faultFor_117 : decode cX8_faultFor 117 = .ok (.aload_n 0, 1) := by decide +kernel
theorem dX8_faultFor_118 : decode cX8_faultFor 118 = .ok (.getfield 15, 3) := by decide +kernel
theorem dX8_faultFor_121 : decode cX8_faultFor 121 = .ok (.iconst 4, 1) := by decide +kernel
theorem dX8_faultFor_122 : decode cX8_faultFor 122 = .ok (.irem, 1) := by decide +kernel
theorem dX8_faultFor_123 : decode cX8_faultFor 123 = .ok (.iconst 3, 1) := by decide +kernel
theorem dX8_faultFor_124 : decode cX8_faultFor 124 = .ok (.if_icmp .ne 7, 3) := by decide +kernel
theorem dX8_faultFor_127 : decode cX8_faultFor 127 = .ok (.iconst (-1), 1) := by decide +kernel
theorem dX8_faultFor_128 : decode cX8_faultFor 128 = .ok (.goto 7, 3) := by decide +kernel
theorem dX8_faultFor_131 : decode cX8_faultFor 131 = .ok (.aload_n 0, 1) := by decide +kernel
theorem dX8_faultFor_132 : decode cX8_faultFor 132 = .ok (.getfield 15, 3) := by decide +kernel
theorem dX8_faultFor_135 : decode cX8_faultFor 135 = .ok (.ireturn, 1) := by decide +kernel
theorem dX8_layOn_0 : decode cX8_layOn 0 = .ok (.iconst 0, 1) := by decide +kernel
theorem dX8_layOn_1 : decode cX8_layOn 1 = .ok (.istore_n 2, 1) := by decide +kernel
theorem dX8_layOn_2 : decode cX8_layOn 2 = .ok (.iload_n 2, 1) := by decide +kernel
theorem dX8_layOn_3 : decode cX8_layOn 3 = .ok (.iconst 2, 1) := by decide +kernel
theorem dX8_layOn_4 : decode cX8_layOn 4 = .ok (.iadd, 1) := by decide +kernel
theorem dX8_layOn_5 : decode cX8_layOn 5 = .ok (.aload_n 0, 1) := by decide +kernel
theorem dX8_layOn_6 : decode cX8_layOn 6 = .ok (.getfield 15, 3) := by decide +kernel
theorem dX8_layOn_9 : decode cX8_layOn 9 = .ok (.if_icmp .ge 33, 3) := by decide +kernel
theorem dX8_layOn_12 : decode cX8_layOn 12 = .ok (.aload_n 1, 1) := by decide +kernel
theorem dX8_layOn_13 : decode cX8_layOn 13 = .ok (.aload_n 0, 1) := by decide +kernel
theorem dX8_layOn_14 : decode cX8_layOn 14 = .ok (.getfield 9, 3) := by decide +kernel
theorem dX8_layOn_17 : decode cX8_layOn 17 = .ok (.iload_n 2, 1) := by decide +kernel
theorem dX8_layOn_18 : decode cX8_layOn 18 = .ok (.caload, 1) := by decide +kernel
theorem dX8_layOn_19 : decode cX8_layOn 19 = .ok (.bipush 48, 2) := by decide +kernel
theorem dX8_layOn_21 : decode cX8_layOn 21 = .ok (.isub, 1) := by decide +kernel
theorem dX8_layOn_22 : decode cX8_layOn 22 = .ok (.aload_n 0, 1) := by decide +kernel
theorem dX8_layOn_23 : decode cX8_layOn 23 = .ok (.getfield 9, 3) := by decide +kernel
theorem dX8_layOn_26 : decode cX8_layOn 26 = .ok (.iload_n 2, 1) := by decide +kernel
theorem dX8_layOn_27 : decode cX8_layOn 27 = .ok (.iconst 2, 1) := by decide +kernel
theorem dX8_layOn_28 : decode cX8_layOn 28 = .ok (.iadd, 1) := by decide +kernel
theorem dX8_layOn_29 : decode cX8_layOn 29 = .ok (.caload, 1) := by decide +kernel
theorem dX8_layOn_30 : decode cX8_layOn 30 = .ok (.bipush 48, 2) := by decide +kernel
theorem dX8_layOn_32 : decode cX8_layOn 32 = .ok (.isub, 1) := by decide +kernel
theorem dX8_layOn_33 : decode cX8_layOn 33 = .ok (.invokevirtual 21, 3) := by decide +kernel
theorem dX8_layOn_36 : decode cX8_layOn 36 = .ok (.iinc 2 4, 3) := by decide +kernel
theorem dX8_layOn_39 : decode cX8_layOn 39 = .ok (.goto (-37), 3) := by decide +kernel
theorem dX8_layOn_42 : decode cX8_layOn 42 = .ok (.return_, 1) := by decide +kernel
theorem dX9_init_0 : decode cX9_init 0 = .ok (.aload_n 0, 1) := by decide +kernel
theorem dX9_init_1 : decode cX9_init 1 = .ok (.invokespecial 3, 3) := by decide +kernel
theorem dX9_init_4 : decode cX9_init 4 = .ok (.aload_n 0, 1) := by decide +kernel
theorem dX9_init_5 : decode cX9_init 5 = .ok (.iconst 2, 1) := by decide +kernel
theorem dX9_init_6 : decode cX9_init 6 = .ok (.putfield 9, 3) := by decide +kernel
theorem dX9_init_9 : decode cX9_init 9 = .ok (.aload_n 0, 1) := by decide +kernel
theorem dX9_init_10 : decode cX9_init 10 = .ok (.iconst 0, 1) := by decide +kernel
theorem dX9_init_11 : decode cX9_init 11 = .ok (.putfield 15, 3) := by decide +kernel
theorem dX9_init_14 : decode cX9_init 14 = .ok (.aload_n 0, 1) := by decide +kernel
theorem dX9_init_15 : decode cX9_init 15 = .ok (.bipush 24, 2) := by decide +kernel
theorem dX9_init_17 : decode cX9_init 17 = .ok (.newarray .int, 2) := by decide +kernel
theorem dX9_init_19 : decode cX9_init 19 = .ok (.putfield 18, 3) := by decide +kernel
theorem dX9_init_22 : decode cX9_init 22 = .ok (.aload_n 0, 1) := by decide +kernel
theorem dX9_init_23 : decode cX9_init 23 = .ok (.bipush 24, 2) := by decide +kernel
theorem dX9_init_25 : decode cX9_init 25 = .ok (.newarray .int, 2) := by decide +kernel
theorem dX9_init_27 : decode cX9_init 27 = .ok (.putfield 22, 3) := by decide +kernel
theorem dX9_init_30 : decode cX9_init 30 = .ok (.aload_n 0, 1) := by decide +kernel
theorem dX9_init_31 : decode cX9_init 31 = .ok (.bipush 24, 2) := by decide +kernel
theorem dX9_init_33 : decode cX9_init 33 = .ok (.newarray .int, 2) := by decide +kernel
theorem dX9_init_35 : decode cX9_init 35 = .ok (.putfield 25, 3) := by decide +kernel
theorem dX9_init_38 : decode cX9_init 38 = .ok (.aload_n 0, 1) := by decide +kernel
theorem dX9_init_39 : decode cX9_init 39 = .ok (.bipush 6, 2) := by decide +kernel
theorem dX9_init_41 : decode cX9_init 41 = .ok (.newarray .int, 2) := by decide +kernel
theorem dX9_init_43 : decode cX9_init 43 = .ok (.putfield 28, 3) := by decide +kernel
theorem dX9_init_46 : decode cX9_init 46 = .ok (.return_, 1) := by decide +kernel
theorem dX9_begin_0 : decode cX9_begin 0 = .ok (.aload_n 0, 1) := by decide +kernel
theorem dX9_begin_1 : decode cX9_begin 1 = .ok (.iload_n 1, 1) := by decide +kernel
theorem dX9_begin_2 : decode cX9_begin 2 = .ok (.putfield 9, 3) := by decide +kernel
theorem dX9_begin_5 : decode cX9_begin 5 = .ok (.aload_n 0, 1) := by decide +kernel
theorem dX9_begin_6 : decode cX9_begin 6 = .ok (.iconst 0, 1) := by decide +kernel
theorem dX9_begin_7 : decode cX9_begin 7 = .ok (.putfield 15, 3) := by decide +kernel
theorem dX9_begin_10 : decode cX9_begin 10 = .ok (.return_, 1) := by decide +kernel
theorem dX9_append_0 : decode cX9_append 0 = .ok (.aload_n 0, 1) := by decide +kernel
theorem dX9_append_1 : decode cX9_append 1 = .ok (.getfield 15, 3) := by decide +kernel
theorem dX9_append_4 : decode cX9_append 4 = .ok (.bipush 24, 2) := by decide +kernel
theorem dX9_append_6 : decode cX9_append 6 = .ok (.if_icmp .ge 33, 3) := by decide +kernel
theorem dX9_append_9 : decode cX9_append 9 = .ok (.aload_n 0, 1) := by decide +kernel
theorem dX9_append_10 : decode cX9_append 10 = .ok (.getfield 18, 3) := by decide +kernel
theorem dX9_append_13 : decode cX9_append 13 = .ok (.aload_n 0, 1) := by decide +kernel
theorem dX9_append_14 : decode cX9_append 14 = .ok (.getfield 15, 3) := by decide +kernel
theorem dX9_append_17 : decode cX9_append 17 = .ok (.iload_n 1, 1) := by decide +kernel
theorem dX9_append_18 : decode cX9_append 18 = .ok (.iastore, 1) := by decide +kernel
theorem dX9_append_19 : decode cX9_append 19 = .ok (.aload_n 0, 1) := by decide +kernel
theorem dX9_append_20 : decode cX9_append 20 = .ok (.getfield 22, 3) := by decide +kernel
theorem dX9_append_23 : decode cX9_append 23 = .ok (.aload_n 0, 1) := by decide +kernel
theorem dX9_append_24 : decode cX9_append 24 = .ok (.getfield 15, 3) := by decide +kernel
theorem dX9_append_27 : decode cX9_append 27 = .ok (.iload_n 2, 1) := by decide +kernel
theorem dX9_append_28 : decode cX9_append 28 = .ok (.iastore, 1) := by decide +kernel
theorem dX9_append_29 : decode cX9_append 29 = .ok (.aload_n 0, 1) := by decide +kernel
theorem dX9_append_30 : decode cX9_append 30 = .ok (.dup, 1) := by decide +kernel
theorem dX9_append_31 : decode cX9_append 31 = .ok (.getfield 15, 3) := by decide +kernel
theorem dX9_append_34 : decode cX9_append 34 = .ok (.iconst 1, 1) := by decide +kernel
theorem dX9_append_35 : decode cX9_append 35 = .ok (.iadd, 1) := by decide +kernel
theorem dX9_append_36 : decode cX9_append 36 = .ok (.putfield 15, 3) := by decide +kernel
theorem dX9_append_39 : decode cX9_append 39 = .ok (.return_, 1) := by decide +kernel
theorem dX9_dropLast_0 : decode cX9_dropLast 0 = .ok (.aload_n 0, 1) := by decide +kernel
theorem dX9_dropLast_1 : decode cX9_dropLast 1 = .ok (.dup, 1) := by decide +kernel
theorem dX9_dropLast_2 : decode cX9_dropLast 2 = .ok (.getfield 15, 3) := by decide +kernel
theorem dX9_dropLast_5 : decode cX9_dropLast 5 = .ok (.iconst 1, 1) := by decide +kernel
theorem dX9_dropLast_6 : decode cX9_dropLast 6 = .ok (.isub, 1) := by decide +kernel
theorem dX9_dropLast_7 : decode cX9_dropLast 7 = .ok (.putfield 15, 3) := by decide +kernel
theorem dX9_dropLast_10 : decode cX9_dropLast 10 = .ok (.return_, 1) := by decide +kernel
theorem dX9_layBubble_0 : decode cX9_layBubble 0 = .ok (.aload_n 0, 1) := by decide +kernel
theorem dX9_layBubble_1 : decode cX9_layBubble 1 = .ok (.getfield 9, 3) := by decide +kernel
theorem dX9_layBubble_4 : decode cX9_layBubble 4 = .ok (.iconst 1, 1) := by decide +kernel
theorem dX9_layBubble_5 : decode cX9_layBubble 5 = .ok (.isub, 1) := by decide +kernel
theorem dX9_layBubble_6 : decode cX9_layBubble 6 = .ok (.istore_n 1, 1) := by decide +kernel
theorem dX9_layBubble_7 : decode cX9_layBubble 7 = .ok (.iload_n 1, 1) := by decide +kernel
theorem dX9_layBubble_8 : decode cX9_layBubble 8 = .ok (.iconst 1, 1) := by decide +kernel
theorem dX9_layBubble_9 : decode cX9_layBubble 9 = .ok (.if_icmp .lt 30, 3) := by decide +kernel
theorem dX9_layBubble_12 : decode cX9_layBubble 12 = .ok (.iconst 0, 1) := by decide +kernel
theorem dX9_layBubble_13 : decode cX9_layBubble 13 = .ok (.istore_n 2, 1) := by decide +kernel
theorem dX9_layBubble_14 : decode cX9_layBubble 14 = .ok (.iload_n 2, 1) := by decide +kernel
theorem dX9_layBubble_15 : decode cX9_layBubble 15 = .ok (.iload_n 1, 1) := by decide +kernel
theorem dX9_layBubble_16 : decode cX9_layBubble 16 = .ok (.if_icmp .ge 17, 3) := by decide +kernel
theorem dX9_layBubble_19 : decode cX9_layBubble 19 = .ok (.aload_n 0, 1) := by decide +kernel
theorem dX9_layBubble_20 : decode cX9_layBubble 20 = .ok (.iload_n 2, 1) := by decide +kernel
theorem dX9_layBubble_21 : decode cX9_layBubble 21 = .ok (.iload_n 2, 1) := by decide +kernel
theorem dX9_layBubble_22 : decode cX9_layBubble 22 = .ok (.iconst 1, 1) := by decide +kernel
theorem dX9_layBubble_23 : decode cX9_layBubble 23 = .ok (.iadd, 1) := by decide +kernel
theorem dX9_layBubble_24 : decode cX9_layBubble 24 = .ok (.invokevirtual 31, 3) := by decide +kernel
theorem dX9_layBubble_27 : decode cX9_layBubble 27 = .ok (.iinc 2 1, 3) := by decide +kernel
theorem dX9_layBubble_30 : decode cX9_layBubble 30 = .ok (.goto (-16), 3) := by decide +kernel
theorem dX9_layBubble_33 : decode cX9_layBubble 33 = .ok (.iinc 1 (-1), 3) := by decide +kernel
theorem dX9_layBubble_36 : decode cX9_layBubble 36 = .ok (.goto (-29), 3) := by decide +kernel
theorem dX9_layBubble_39 : decode cX9_layBubble 39 = .ok (.return_, 1) := by decide +kernel
theorem dX9_layBrick_0 : decode cX9_layBrick 0 = .ok (.iconst 0, 1) := by decide +kernel
theorem dX9_layBrick_1 : decode cX9_layBrick 1 = .ok (.istore_n 1, 1) := by decide +kernel
theorem dX9_layBrick_2 : decode cX9_layBrick 2 = .ok (.iload_n 1, 1) := by decide +kernel
theorem dX9_layBrick_3 : decode cX9_layBrick 3 = .ok (.aload_n 0, 1) := by decide +kernel
theorem dX9_layBrick_4 : decode cX9_layBrick 4 = .ok (.getfield 9, 3) := by decide +kernel
theorem dX9_layBrick_7 : decode cX9_layBrick 7 = .ok (.if_icmp .ge 37, 3) := by decide +kernel
theorem dX9_layBrick_10 : decode cX9_layBrick 10 = .ok (.iload_n 1, 1) := by decide +kernel
theorem dX9_layBrick_11 : decode cX9_layBrick 11 = .ok (.iconst 2, 1) := by decide +kernel
theorem dX9_layBrick_12 : decode cX9_layBrick 12 = .ok (.irem, 1) := by decide +kernel
theorem dX9_layBrick_13 : decode cX9_layBrick 13 = .ok (.istore_n 2, 1) := by decide +kernel
theorem dX9_layBrick_14 : decode cX9_layBrick 14 = .ok (.iload_n 2, 1) := by decide +kernel
theorem dX9_layBrick_15 : decode cX9_layBrick 15 = .ok (.iconst 1, 1) := by decide +kernel
theorem dX9_layBrick_16 : decode cX9_layBrick 16 = .ok (.iadd, 1) := by decide +kernel
theorem dX9_layBrick_17 : decode cX9_layBrick 17 = .ok (.aload_n 0, 1) := by decide +kernel
theorem dX9_layBrick_18 : decode cX9_layBrick 18 = .ok (.getfield 9, 3) := by decide +kernel
theorem dX9_layBrick_21 : decode cX9_layBrick 21 = .ok (.if_icmp .ge 17, 3) := by decide +kernel
theorem dX9_layBrick_24 : decode cX9_layBrick 24 = .ok (.aload_n 0, 1) := by decide +kernel
theorem dX9_layBrick_25 : decode cX9_layBrick 25 = .ok (.iload_n 2, 1) := by decide +kernel
theorem dX9_layBrick_26 : decode cX9_layBrick 26 = .ok (.iload_n 2, 1) := by decide +kernel
theorem dX9_layBrick_27 : decode cX9_layBrick 27 = .ok (.iconst 1, 1) := by decide +kernel
theorem dX9_layBrick_28 : decode cX9_layBrick 28 = .ok (.iadd, 1) := by decide +kernel
theorem dX9_layBrick_29 : decode cX9_layBrick 29 = .ok (.invokevirtual 31, 3) := by decide +kernel
theorem dX9_layBrick_32 : decode cX9_layBrick 32 = .ok (.iinc 2 2, 3) := by decide +kernel
theorem dX9_layBrick_35 : decode cX9_layBrick 35 = .ok (.goto (-21), 3) := by decide +kernel
theorem dX9_layBrick_38 : decode cX9_layBrick 38 = .ok (.iinc 1 1, 3) := by decide +kernel
theorem dX9_layBrick_41 : decode cX9_layBrick 41 = .ok (.goto (-39), 3) := by decide +kernel
theorem dX9_layBrick_44 : decode cX9_layBrick 44 = .ok (.return_, 1) := by decide +kernel
theorem dX9_layMerge_0 : decode cX9_layMerge 0 = .ok (.iconst 1, 1) := by decide +kernel
theorem dX9_layMerge_1 : decode cX9_layMerge 1 = .ok (.istore_n 1, 1) := by decide +kernel
theorem dX9_layMerge_2 : decode cX9_layMerge 2 = .ok (.iconst 2, 1) := by decide +kernel
theorem dX9_layMerge_3 : decode cX9_layMerge 3 = .ok (.iload_n 1, 1) := by decide +kernel
theorem dX9_layMerge_4 : decode cX9_layMerge 4 = .ok (.imul, 1) := by decide +kernel
theorem dX9_layMerge_5 : decode cX9_layMerge 5 = .ok (.aload_n 0, 1) := by decide +kernel
theorem dX9_layMerge_6 : decode cX9_layMerge 6 = .ok (.getfield 9, 3) := by decide +kernel
theorem dX9_layMerge_9 : decode cX9_layMerge 9 = .ok (.if_icmp .ge 10, 3) := by decide +kernel
theorem dX9_layMerge_12 : decode cX9_layMerge 12 = .ok (.iload_n 1, 1) := by decide +kernel
theorem dX9_layMerge_13 : decode cX9_layMerge 13 = .ok (.iconst 2, 1) := by decide +kernel
theorem dX9_layMerge_14 : decode cX9_layMerge 14 = .ok (.imul, 1) := by decide +kernel
theorem dX9_layMerge_15 : decode cX9_layMerge 15 = .ok (.istore_n 1, 1) := by decide +kernel
theorem dX9_layMerge_16 : decode cX9_layMerge 16 = .ok (.goto (-14), 3) := by decide +kernel
theorem dX9_layMerge_19 : decode cX9_layMerge 19 = .ok (.iload_n 1, 1) := by decide +kernel
theorem dX9_layMerge_20 : decode cX9_layMerge 20 = .ok (.istore_n 2, 1) := by decide +kernel
theorem dX9_layMerge_21 : decode cX9_layMerge 21 = .ok (.iload_n 2, 1) := by decide +kernel
theorem dX9_layMerge_22 : decode cX9_layMerge 22 = .ok (.iconst 1, 1) := by decide +kernel
theorem dX9_layMerge_23 : decode cX9_layMerge 23 = .ok (.if_icmp .lt 40, 3) := by decide +kernel
theorem dX9_layMerge_26 : decode cX9_layMerge 26 = .ok (.aload_n 0, 1) := by decide +kernel
theorem dX9_layMerge_27 : decode cX9_layMerge 27 = .ok (.iload_n 2, 1) := by decide +kernel
theorem dX9_layMerge_28 : decode cX9_layMerge 28 = .ok (.iconst 0, 1) := by decide +kernel
theorem dX9_layMerge_29 : decode cX9_layMerge 29 = .ok (.iload_n 2, 1) := by decide +kernel
theorem dX9_layMerge_30 : decode cX9_layMerge 30 = .ok (.invokevirtual 35, 3) := by decide +kernel
theorem dX9_layMerge_33 : decode cX9_layMerge 33 = .ok (.iload_n 1, 1) := by decide +kernel
theorem dX9_layMerge_34 : decode cX9_layMerge 34 = .ok (.istore_n 3, 1) := by decide +kernel
theorem dX9_layMerge_35 : decode cX9_layMerge 35 = .ok (.iload_n 3, 1) := by decide +kernel
theorem dX9_layMerge_36 : decode cX9_layMerge 36 = .ok (.iload_n 2, 1) := by decide +kernel
theorem dX9_layMerge_37 : decode cX9_layMerge 37 = .ok (.if_icmp .le 19, 3) := by decide +kernel
theorem dX9_layMerge_40 : decode cX9_layMerge 40 = .ok (.aload_n 0, 1) := by decide +kernel
theorem dX9_layMerge_41 : decode cX9_layMerge 41 = .ok (.iload_n 2, 1) := by decide +kernel
theorem dX9_layMerge_42 : decode cX9_layMerge 42 = .ok (.iload_n 2, 1) := by decide +kernel
theorem dX9_layMerge_43 : decode cX9_layMerge 43 = .ok (.iload_n 3, 1) := by decide +kernel
theorem dX9_layMerge_44 : decode cX9_layMerge 44 = .ok (.iload_n 2, 1) := by decide +kernel
theorem dX9_layMerge_45 : decode cX9_layMerge 45 = .ok (.isub, 1) := by decide +kernel
theorem dX9_layMerge_46 : decode cX9_layMerge 46 = .ok (.invokevirtual 35, 3) := by decide +kernel
theorem dX9_layMerge_49 : decode cX9_layMerge 49 = .ok (.iload_n 3, 1) := by decide +kernel
theorem dX9_layMerge_50 : decode cX9_layMerge 50 = .ok (.iconst 2, 1) := by decide +kernel
theorem dX9_layMerge_51 : decode cX9_layMerge 51 = .ok (.idiv, 1) := by decide +kernel
theorem dX9_layMerge_52 : decode cX9_layMerge 52 = .ok (.istore_n 3, 1) := by decide +kernel
theorem dX9_layMerge_53 : decode cX9_layMerge 53 = .ok (.goto (-18), 3) := by decide +kernel
theorem dX9_layMerge_56 : decode cX9_layMerge 56 = .ok (.iload_n 2, 1) := by decide +kernel
theorem dX9_layMerge_57 : decode cX9_layMerge 57 = .ok (.iconst 2, 1) := by decide +kernel
theorem dX9_layMerge_58 : decode cX9_layMerge 58 = .ok (.idiv, 1) := by decide +kernel
theorem dX9_layMerge_59 : decode cX9_layMerge 59 = .ok (.istore_n 2, 1) := by decide +kernel
theorem dX9_layMerge_60 : decode cX9_layMerge 60 = .ok (.goto (-39), 3) := by decide +kernel
theorem dX9_layMerge_63 : decode cX9_layMerge 63 = .ok (.return_, 1) := by decide +kernel
theorem dX9_layAcross_0 : decode cX9_layAcross 0 = .ok (.iconst 0, 1) := by decide +kernel
theorem dX9_layAcross_1 : decode cX9_layAcross 1 = .ok (.istore 4, 2) := by decide +kernel
theorem dX9_layAcross_3 : decode cX9_layAcross 3 = .ok (.iload 4, 2) := by decide +kernel
theorem dX9_layAcross_5 : decode cX9_layAcross 5 = .ok (.iload_n 3, 1) := by decide +kernel
theorem dX9_layAcross_6 : decode cX9_layAcross 6 = .ok (.iadd, 1) := by decide +kernel
theorem dX9_layAcross_7 : decode cX9_layAcross 7 = .ok (.aload_n 0, 1) := by decide +kernel
theorem dX9_layAcross_8 : decode cX9_layAcross 8 = .ok (.getfield 9, 3) := by decide +kernel
theorem dX9_layAcross_11 : decode cX9_layAcross 11 = .ok (.if_icmp .ge 27, 3) := by decide +kernel
theorem dX9_layAcross_14 : decode cX9_layAcross 14 = .ok (.iload 4, 2) := by decide +kernel
theorem dX9_layAcross_16 : decode cX9_layAcross 16 = .ok (.iload_n 1, 1) := by decide +kernel
theorem dX9_layAcross_17 : decode cX9_layAcross 17 = .ok (.iand, 1) := by decide +kernel
theorem dX9_layAcross_18 : decode cX9_layAcross 18 = .ok (.iload_n 2, 1) := by decide +kernel
theorem dX9_layAcross_19 : decode cX9_layAcross 19 = .ok (.if_icmp .ne 13, 3) := by decide +kernel
theorem dX9_layAcross_22 : decode cX9_layAcross 22 = .ok (.aload_n 0, 1) := by decide +kernel
theorem dX9_layAcross_23 : decode cX9_layAcross 23 = .ok (.iload 4, 2) := by decide +kernel
theorem dX9_layAcross_25 : decode cX9_layAcross 25 = .ok (.iload 4, 2) := by decide +kernel
theorem dX9_layAcross_27 : decode cX9_layAcross 27 = .ok (.iload_n 3, 1) := by decide +kernel
theorem dX9_layAcross_28 : decode cX9_layAcross 28 = .ok (.iadd, 1) := by decide +kernel
theorem dX9_layAcross_29 : decode cX9_layAcross 29 = .ok (.invokevirtual 31, 3) := by decide +kernel
theorem dX9_layAcross_32 : decode cX9_layAcross 32 = .ok (.iinc 4 1, 3) := by decide +kernel
theorem dX9_layAcross_35 : decode cX9_layAcross 35 = .ok (.goto (-32), 3) := by decide +kernel
theorem dX9_layAcross_38 : decode cX9_layAcross 38 = .ok (.return_, 1) := by decide +kernel
theorem dX9_turnUpsideDown_0 : decode cX9_turnUpsideDown 0 = .ok (.iconst 0, 1) := by decide +kernel
theorem dX9_turnUpsideDown_1 : decode cX9_turnUpsideDown 1 = .ok (.istore_n 1, 1) := by decide +kernel
theorem dX9_turnUpsideDown_2 : decode cX9_turnUpsideDown 2 = .ok (.iload_n 1, 1) := by decide +kernel
theorem dX9_turnUpsideDown_3 : decode cX9_turnUpsideDown 3 = .ok (.aload_n 0, 1) := by decide +kernel
theorem dX9_turnUpsideDown_4 : decode cX9_turnUpsideDown 4 = .ok (.getfield 15, 3) := by decide +kernel
theorem dX9_turnUpsideDown_7 : decode cX9_turnUpsideDown 7 = .ok (.if_icmp .ge 49, 3) := by decide +kernel
theorem dX9_turnUpsideDown_10 : decode cX9_turnUpsideDown 10 = .ok (.aload_n 0, 1) := by decide +kernel
theorem dX9_turnUpsideDown_11 : decode cX9_turnUpsideDown 11 = .ok (.getfield 18, 3) := by decide +kernel
theorem dX9_turnUpsideDown_14 : decode cX9_turnUpsideDown 14 = .ok (.iload_n 1, 1) := by decide +kernel
theorem dX9_turnUpsideDown_15 : decode cX9_turnUpsideDown 15 = .ok (.iaload, 1) := by decide +kernel
theorem dX9_turnUpsideDown_16 : decode cX9_turnUpsideDown 16 = .ok (.istore_n 2, 1) := by decide +kernel
theorem dX9_turnUpsideDown_17 : decode cX9_turnUpsideDown 17 = .ok (.aload_n 0, 1) := by decide +kernel
theorem dX9_turnUpsideDown_18 : decode cX9_turnUpsideDown 18 = .ok (.getfield 18, 3) := by decide +kernel
theorem dX9_turnUpsideDown_21 : decode cX9_turnUpsideDown 21 = .ok (.iload_n 1, 1) := by decide +kernel
theorem dX9_turnUpsideDown_22 : decode cX9_turnUpsideDown 22 = .ok (.aload_n 0, 1) := by decide +kernel
theorem dX9_turnUpsideDown_23 : decode cX9_turnUpsideDown 23 = .ok (.getfield 9, 3) := by decide +kernel
theorem dX9_turnUpsideDown_26 : decode cX9_turnUpsideDown 26 = .ok (.iconst 1, 1) := by decide +kernel
theorem dX9_turnUpsideDown_27 : decode cX9_turnUpsideDown 27 = .ok (.isub, 1) := by decide +kernel
theorem dX9_turnUpsideDown_28 : decode cX9_turnUpsideDown 28 = .ok (.aload_n 0, 1) := by decide +kernel
theorem dX9_turnUpsideDown_29 : decode cX9_turnUpsideDown 29 = .ok (.getfield 22, 3) := by decide +kernel
theorem dX9_turnUpsideDown_32 : decode cX9_turnUpsideDown 32 = .ok (.iload_n 1, 1) := by decide +kernel
theorem dX9_turnUpsideDown_33 : decode cX9_turnUpsideDown 33 = .ok (.iaload, 1) := by decide +kernel
theorem dX9_turnUpsideDown_34 : decode cX9_turnUpsideDown 34 = .ok (.isub, 1) := by decide +kernel
theorem dX9_turnUpsideDown_35 : decode cX9_turnUpsideDown 35 = .ok (.iastore, 1) := by decide +kernel
theorem dX9_turnUpsideDown_36 : decode cX9_turnUpsideDown 36 = .ok (.aload_n 0, 1) := by decide +kernel
theorem dX9_turnUpsideDown_37 : decode cX9_turnUpsideDown 37 = .ok (.getfield 22, 3) := by decide +kernel
theorem dX9_turnUpsideDown_40 : decode cX9_turnUpsideDown 40 = .ok (.iload_n 1, 1) := by decide +kernel
theorem dX9_turnUpsideDown_41 : decode cX9_turnUpsideDown 41 = .ok (.aload_n 0, 1) := by decide +kernel
theorem dX9_turnUpsideDown_42 : decode cX9_turnUpsideDown 42 = .ok (.getfield 9, 3) := by decide +kernel
theorem dX9_turnUpsideDown_45 : decode cX9_turnUpsideDown 45 = .ok (.iconst 1, 1) := by decide +kernel
theorem dX9_turnUpsideDown_46 : decode cX9_turnUpsideDown 46 = .ok (.isub, 1) := by decide +kernel
theorem dX9_turnUpsideDown_47 : decode cX9_turnUpsideDown 47 = .ok (.iload_n 2, 1) := by decide +kernel
theorem dX9_turnUpsideDown_48 : decode cX9_turnUpsideDown 48 = .ok (.isub, 1) := by decide +kernel
theorem dX9_turnUpsideDown_49 : decode cX9_turnUpsideDown 49 = .ok (.iastore, 1) := by decide +kernel
theorem dX9_turnUpsideDown_50 : decode cX9_turnUpsideDown 50 = .ok (.iinc 1 1, 3) := by decide +kernel
theorem dX9_turnUpsideDown_53 : decode cX9_turnUpsideDown 53 = .ok (.goto (-51), 3) := by decide +kernel
theorem dX9_turnUpsideDown_56 : decode cX9_turnUpsideDown 56 = .ok (.return_, 1) := by decide +kernel
theorem dX9_straighten_0 : decode cX9_straighten 0 = .ok (.iconst 0, 1) := by decide +kernel
theorem dX9_straighten_1 : decode cX9_straighten 1 = .ok (.istore_n 1, 1) := by decide +kernel
theorem dX9_straighten_2 : decode cX9_straighten 2 = .ok (.iconst 0, 1) := by decide +kernel
theorem dX9_straighten_3 : decode cX9_straighten 3 = .ok (.istore_n 2, 1) := by decide +kernel
theorem dX9_straighten_4 : decode cX9_straighten 4 = .ok (.iload_n 2, 1) := by decide +kernel
theorem dX9_straighten_5 : decode cX9_straighten 5 = .ok (.aload_n 0, 1) := by decide +kernel
theorem dX9_straighten_6 : decode cX9_straighten 6 = .ok (.getfield 15, 3) := by decide +kernel
theorem dX9_straighten_9 : decode cX9_straighten 9 = .ok (.if_icmp .ge 37, 3) := by decide +kernel
theorem dX9_straighten_12 : decode cX9_straighten 12 = .ok (.aload_n 0, 1) := by decide +kernel
theorem dX9_straighten_13 : decode cX9_straighten 13 = .ok (.iload_n 2, 1) := by decide +kernel
theorem dX9_straighten_14 : decode cX9_straighten 14 = .ok (.invokevirtual 39, 3) := by decide +kernel
theorem dX9_straighten_17 : decode cX9_straighten 17 = .ok (.ifCond .eq 23, 3) := by decide +kernel
theorem dX9_straighten_20 : decode cX9_straighten 20 = .ok (.aload_n 0, 1) := by decide +kernel
theorem dX9_straighten_21 : decode cX9_straighten 21 = .ok (.aload_n 0, 1) := by decide +kernel
theorem dX9_straighten_22 : decode cX9_straighten 22 = .ok (.getfield 18, 3) := by decide +kernel
theorem dX9_straighten_25 : decode cX9_straighten 25 = .ok (.iload_n 2, 1) := by decide +kernel
theorem dX9_straighten_26 : decode cX9_straighten 26 = .ok (.iaload, 1) := by decide +kernel
theorem dX9_straighten_27 : decode cX9_straighten 27 = .ok (.aload_n 0, 1) := by decide +kernel
theorem dX9_straighten_28 : decode cX9_straighten 28 = .ok (.getfield 22, 3) := by decide +kernel
theorem dX9_straighten_31 : decode cX9_straighten 31 = .ok (.iload_n 2, 1) := by decide +kernel
theorem dX9_straighten_32 : decode cX9_straighten 32 = .ok (.iaload, 1) := by decide +kernel
theorem dX9_straighten_33 : decode cX9_straighten 33 = .ok (.iload_n 2, 1) := by decide +kernel
theorem dX9_straighten_34 : decode cX9_straighten 34 = .ok (.invokevirtual 43, 3) := by decide +kernel
theorem dX9_straighten_37 : decode cX9_straighten 37 = .ok (.iinc 1 1, 3) := by decide +kernel
theorem dX9_straighten_40 : decode cX9_straighten 40 = .ok (.iinc 2 1, 3) := by decide +kernel
theorem dX9_straighten_43 : decode cX9_straighten 43 = .ok (.goto (-39), 3) := by decide +kernel
theorem dX9_straighten_46 : decode cX9_straighten 46 = .ok (.iload_n 1, 1) := by decide +kernel
theorem dX9_straighten_47 : decode cX9_straighten 47 = .ok (.ireturn, 1) := by decide +kernel
theorem dX9_changeNames_0 : decode cX9_changeNames 0 = .ok (.iload_n 3, 1) := by decide +kernel
theorem dX9_changeNames_1 : decode cX9_changeNames 1 = .ok (.istore 4, 2) := by decide +kernel
theorem dX9_changeNames_3 : decode cX9_changeNames 3 = .ok (.iload 4, 2) := by decide +kernel
theorem dX9_changeNames_5 : decode cX9_changeNames 5 = .ok (.aload_n 0, 1) := by decide +kernel
theorem dX9_changeNames_6 : decode cX9_changeNames 6 = .ok (.getfield 15, 3) := by decide +kernel
theorem dX9_changeNames_9 : decode cX9_changeNames 9 = .ok (.if_icmp .ge 47, 3) := by decide +kernel
theorem dX9_changeNames_12 : decode cX9_changeNames 12 = .ok (.aload_n 0, 1) := by decide +kernel
theorem dX9_changeNames_13 : decode cX9_changeNames 13 = .ok (.getfield 18, 3) := by decide +kernel
theorem dX9_changeNames_16 : decode cX9_changeNames 16 = .ok (.iload 4, 2) := by decide +kernel
theorem dX9_changeNames_18 : decode cX9_changeNames 18 = .ok (.aload_n 0, 1) := by decide +kernel
theorem dX9_changeNames_19 : decode cX9_changeNames 19 = .ok (.getfield 18, 3) := by decide +kernel
theorem dX9_changeNames_22 : decode cX9_changeNames 22 = .ok (.iload 4, 2) := by decide +kernel
theorem dX9_changeNames_24 : decode cX9_changeNames 24 = .ok (.iaload, 1) := by decide +kernel
theorem dX9_changeNames_25 : decode cX9_changeNames 25 = .ok (.iload_n 1, 1) := by decide +kernel
theorem dX9_changeNames_26 : decode cX9_changeNames 26 = .ok (.iload_n 2, 1) := by decide +kernel
theorem dX9_changeNames_27 : decode cX9_changeNames 27 = .ok (.invokestatic 46, 3) := by decide +kernel
theorem dX9_changeNames_30 : decode cX9_changeNames 30 = .ok (.iastore, 1) := by decide +kernel
theorem dX9_changeNames_31 : decode cX9_changeNames 31 = .ok (.aload_n 0, 1) := by decide +kernel
theorem dX9_changeNames_32 : decode cX9_changeNames 32 = .ok (.getfield 22, 3) := by decide +kernel
theorem dX9_changeNames_35 : decode cX9_changeNames 35 = .ok (.iload 4, 2) := by decide +kernel
theorem dX9_changeNames_37 : decode cX9_changeNames 37 = .ok (.aload_n 0, 1) := by decide +kernel
theorem dX9_changeNames_38 : decode cX9_changeNames 38 = .ok (.getfield 22, 3) := by decide +kernel
theorem dX9_changeNames_41 : decode cX9_changeNames 41 = .ok (.iload 4, 2) := by decide +kernel
theorem dX9_changeNames_43 : decode cX9_changeNames 43 = .ok (.iaload, 1) := by decide +kernel
theorem dX9_changeNames_44 : decode cX9_changeNames 44 = .ok (.iload_n 1, 1) := by decide +kernel
theorem dX9_changeNames_45 : decode cX9_changeNames 45 = .ok (.iload_n 2, 1) := by decide +kernel
theorem dX9_changeNames_46 : decode cX9_changeNames 46 = .ok (.invokestatic 46, 3) := by decide +kernel
theorem dX9_changeNames_49 : decode cX9_changeNames 49 = .ok (.iastore, 1) := by decide +kernel
theorem dX9_changeNames_50 : decode cX9_changeNames 50 = .ok (.iinc 4 1, 3) := by decide +kernel
theorem dX9_changeNames_53 : decode cX9_changeNames 53 = .ok (.goto (-50), 3) := by decide +kernel
theorem dX9_changeNames_56 : decode cX9_changeNames 56 = .ok (.return_, 1) := by decide +kernel
theorem dX9_renamed_0 : decode cX9_renamed 0 = .ok (.iload_n 0, 1) := by decide +kernel
theorem dX9_renamed_1 : decode cX9_renamed 1 = .ok (.iload_n 1, 1) := by decide +kernel
theorem dX9_renamed_2 : decode cX9_renamed 2 = .ok (.if_icmp .ne 5, 3) := by decide +kernel
theorem dX9_renamed_5 : decode cX9_renamed 5 = .ok (.iload_n 2, 1) := by decide +kernel
theorem dX9_renamed_6 : decode cX9_renamed 6 = .ok (.ireturn, 1) := by decide +kernel
theorem dX9_renamed_7 : decode cX9_renamed 7 = .ok (.iload_n 0, 1) := by decide +kernel
theorem dX9_renamed_8 : decode cX9_renamed 8 = .ok (.iload_n 2, 1) := by decide +kernel
theorem dX9_renamed_9 : decode cX9_renamed 9 = .ok (.if_icmp .ne 7, 3) := by decide +kernel
theorem dX9_renamed_12 : decode cX9_renamed 12 = .ok (.iload_n 1, 1) := by decide +kernel
theorem dX9_renamed_13 : decode cX9_renamed 13 = .ok (.goto 4, 3) := by decide +kernel
theorem dX9_renamed_16 : decode cX9_renamed 16 = .ok (.iload_n 0, 1) := by decide +kernel
theorem dX9_renamed_17 : decode cX9_renamed 17 = .ok (.ireturn, 1) := by decide +kernel
theorem dX9_isCrooked_0 : decode cX9_isCrooked 0 = .ok (.aload_n 0, 1) := by decide +kernel
theorem dX9_isCrooked_1 : decode cX9_isCrooked 1 = .ok (.getfield 18, 3) := by decide +kernel
theorem dX9_isCrooked_4 : decode cX9_isCrooked 4 = .ok (.iload_n 1, 1) := by decide +kernel
theorem dX9_isCrooked_5 : decode cX9_isCrooked 5 = .ok (.iaload, 1) := by decide +kernel
theorem dX9_isCrooked_6 : decode cX9_isCrooked 6 = .ok (.aload_n 0, 1) := by decide +kernel
theorem dX9_isCrooked_7 : decode cX9_isCrooked 7 = .ok (.getfield 22, 3) := by decide +kernel
theorem dX9_isCrooked_10 : decode cX9_isCrooked 10 = .ok (.iload_n 1, 1) := by decide +kernel
theorem dX9_isCrooked_11 : decode cX9_isCrooked 11 = .ok (.iaload, 1) := by decide +kernel
theorem dX9_isCrooked_12 : decode cX9_isCrooked 12 = .ok (.if_icmp .le 7, 3) := by decide +kernel
theorem dX9_isCrooked_15 : decode cX9_isCrooked 15 = .ok (.iconst 1, 1) := by decide +kernel
theorem dX9_isCrooked_16 : decode cX9_isCrooked 16 = .ok (.goto 4, 3) := by decide +kernel
theorem dX9_isCrooked_19 : decode cX9_isCrooked 19 = .ok (.iconst 0, 1) := by decide +kernel
theorem dX9_isCrooked_20 : decode cX9_isCrooked 20 = .ok (.ireturn, 1) := by decide +kernel
theorem dX9_crookedCount_0 : decode cX9_crookedCount 0 = .ok (.iconst 0, 1) := by decide +kernel
theorem dX9_crookedCount_1 : decode cX9_crookedCount 1 = .ok (.istore_n 1, 1) := by decide +kernel
theorem dX9_crookedCount_2 : decode cX9_crookedCount 2 = .ok (.iconst 0, 1) := by decide +kernel
theorem dX9_crookedCount_3 : decode cX9_crookedCount 3 = .ok (.istore_n 2, 1) := by decide +kernel
theorem dX9_crookedCount_4 : decode cX9_crookedCount 4 = .ok (.iload_n 2, 1) := by decide +kernel
theorem dX9_crookedCount_5 : decode cX9_crookedCount 5 = .ok (.aload_n 0, 1) := by decide +kernel
theorem dX9_crookedCount_6 : decode cX9_crookedCount 6 = .ok (.getfield 15, 3) := by decide +kernel
theorem dX9_crookedCount_9 : decode cX9_crookedCount 9 = .ok (.if_icmp .ge 20, 3) := by decide +kernel
theorem dX9_crookedCount_12 : decode cX9_crookedCount 12 = .ok (.aload_n 0, 1) := by decide +kernel
theorem dX9_crookedCount_13 : decode cX9_crookedCount 13 = .ok (.iload_n 2, 1) := by decide +kernel
theorem dX9_crookedCount_14 : decode cX9_crookedCount 14 = .ok (.invokevirtual 39, 3) := by decide +kernel
theorem dX9_crookedCount_17 : decode cX9_crookedCount 17 = .ok (.ifCond .eq 6, 3) := by decide +kernel
theorem dX9_crookedCount_20 : decode cX9_crookedCount 20 = .ok (.iinc 1 1, 3) := by decide +kernel
theorem dX9_crookedCount_23 : decode cX9_crookedCount 23 = .ok (.iinc 2 1, 3) := by decide +kernel
theorem dX9_crookedCount_26 : decode cX9_crookedCount 26 = .ok (.goto (-22), 3) := by decide +kernel
theorem dX9_crookedCount_29 : decode cX9_crookedCount 29 = .ok (.iload_n 1, 1) := by decide +kernel
theorem dX9_crookedCount_30 : decode cX9_crookedCount 30 = .ok (.ireturn, 1) := by decide +kernel
theorem dX9_sent_0 : decode cX9_sent 0 = .ok (.iload_n 1, 1) := by decide +kernel
theorem dX9_sent_1 : decode cX9_sent 1 = .ok (.istore_n 2, 1) := by decide +kernel
theorem dX9_sent_2 : decode cX9_sent 2 = .ok (.iconst 0, 1) := by decide +kernel
theorem dX9_sent_3 : decode cX9_sent 3 = .ok (.istore_n 3, 1) := by decide +kernel
theorem dX9_sent_4 : decode cX9_sent 4 = .ok (.iload_n 3, 1) := by decide +kernel
theorem dX9_sent_5 : decode cX9_sent 5 = .ok (.aload_n 0, 1) := by decide +kernel
theorem dX9_sent_6 : decode cX9_sent 6 = .ok (.getfield 15, 3) := by decide +kernel
theorem dX9_sent_9 : decode cX9_sent 9 = .ok (.if_icmp .ge 49, 3) := by decide +kernel
theorem dX9_sent_12 : decode cX9_sent 12 = .ok (.iload_n 2, 1) := by decide +kernel
theorem dX9_sent_13 : decode cX9_sent 13 = .ok (.aload_n 0, 1) := by decide +kernel
theorem dX9_sent_14 : decode cX9_sent 14 = .ok (.getfield 18, 3) := by decide +kernel
theorem dX9_sent_17 : decode cX9_sent 17 = .ok (.iload_n 3, 1) := by decide +kernel
theorem dX9_sent_18 : decode cX9_sent 18 = .ok (.iaload, 1) := by decide +kernel
theorem dX9_sent_19 : decode cX9_sent 19 = .ok (.invokestatic 50, 3) := by decide +kernel
theorem dX9_sent_22 : decode cX9_sent 22 = .ok (.iload_n 2, 1) := by decide +kernel
theorem dX9_sent_23 : decode cX9_sent 23 = .ok (.aload_n 0, 1) := by decide +kernel
theorem dX9_sent_24 : decode cX9_sent 24 = .ok (.getfield 22, 3) := by decide +kernel
theorem dX9_sent_27 : decode cX9_sent 27 = .ok (.iload_n 3, 1) := by decide +kernel
theorem dX9_sent_28 : decode cX9_sent 28 = .ok (.iaload, 1) := by decide +kernel
theorem dX9_sent_29 : decode cX9_sent 29 = .ok (.invokestatic 50, 3) := by decide +kernel
theorem dX9_sent_32 : decode cX9_sent 32 = .ok (.if_icmp .le 20, 3) := by decide +kernel
theorem dX9_sent_35 : decode cX9_sent 35 = .ok (.iload_n 2, 1) := by decide +kernel
theorem dX9_sent_36 : decode cX9_sent 36 = .ok (.aload_n 0, 1) := by decide +kernel
theorem dX9_sent_37 : decode cX9_sent 37 = .ok (.getfield 18, 3) := by decide +kernel
theorem dX9_sent_40 : decode cX9_sent 40 = .ok (.iload_n 3, 1) := by decide +kernel
theorem dX9_sent_41 : decode cX9_sent 41 = .ok (.iaload, 1) := by decide +kernel
theorem dX9_sent_42 : decode cX9_sent 42 = .ok (.aload_n 0, 1) := by decide +kernel
theorem dX9_sent_43 : decode cX9_sent 43 = .ok (.getfield 22, 3) := by decide +kernel
theorem dX9_sent_46 : decode cX9_sent 46 = .ok (.iload_n 3, 1) := by decide +kernel
theorem dX9_sent_47 : decode cX9_sent 47 = .ok (.iaload, 1) := by decide +kernel
theorem dX9_sent_48 : decode cX9_sent 48 = .ok (.invokestatic 56, 3) := by decide +kernel
theorem dX9_sent_51 : decode cX9_sent 51 = .ok (.istore_n 2, 1) := by decide +kernel
theorem dX9_sent_52 : decode cX9_sent 52 = .ok (.iinc 3 1, 3) := by decide +kernel
theorem dX9_sent_55 : decode cX9_sent 55 = .ok (.goto (-51), 3) := by decide +kernel
theorem dX9_sent_58 : decode cX9_sent 58 = .ok (.iload_n 2, 1) := by decide +kernel
theorem dX9_sent_59 : decode cX9_sent 59 = .ok (.ireturn, 1) := by decide +kernel
theorem dX9_layerCount_0 : decode cX9_layerCount 0 = .ok (.iconst 0, 1) := by decide +kernel
theorem dX9_layerCount_1 : decode cX9_layerCount 1 = .ok (.istore_n 1, 1) := by decide +kernel
theorem dX9_layerCount_2 : decode cX9_layerCount 2 = .ok (.iconst 0, 1) := by decide +kernel
theorem dX9_layerCount_3 : decode cX9_layerCount 3 = .ok (.istore_n 2, 1) := by decide +kernel
theorem dX9_layerCount_4 : decode cX9_layerCount 4 = .ok (.iload_n 2, 1) := by decide +kernel
theorem dX9_layerCount_5 : decode cX9_layerCount 5 = .ok (.aload_n 0, 1) := by decide +kernel
theorem dX9_layerCount_6 : decode cX9_layerCount 6 = .ok (.getfield 9, 3) := by decide +kernel
theorem dX9_layerCount_9 : decode cX9_layerCount 9 = .ok (.if_icmp .ge 16, 3) := by decide +kernel
theorem dX9_layerCount_12 : decode cX9_layerCount 12 = .ok (.aload_n 0, 1) := by decide +kernel
theorem dX9_layerCount_13 : decode cX9_layerCount 13 = .ok (.getfield 28, 3) := by decide +kernel
theorem dX9_layerCount_16 : decode cX9_layerCount 16 = .ok (.iload_n 2, 1) := by decide +kernel
theorem dX9_layerCount_17 : decode cX9_layerCount 17 = .ok (.iconst 0, 1) := by decide +kernel
theorem dX9_layerCount_18 : decode cX9_layerCount 18 = .ok (.iastore, 1) := by decide +kernel
theorem dX9_layerCount_19 : decode cX9_layerCount 19 = .ok (.iinc 2 1, 3) := by decide +kernel
theorem dX9_layerCount_22 : decode cX9_layerCount 22 = .ok (.goto (-18), 3) := by decide +kernel
theorem dX9_layerCount_25 : decode cX9_layerCount 25 = .ok (.iconst 0, 1) := by decide +kernel
theorem dX9_layerCount_26 : decode cX9_layerCount 26 = .ok (.istore_n 2, 1) := by decide +kernel
theorem dX9_layerCount_27 : decode cX9_layerCount 27 = .ok (.iload_n 2, 1) := by decide +kernel
theorem dX9_layerCount_28 : decode cX9_layerCount 28 = .ok (.aload_n 0, 1) := by decide +kernel
theorem dX9_layerCount_29 : decode cX9_layerCount 29 = .ok (.getfield 15, 3) := by decide +kernel
theorem dX9_layerCount_32 : decode cX9_layerCount 32 = .ok (.if_icmp .ge 78, 3) := by decide +kernel
theorem dX9_layerCount_35 : decode cX9_layerCount 35 = .ok (.aload_n 0, 1) := by decide +kernel
theorem dX9_layerCount_36 : decode cX9_layerCount 36 = .ok (.getfield 28, 3) := by decide +kernel
theorem dX9_layerCount_39 : decode cX9_layerCount 39 = .ok (.aload_n 0, 1) := by decide +kernel
theorem dX9_layerCount_40 : decode cX9_layerCount 40 = .ok (.getfield 18, 3) := by decide +kernel
theorem dX9_layerCount_43 : decode cX9_layerCount 43 = .ok (.iload_n 2, 1) := by decide +kernel
theorem dX9_layerCount_44 : decode cX9_layerCount 44 = .ok (.iaload, 1) := by decide +kernel
theorem dX9_layerCount_45 : decode cX9_layerCount 45 = .ok (.iaload, 1) := by decide +kernel
theorem dX9_layerCount_46 : decode cX9_layerCount 46 = .ok (.aload_n 0, 1) := by decide +kernel
theorem dX9_layerCount_47 : decode cX9_layerCount 47 = .ok (.getfield 28, 3) := by decide +kernel
theorem dX9_layerCount_50 : decode cX9_layerCount 50 = .ok (.aload_n 0, 1) := by decide +kernel
theorem dX9_layerCount_51 : decode cX9_layerCount 51 = .ok (.getfield 22, 3) := by decide +kernel
theorem dX9_layerCount_54 : decode cX9_layerCount 54 = .ok (.iload_n 2, 1) := by decide +kernel
theorem dX9_layerCount_55 : decode cX9_layerCount 55 = .ok (.iaload, 1) := by decide +kernel
theorem dX9_layerCount_56 : decode cX9_layerCount 56 = .ok (.iaload, 1) := by decide +kernel
theorem dX9_layerCount_57 : decode cX9_layerCount 57 = .ok (.invokestatic 59, 3) := by decide +kernel
theorem dX9_layerCount_60 : decode cX9_layerCount 60 = .ok (.istore_n 3, 1) := by decide +kernel
theorem dX9_layerCount_61 : decode cX9_layerCount 61 = .ok (.aload_n 0, 1) := by decide +kernel
theorem dX9_layerCount_62 : decode cX9_layerCount 62 = .ok (.getfield 25, 3) := by decide +kernel
theorem dX9_layerCount_65 : decode cX9_layerCount 65 = .ok (.iload_n 2, 1) := by decide +kernel
theorem dX9_layerCount_66 : decode cX9_layerCount 66 = .ok (.iload_n 3, 1) := by decide +kernel
theorem dX9_layerCount_67 : decode cX9_layerCount 67 = .ok (.iastore, 1) := by decide +kernel
theorem dX9_layerCount_68 : decode cX9_layerCount 68 = .ok (.aload_n 0, 1) := by decide +kernel
theorem dX9_layerCount_69 : decode cX9_layerCount 69 = .ok (.getfield 28, 3) := by decide +kernel
theorem dX9_layerCount_72 : decode cX9_layerCount 72 = .ok (.aload_n 0, 1) := by decide +kernel
theorem dX9_layerCount_73 : decode cX9_layerCount 73 = .ok (.getfield 18, 3) := by decide +kernel
theorem dX9_layerCount_76 : decode cX9_layerCount 76 = .ok (.iload_n 2, 1) := by decide +kernel
theorem dX9_layerCount_77 : decode cX9_layerCount 77 = .ok (.iaload, 1) := by decide +kernel
theorem dX9_layerCount_78 : decode cX9_layerCount 78 = .ok (.iload_n 3, 1) := by decide +kernel
theorem dX9_layerCount_79 : decode cX9_layerCount 79 = .ok (.iconst 1, 1) := by decide +kernel
theorem dX9_layerCount_80 : decode cX9_layerCount 80 = .ok (.iadd, 1) := by decide +kernel
theorem dX9_layerCount_81 : decode cX9_layerCount 81 = .ok (.iastore, 1) := by decide +kernel
theorem dX9_layerCount_82 : decode cX9_layerCount 82 = .ok (.aload_n 0, 1) := by decide +kernel
theorem dX9_layerCount_83 : decode cX9_layerCount 83 = .ok (.getfield 28, 3) := by decide +kernel
theorem dX9_layerCount_86 : decode cX9_layerCount 86 = .ok (.aload_n 0, 1) := by decide +kernel
theorem dX9_layerCount_87 : decode cX9_layerCount 87 = .ok (.getfield 22, 3) := by decide +kernel
theorem dX9_layerCount_90 : decode cX9_layerCount 90 = .ok (.iload_n 2, 1) := by decide +kernel
theorem dX9_layerCount_91 : decode cX9_layerCount 91 = .ok (.iaload, 1) := by decide +kernel
theorem dX9_layerCount_92 : decode cX9_layerCount 92 = .ok (.iload_n 3, 1) := by decide +kernel
theorem dX9_layerCount_93 : decode cX9_layerCount 93 = .ok (.iconst 1, 1) := by decide +kernel
theorem dX9_layerCount_94 : decode cX9_layerCount 94 = .ok (.iadd, 1) := by decide +kernel
theorem dX9_layerCount_95 : decode cX9_layerCount 95 = .ok (.iastore, 1) := by decide +kernel
theorem dX9_layerCount_96 : decode cX9_layerCount 96 = .ok (.iload_n 1, 1) := by decide +kernel
theorem dX9_layerCount_97 : decode cX9_layerCount 97 = .ok (.iload_n 3, 1) := by decide +kernel
theorem dX9_layerCount_98 : decode cX9_layerCount 98 = .ok (.iconst 1, 1) := by decide +kernel
theorem dX9_layerCount_99 : decode cX9_layerCount 99 = .ok (.iadd, 1) := by decide +kernel
theorem dX9_layerCount_100 : decode cX9_layerCount 100 = .ok (.invokestatic 59, 3) := by decide +kernel
theorem dX9_layerCount_103 : decode cX9_layerCount 103 = .ok (.istore_n 1, 1) := by decide +kernel
theorem dX9_layerCount_104 : decode cX9_layerCount 104 = .ok (.iinc 2 1, 3) := by decide +kernel
theorem dX9_layerCount_107 : decode cX9_layerCount 107 = .ok (.goto (-80), 3) := by decide +kernel
theorem dX9_layerCount_110 : decode cX9_layerCount 110 = .ok (.iload_n 1, 1) := by decide +kernel
theorem dX9_layerCount_111 : decode cX9_layerCount 111 = .ok (.ireturn, 1) := by decide +kernel
theorem dX9_layerOf_0 : decode cX9_layerOf 0 = .ok (.aload_n 0, 1) := by decide +kernel
theorem dX9_layerOf_1 : decode cX9_layerOf 1 = .ok (.invokevirtual 64, 3) := by decide +kernel
theorem dX9_layerOf_4 : decode cX9_layerOf 4 = .ok (.pop, 1) := by decide +kernel
theorem dX9_layerOf_5 : decode cX9_layerOf 5 = .ok (.aload_n 0, 1) := by decide +kernel
theorem dX9_layerOf_6 : decode cX9_layerOf 6 = .ok (.getfield 25, 3) := by decide +kernel
theorem dX9_layerOf_9 : decode cX9_layerOf 9 = .ok (.iload_n 1, 1) := by decide +kernel
theorem dX9_layerOf_10 : decode cX9_layerOf 10 = .ok (.iaload, 1) := by decide +kernel
theorem dX9_layerOf_11 : decode cX9_layerOf 11 = .ok (.ireturn, 1) := by decide +kernel
theorem dX9_textLength_0 : decode cX9_textLength 0 = .ok (.aload_n 0, 1) := by decide +kernel
theorem dX9_textLength_1 : decode cX9_textLength 1 = .ok (.getfield 15, 3) := by decide +kernel
theorem dX9_textLength_4 : decode cX9_textLength 4 = .ok (.ifCond .ne 7, 3) := by decide +kernel
theorem dX9_textLength_7 : decode cX9_textLength 7 = .ok (.iconst 0, 1) := by decide +kernel
theorem dX9_textLength_8 : decode cX9_textLength 8 = .ok (.goto 11, 3) := by decide +kernel
theorem dX9_textLength_11 : decode cX9_textLength 11 = .ok (.iconst 4, 1) := by decide +kernel
theorem dX9_textLength_12 : decode cX9_textLength 12 = .ok (.aload_n 0, 1) := by decide +kernel
theorem dX9_textLength_13 : decode cX9_textLength 13 = .ok (.getfield 15, 3) := by decide +kernel
theorem dX9_textLength_16 : decode cX9_textLength 16 = .ok (.imul, 1) := by decide +kernel
theorem dX9_textLength_17 : decode cX9_textLength 17 = .ok (.iconst 1, 1) := by decide +kernel
theorem dX9_textLength_18 : decode cX9_textLength 18 = .ok (.isub, 1) := by decide +kernel
theorem dX9_textLength_19 : decode cX9_textLength 19 = .ok (.ireturn, 1) := by decide +kernel
theorem dX9_signAt_0 : decode cX9_signAt 0 = .ok (.iload_n 1, 1) := by decide +kernel
theorem dX9_signAt_1 : decode cX9_signAt 1 = .ok (.aload_n 0, 1) := by decide +kernel
theorem dX9_signAt_2 : decode cX9_signAt 2 = .ok (.invokevirtual 68, 3) := by decide +kernel
theorem dX9_signAt_5 : decode cX9_signAt 5 = .ok (.if_icmp .lt 6, 3) := by decide +kernel
theorem dX9_signAt_8 : decode cX9_signAt 8 = .ok (.bipush 32, 2) := by decide +kernel
theorem dX9_signAt_10 : decode cX9_signAt 10 = .ok (.ireturn, 1) := by decide +kernel
theorem dX9_signAt_11 : decode cX9_signAt 11 = .ok (.aload_n 0, 1) := by decide +kernel
theorem dX9_signAt_12 : decode cX9_signAt 12 = .ok (.invokevirtual 64, 3) := by decide +kernel
theorem dX9_signAt_15 : decode cX9_signAt 15 = .ok (.pop, 1) := by decide +kernel
theorem dX9_signAt_16 : decode cX9_signAt 16 = .ok (.aload_n 0, 1) := by decide +kernel
theorem dX9_signAt_17 : decode cX9_signAt 17 = .ok (.iload_n 1, 1) := by decide +kernel
theorem dX9_signAt_18 : decode cX9_signAt 18 = .ok (.iconst 4, 1) := by decide +kernel
theorem dX9_signAt_19 : decode cX9_signAt 19 = .ok (.idiv, 1) := by decide +kernel
theorem dX9_signAt_20 : decode cX9_signAt 20 = .ok (.invokevirtual 71, 3) := by decide +kernel
theorem dX9_signAt_23 : decode cX9_signAt 23 = .ok (.istore_n 2, 1) := by decide +kernel
theorem dX9_signAt_24 : decode cX9_signAt 24 = .ok (.iload_n 1, 1) := by decide +kernel
theorem dX9_signAt_25 : decode cX9_signAt 25 = .ok (.iconst 4, 1) := by decide +kernel
theorem dX9_signAt_26 : decode cX9_signAt 26 = .ok (.irem, 1) := by decide +kernel
theorem dX9_signAt_27 : decode cX9_signAt 27 = .ok (.tableswitch 50 0 2 #[25, 36, 39], 25) := by decide +kernel
theorem dX9_signAt_52 : decode cX9_signAt 52 = .ok (.bipush 48, 2) := by decide +kernel
theorem dX9_signAt_54 : decode cX9_signAt 54 = .ok (.aload_n 0, 1) := by decide +kernel
theorem dX9_signAt_55 : decode cX9_signAt 55 = .ok (.getfield 18, 3) := by decide +kernel
theorem dX9_signAt_58 : decode cX9_signAt 58 = .ok (.iload_n 2, 1) := by decide +kernel
theorem dX9_signAt_59 : decode cX9_signAt 59 = .ok (.iaload, 1) := by decide +kernel
theorem dX9_signAt_60 : decode cX9_signAt 60 = .ok (.iadd, 1) := by decide +kernel
theorem dX9_signAt_61 : decode cX9_signAt 61 = .ok (.i2c, 1) := by decide +kernel
theorem dX9_signAt_62 : decode cX9_signAt 62 = .ok (.ireturn, 1) := by decide +kernel
theorem dX9_signAt_63 : decode cX9_signAt 63 = .ok (.bipush 58, 2) := by decide +kernel
theorem dX9_signAt_65 : decode cX9_signAt 65 = .ok (.ireturn, 1) := by decide +kernel
theorem dX9_signAt_66 : decode cX9_signAt 66 = .ok (.bipush 48, 2) := by decide +kernel
theorem dX9_signAt_68 : decode cX9_signAt 68 = .ok (.aload_n 0, 1) := by decide +kernel
theorem dX9_signAt_69 : decode cX9_signAt 69 = .ok (.getfield 22, 3) := by decide +kernel
theorem dX9_signAt_72 : decode cX9_signAt 72 = .ok (.iload_n 2, 1) := by decide +kernel
theorem dX9_signAt_73 : decode cX9_signAt 73 = .ok (.iaload, 1) := by decide +kernel
theorem dX9_signAt_74 : decode cX9_signAt 74 = .ok (.iadd, 1) := by decide +kernel
theorem dX9_signAt_75 : decode cX9_signAt 75 = .ok (.i2c, 1) := by decide +kernel
theorem dX9_signAt_76 : decode cX9_signAt 76 = .ok (.ireturn, 1) := by decide +kernel
theorem dX9_signAt_77 : decode cX9_signAt 77 = .ok (.aload_n 0, 1) := by decide +kernel
theorem dX9_signAt_78 : decode cX9_signAt 78 = .ok (.getfield 25, 3) := by decide +kernel
theorem dX9_signAt_81 : decode cX9_signAt 81 = .ok (.iload_n 2, 1) := by decide +kernel
theorem dX9_signAt_82 : decode cX9_signAt 82 = .ok (.iaload, 1) := by decide +kernel
theorem dX9_signAt_83 : decode cX9_signAt 83 = .ok (.aload_n 0, 1) := by decide +kernel
theorem dX9_signAt_84 : decode cX9_signAt 84 = .ok (.getfield 25, 3) := by decide +kernel
theorem dX9_signAt_87 : decode cX9_signAt 87 = .ok (.aload_n 0, 1) := by decide +kernel
theorem dX9_signAt_88 : decode cX9_signAt 88 = .ok (.iload_n 1, 1) := by decide +kernel
theorem dX9_signAt_89 : decode cX9_signAt 89 = .ok (.iconst 4, 1) := by decide +kernel
theorem dX9_signAt_90 : decode cX9_signAt 90 = .ok (.idiv, 1) := by decide +kernel
theorem dX9_signAt_91 : decode cX9_signAt 91 = .ok (.iconst 1, 1) := by decide +kernel
theorem dX9_signAt_92 : decode cX9_signAt 92 = .ok (.iadd, 1) := by decide +kernel
theorem dX9_signAt_93 : decode cX9_signAt 93 = .ok (.invokevirtual 71, 3) := by decide +kernel
theorem dX9_signAt_96 : decode cX9_signAt 96 = .ok (.iaload, 1) := by decide +kernel
theorem dX9_signAt_97 : decode cX9_signAt 97 = .ok (.if_icmp .ne 8, 3) := by decide +kernel
theorem dX9_signAt_100 : decode cX9_signAt 100 = .ok (.bipush 32, 2) := by decide +kernel
theorem dX9_signAt_102 : decode cX9_signAt 102 = .ok (.goto 5, 3) := by decide +kernel
theorem dX9_signAt_105 : decode cX9_signAt 105 = .ok (.bipush 47, 2) := by decide +kernel
theorem dX9_signAt_107 : decode cX9_signAt 107 = .ok (.ireturn, 1) := by decide +kernel
theorem dX9_inTextAt_0 : decode cX9_inTextAt 0 = .ok (.iconst 0, 1) := by decide +kernel
theorem dX9_inTextAt_1 : decode cX9_inTextAt 1 = .ok (.istore_n 2, 1) := by decide +kernel
theorem dX9_inTextAt_2 : decode cX9_inTextAt 2 = .ok (.iload_n 2, 1) := by decide +kernel
theorem dX9_inTextAt_3 : decode cX9_inTextAt 3 = .ok (.aload_n 0, 1) := by decide +kernel
theorem dX9_inTextAt_4 : decode cX9_inTextAt 4 = .ok (.getfield 15, 3) := by decide +kernel
theorem dX9_inTextAt_7 : decode cX9_inTextAt 7 = .ok (.if_icmp .ge 53, 3) := by decide +kernel
theorem dX9_inTextAt_10 : decode cX9_inTextAt 10 = .ok (.iconst 0, 1) := by decide +kernel
theorem dX9_inTextAt_11 : decode cX9_inTextAt 11 = .ok (.istore_n 3, 1) := by decide +kernel
theorem dX9_inTextAt_12 : decode cX9_inTextAt 12 = .ok (.iconst 0, 1) := by decide +kernel
theorem dX9_inTextAt_13 : decode cX9_inTextAt 13 = .ok (.istore 4, 2) := by decide +kernel
theorem dX9_inTextAt_15 : decode cX9_inTextAt 15 = .ok (.iload 4, 2) := by decide +kernel
theorem dX9_inTextAt_17 : decode cX9_inTextAt 17 = .ok (.aload_n 0, 1) := by decide +kernel
theorem dX9_inTextAt_18 : decode cX9_inTextAt 18 = .ok (.getfield 15, 3) := by decide +kernel
theorem dX9_inTextAt_21 : decode cX9_inTextAt 21 = .ok (.if_icmp .ge 26, 3) := by decide +kernel
theorem dX9_inTextAt_24 : decode cX9_inTextAt 24 = .ok (.aload_n 0, 1) := by decide +kernel
theorem dX9_inTextAt_25 : decode cX9_inTextAt 25 = .ok (.iload 4, 2) := by decide +kernel
theorem dX9_inTextAt_27 : decode cX9_inTextAt 27 = .ok (.invokevirtual 75, 3) := by decide +kernel
theorem dX9_inTextAt_30 : decode cX9_inTextAt 30 = .ok (.aload_n 0, 1) := by decide +kernel
theorem dX9_inTextAt_31 : decode cX9_inTextAt 31 = .ok (.iload_n 2, 1) := by decide +kernel
theorem dX9_inTextAt_32 : decode cX9_inTextAt 32 = .ok (.invokevirtual 75, 3) := by decide +kernel
theorem dX9_inTextAt_35 : decode cX9_inTextAt 35 = .ok (.if_icmp .ge 6, 3) := by decide +kernel
theorem dX9_inTextAt_38 : decode cX9_inTextAt 38 = .ok (.iinc 3 1, 3) := by decide +kernel
theorem dX9_inTextAt_41 : decode cX9_inTextAt 41 = .ok (.iinc 4 1, 3) := by decide +kernel
theorem dX9_inTextAt_44 : decode cX9_inTextAt 44 = .ok (.goto (-29), 3) := by decide +kernel
theorem dX9_inTextAt_47 : decode cX9_inTextAt 47 = .ok (.iload_n 3, 1) := by decide +kernel
theorem dX9_inTextAt_48 : decode cX9_inTextAt 48 = .ok (.iload_n 1, 1) := by decide +kernel
theorem dX9_inTextAt_49 : decode cX9_inTextAt 49 = .ok (.if_icmp .ne 5, 3) := by decide +kernel
theorem dX9_inTextAt_52 : decode cX9_inTextAt 52 = .ok (.iload_n 2, 1) := by decide +kernel
theorem dX9_inTextAt_53 : decode cX9_inTextAt 53 = .ok (.ireturn, 1) := by decide +kernel
theorem dX9_inTextAt_54 : decode cX9_inTextAt 54 = .ok (.iinc 2 1, 3) := by decide +kernel
theorem dX9_inTextAt_57 : decode cX9_inTextAt 57 = .ok (.goto (-55), 3) := by decide +kernel
theorem dX9_inTextAt_60 : decode cX9_inTextAt 60 = .ok (.iconst 0, 1) := by decide +kernel
theorem dX9_inTextAt_61 : decode cX9_inTextAt 61 = .ok (.ireturn, 1) := by decide +kernel
theorem dX9_placeKey_0 : decode cX9_placeKey 0 = .ok (.bipush 6, 2) := by decide +kernel
theorem dX9_placeKey_2 : decode cX9_placeKey 2 = .ok (.aload_n 0, 1) := by decide +kernel
theorem dX9_placeKey_3 : decode cX9_placeKey 3 = .ok (.getfield 25, 3) := by decide +kernel
theorem dX9_placeKey_6 : decode cX9_placeKey 6 = .ok (.iload_n 1, 1) := by decide +kernel
theorem dX9_placeKey_7 : decode cX9_placeKey 7 = .ok (.iaload, 1) := by decide +kernel
theorem dX9_placeKey_8 : decode cX9_placeKey 8 = .ok (.imul, 1) := by decide +kernel
theorem dX9_placeKey_9 : decode cX9_placeKey 9 = .ok (.aload_n 0, 1) := by decide +kernel
theorem dX9_placeKey_10 : decode cX9_placeKey 10 = .ok (.getfield 18, 3) := by decide +kernel
theorem dX9_placeKey_13 : decode cX9_placeKey 13 = .ok (.iload_n 1, 1) := by decide +kernel
theorem dX9_placeKey_14 : decode cX9_placeKey 14 = .ok (.iaload, 1) := by decide +kernel
theorem dX9_placeKey_15 : decode cX9_placeKey 15 = .ok (.aload_n 0, 1) := by decide +kernel
theorem dX9_placeKey_16 : decode cX9_placeKey 16 = .ok (.getfield 22, 3) := by decide +kernel
theorem dX9_placeKey_19 : decode cX9_placeKey 19 = .ok (.iload_n 1, 1) := by decide +kernel
theorem dX9_placeKey_20 : decode cX9_placeKey 20 = .ok (.iaload, 1) := by decide +kernel
theorem dX9_placeKey_21 : decode cX9_placeKey 21 = .ok (.invokestatic 78, 3) := by decide +kernel
theorem dX9_placeKey_24 : decode cX9_placeKey 24 = .ok (.iadd, 1) := by decide +kernel
theorem dX9_placeKey_25 : decode cX9_placeKey 25 = .ok (.ireturn, 1) := by decide +kernel
theorem dX10_init_0 : decode cX10_init 0 = .ok (.aload_n 0, 1) := by decide +kernel
theorem dX10_init_1 : decode cX10_init 1 = .ok (.invokespecial 1, 3) := by decide +kernel
theorem dX10_init_4 : decode cX10_init 4 = .ok (.aload_n 0, 1) := by decide +kernel
theorem dX10_init_5 : decode cX10_init 5 = .ok (.new 7, 3) := by decide +kernel
theorem dX10_init_8 : decode cX10_init 8 = .ok (.dup, 1) := by decide +kernel
theorem dX10_init_9 : decode cX10_init 9 = .ok (.invokespecial 9, 3) := by decide +kernel
theorem dX10_init_12 : decode cX10_init 12 = .ok (.putfield 10, 3) := by decide +kernel
theorem dX10_init_15 : decode cX10_init 15 = .ok (.aload_n 0, 1) := by decide +kernel
theorem dX10_init_16 : decode cX10_init 16 = .ok (.new 7, 3) := by decide +kernel
theorem dX10_init_19 : decode cX10_init 19 = .ok (.dup, 1) := by decide +kernel
theorem dX10_init_20 : decode cX10_init 20 = .ok (.invokespecial 9, 3) := by decide +kernel
theorem dX10_init_23 : decode cX10_init 23 = .ok (.putfield 16, 3) := by decide +kernel
theorem dX10_init_26 : decode cX10_init 26 = .ok (.aload_n 0, 1) := by decide +kernel
theorem dX10_init_27 : decode cX10_init 27 = .ok (.new 19, 3) := by decide +kernel
theorem dX10_init_30 : decode cX10_init 30 = .ok (.dup, 1) := by decide +kernel
theorem dX10_init_31 : decode cX10_init 31 = .ok (.invokespecial 21, 3) := by decide +kernel
theorem dX10_init_34 : decode cX10_init 34 = .ok (.putfield 22, 3) := by decide +kernel
theorem dX10_init_37 : decode cX10_init 37 = .ok (.aload_n 0, 1) := by decide +kernel
theorem dX10_init_38 : decode cX10_init 38 = .ok (.new 26, 3) := by decide +kernel
theorem dX10_init_41 : decode cX10_init 41 = .ok (.dup, 1) := by decide +kernel
theorem dX10_init_42 : decode cX10_init 42 = .ok (.invokespecial 28, 3) := by decide +kernel
theorem dX10_init_45 : decode cX10_init 45 = .ok (.putfield 29, 3) := by decide +kernel
theorem dX10_init_48 : decode cX10_init 48 = .ok (.aload_n 0, 1) := by decide +kernel
theorem dX10_init_49 : decode cX10_init 49 = .ok (.new 33, 3) := by decide +kernel
theorem dX10_init_52 : decode cX10_init 52 = .ok (.dup, 1) := by decide +kernel
theorem dX10_init_53 : decode cX10_init 53 = .ok (.invokespecial 35, 3) := by decide +kernel
theorem dX10_init_56 : decode cX10_init 56 = .ok (.putfield 36, 3) := by decide +kernel
theorem dX10_init_59 : decode cX10_init 59 = .ok (.aload_n 0, 1) := by decide +kernel
theorem dX10_init_60 : decode cX10_init 60 = .ok (.new 40, 3) := by decide +kernel
theorem dX10_init_63 : decode cX10_init 63 = .ok (.dup, 1) := by decide +kernel
theorem dX10_init_64 : decode cX10_init 64 = .ok (.invokespecial 42, 3) := by decide +kernel
theorem dX10_init_67 : decode cX10_init 67 = .ok (.putfield 43, 3) := by decide +kernel
theorem dX10_init_70 : decode cX10_init 70 = .ok (.aload_n 0, 1) := by decide +kernel
theorem dX10_init_71 : decode cX10_init 71 = .ok (.new 47, 3) := by decide +kernel
theorem dX10_init_74 : decode cX10_init 74 = .ok (.dup, 1) := by decide +kernel
theorem dX10_init_75 : decode cX10_init 75 = .ok (.invokespecial 49, 3) := by decide +kernel
theorem dX10_init_78 : decode cX10_init 78 = .ok (.putfield 50, 3) := by decide +kernel
theorem dX10_init_81 : decode cX10_init 81 = .ok (.aload_n 0, 1) := by decide +kernel
theorem dX10_init_82 : decode cX10_init 82 = .ok (.new 54, 3) := by decide +kernel
theorem dX10_init_85 : decode cX10_init 85 = .ok (.dup, 1) := by decide +kernel
theorem dX10_init_86 : decode cX10_init 86 = .ok (.invokespecial 56, 3) := by decide +kernel
theorem dX10_init_89 : decode cX10_init 89 = .ok (.putfield 57, 3) := by decide +kernel
theorem dX10_init_92 : decode cX10_init 92 = .ok (.aload_n 0, 1) := by decide +kernel
theorem dX10_init_93 : decode cX10_init 93 = .ok (.new 61, 3) := by decide +kernel
theorem dX10_init_96 : decode cX10_init 96 = .ok (.dup, 1) := by decide +kernel
theorem dX10_init_97 : decode cX10_init 97 = .ok (.invokespecial 63, 3) := by decide +kernel
theorem dX10_init_100 : decode cX10_init 100 = .ok (.putfield 64, 3) := by decide +kernel
theorem dX10_init_103 : decode cX10_init 103 = .ok (.return_, 1) := by decide +kernel
theorem dX10_network_0 : decode cX10_network 0 = .ok (.iload_n 1, 1) := by decide +kernel
theorem dX10_network_1 : decode cX10_network 1 = .ok (.iconst 2, 1) := by decide +kernel
theorem dX10_network_2 : decode cX10_network 2 = .ok (.if_icmp .lt 9, 3) := by decide +kernel
theorem dX10_network_5 : decode cX10_network 5 = .ok (.iload_n 1, 1) := by decide +kernel
theorem dX10_network_6 : decode cX10_network 6 = .ok (.bipush 6, 2) := by decide +kernel
theorem dX10_network_8 : decode cX10_network 8 = .ok (.if_icmp .le 13, 3) := by decide +kernel
theorem dX10_network_11 : decode cX10_network 11 = .ok (.new 68, 3) := by decide +kernel
theorem dX10_network_14 : decode cX10_network 14 = .ok (.dup, 1) := by decide +kernel
theorem dX10_network_15 : decode cX10_network 15 = .ok (.ldc 70, 2) := by decide +kernel
theorem dX10_network_17 : decode cX10_network 17 = .ok (.invokespecial 72, 3) := by decide +kernel
theorem dX10_network_20 : decode cX10_network 20 = .ok (.athrow, 1) := by decide +kernel
theorem dX10_network_21 : decode cX10_network 21 = .ok (.aload_n 0, 1) := by decide +kernel
theorem dX10_network_22 : decode cX10_network 22 = .ok (.getfield 10, 3) := by decide +kernel
theorem dX10_network_25 : decode cX10_network 25 = .ok (.getfield 75, 3) := by decide +kernel
theorem dX10_network_28 : decode cX10_network 28 = .ok (.istore_n 2, 1) := by decide +kernel
theorem dX10_network_29 : decode cX10_network 29 = .ok (.aload_n 0, 1) := by decide +kernel
theorem dX10_network_30 : decode cX10_network 30 = .ok (.getfield 10, 3) := by decide +kernel
theorem dX10_network_33 : decode cX10_network 33 = .ok (.iload_n 1, 1) := by decide +kernel
theorem dX10_network_34 : decode cX10_network 34 = .ok (.invokevirtual 79, 3) := by decide +kernel
theorem dX10_network_37 : decode cX10_network 37 = .ok (.aload_n 0, 1) := by decide +kernel
theorem dX10_network_38 : decode cX10_network 38 = .ok (.getfield 64, 3) := by decide +kernel
theorem dX10_network_41 : decode cX10_network 41 = .ok (.invokevirtual 83, 3) := by decide +kernel
theorem dX10_network_44 : decode cX10_network 44 = .ok (.aload_n 0, 1) := by decide +kernel
theorem dX10_network_45 : decode cX10_network 45 = .ok (.invokevirtual 86, 3) := by decide +kernel
theorem dX10_network_48 : decode cX10_network 48 = .ok (.iload_n 2, 1) := by decide +kernel
theorem dX10_network_49 : decode cX10_network 49 = .ok (.ireturn, 1) := by decide +kernel
theorem dX10_add_0 : decode cX10_add 0 = .ok (.aload_n 0, 1) := by decide +kernel
theorem dX10_add_1 : decode cX10_add 1 = .ok (.iload_n 1, 1) := by decide +kernel
theorem dX10_add_2 : decode cX10_add 2 = .ok (.iload_n 2, 1) := by decide +kernel
theorem dX10_add_3 : decode cX10_add 3 = .ok (.invokevirtual 89, 3) := by decide +kernel
theorem dX10_add_6 : decode cX10_add 6 = .ok (.aload_n 0, 1) := by decide +kernel
theorem dX10_add_7 : decode cX10_add 7 = .ok (.iconst 1, 1) := by decide +kernel
theorem dX10_add_8 : decode cX10_add 8 = .ok (.invokevirtual 93, 3) := by decide +kernel
theorem dX10_add_11 : decode cX10_add 11 = .ok (.aload_n 0, 1) := by decide +kernel
theorem dX10_add_12 : decode cX10_add 12 = .ok (.getfield 10, 3) := by decide +kernel
theorem dX10_add_15 : decode cX10_add 15 = .ok (.iload_n 1, 1) := by decide +kernel
theorem dX10_add_16 : decode cX10_add 16 = .ok (.iload_n 2, 1) := by decide +kernel
theorem dX10_add_17 : decode cX10_add 17 = .ok (.invokevirtual 96, 3) := by decide +kernel
theorem dX10_add_20 : decode cX10_add 20 = .ok (.aload_n 0, 1) := by decide +kernel
theorem dX10_add_21 : decode cX10_add 21 = .ok (.invokevirtual 86, 3) := by decide +kernel
theorem dX10_add_24 : decode cX10_add 24 = .ok (.aload_n 0, 1) := by decide +kernel
theorem dX10_add_25 : decode cX10_add 25 = .ok (.getfield 10, 3) := by decide +kernel
theorem dX10_add_28 : decode cX10_add 28 = .ok (.getfield 75, 3) := by decide +kernel
theorem dX10_add_31 : decode cX10_add 31 = .ok (.iconst 1, 1) := by decide +kernel
theorem dX10_add_32 : decode cX10_add 32 = .ok (.isub, 1) := by decide +kernel
theorem dX10_add_33 : decode cX10_add 33 = .ok (.ireturn, 1) := by decide +kernel
theorem dX10_take_0 : decode cX10_take 0 = .ok (.aload_n 0, 1) := by decide +kernel
theorem dX10_take_1 : decode cX10_take 1 = .ok (.getfield 10, 3) := by decide +kernel
theorem dX10_take_4 : decode cX10_take 4 = .ok (.getfield 75, 3) := by decide +kernel
theorem dX10_take_7 : decode cX10_take 7 = .ok (.ifCond .ne 13, 3) := by decide +kernel
theorem dX10_take_10 : decode cX10_take 10 = .ok (.new 99, 3) := by decide +kernel
theorem dX10_take_13 : decode cX10_take 13 = .ok (.dup, 1) := by decide +kernel
theorem dX10_take_14 : decode cX10_take 14 = .ok (.ldc 101, 2) := by decide +kernel
theorem dX10_take_16 : decode cX10_take 16 = .ok (.invokespecial 103, 3) := by decide +kernel
theorem dX10_take_19 : decode cX10_take 19 = .ok (.athrow, 1) := by decide +kernel
theorem dX10_take_20 : decode cX10_take 20 = .ok (.aload_n 0, 1) := by decide +kernel
theorem dX10_take_21 : decode cX10_take 21 = .ok (.getfield 10, 3) := by decide +kernel
theorem dX10_take_24 : decode cX10_take 24 = .ok (.invokevirtual 104, 3) := by decide +kernel
theorem dX10_take_27 : decode cX10_take 27 = .ok (.aload_n 0, 1) := by decide +kernel
theorem dX10_take_28 : decode cX10_take 28 = .ok (.invokevirtual 86, 3) := by decide +kernel
theorem dX10_take_31 : decode cX10_take 31 = .ok (.aload_n 0, 1) := by decide +kernel
theorem dX10_take_32 : decode cX10_take 32 = .ok (.getfield 10, 3) := by decide +kernel
theorem dX10_take_35 : decode cX10_take 35 = .ok (.getfield 75, 3) := by decide +kernel
theorem dX10_take_38 : decode cX10_take 38 = .ok (.ireturn, 1) := by decide +kernel
theorem dX10_make_0 : decode cX10_make 0 = .ok (.iload_n 1, 1) := by decide +kernel
theorem dX10_make_1 : decode cX10_make 1 = .ok (.ifCond .lt 8, 3) := by decide +kernel
theorem dX10_make_4 : decode cX10_make 4 = .ok (.iload_n 1, 1) := by decide +kernel
theorem dX10_make_5 : decode cX10_make 5 = .ok (.iconst 2, 1) := by decide +kernel
theorem dX10_make_6 : decode cX10_make 6 = .ok (.if_icmp .le 13, 3) := by decide +kernel
theorem dX10_make_9 : decode cX10_make 9 = .ok (.new 68, 3) := by decide +kernel
theorem dX10_make_12 : decode cX10_make 12 = .ok (.dup, 1) := by decide +kernel
theorem dX10_make_13 : decode cX10_make 13 = .ok (.ldc 107, 2) := by decide +kernel
theorem dX10_make_15 : decode cX10_make 15 = .ok (.invokespecial 72, 3) := by decide +kernel
theorem dX10_make_18 : decode cX10_make 18 = .ok (.athrow, 1) := by decide +kernel
theorem dX10_make_19 : decode cX10_make 19 = .ok (.aload_n 0, 1) := by decide +kernel
theorem dX10_make_20 : decode cX10_make 20 = .ok (.getfield 16, 3) := by decide +kernel
theorem dX10_make_23 : decode cX10_make 23 = .ok (.aload_n 0, 1) := by decide +kernel
theorem dX10_make_24 : decode cX10_make 24 = .ok (.getfield 10, 3) := by decide +kernel
theorem dX10_make_27 : decode cX10_make 27 = .ok (.getfield 109, 3) := by decide +kernel
theorem dX10_make_30 : decode cX10_make 30 = .ok (.invokevirtual 79, 3) := by decide +kernel
theorem dX10_make_33 : decode cX10_make 33 = .ok (.iload_n 1, 1) := by decide +kernel
theorem dX10_make_34 : decode cX10_make 34 = .ok (.lookupswitch 46 #[(0, 26), (1, 36)], 26) := by decide +kernel
theorem dX10_make_60 : decode cX10_make 60 = .ok (.aload_n 0, 1) := by decide +kernel
theorem dX10_make_61 : decode cX10_make 61 = .ok (.getfield 16, 3) := by decide +kernel
theorem dX10_make_64 : decode cX10_make 64 = .ok (.invokevirtual 112, 3) := by decide +kernel
theorem dX10_make_67 : decode cX10_make 67 = .ok (.goto 20, 3) := by decide +kernel
theorem dX10_make_70 : decode cX10_make 70 = .ok (.aload_n 0, 1) := by decide +kernel
theorem dX10_make_71 : decode cX10_make 71 = .ok (.getfield 16, 3) := by decide +kernel
theorem dX10_make_74 : decode cX10_make 74 = .ok (.invokevirtual 115, 3) := by decide +kernel
theorem dX10_make_77 : decode cX10_make 77 = .ok (.goto 10, 3) := by decide +kernel
theorem dX10_make_80 : decode cX10_make 80 = .ok (.aload_n 0, 1) := by decide +kernel
theorem dX10_make_81 : decode cX10_make 81 = .ok (.getfield 16, 3) := by decide +kernel
theorem dX10_make_84 : decode cX10_make 84 = .ok (.invokevirtual 118, 3) := by decide +kernel
theorem dX10_make_87 : decode cX10_make 87 = .ok (.aload_n 0, 1) := by decide +kernel
theorem dX10_make_88 : decode cX10_make 88 = .ok (.invokevirtual 121, 3) := by decide +kernel
theorem dX10_make_91 : decode cX10_make 91 = .ok (.ireturn, 1) := by decide +kernel
theorem dX10_mirror_0 : decode cX10_mirror 0 = .ok (.aload_n 0, 1) := by decide +kernel
theorem dX10_mirror_1 : decode cX10_mirror 1 = .ok (.getfield 10, 3) := by decide +kernel
theorem dX10_mirror_4 : decode cX10_mirror 4 = .ok (.invokevirtual 125, 3) := by decide +kernel
theorem dX10_mirror_7 : decode cX10_mirror 7 = .ok (.aload_n 0, 1) := by decide +kernel
theorem dX10_mirror_8 : decode cX10_mirror 8 = .ok (.invokevirtual 86, 3) := by decide +kernel
theorem dX10_mirror_11 : decode cX10_mirror 11 = .ok (.return_, 1) := by decide +kernel
theorem dX10_untangle_0 : decode cX10_untangle 0 = .ok (.aload_n 0, 1) := by decide +kernel
theorem dX10_untangle_1 : decode cX10_untangle 1 = .ok (.getfield 10, 3) := by decide +kernel
theorem dX10_untangle_4 : decode cX10_untangle 4 = .ok (.invokevirtual 128, 3) := by decide +kernel
theorem dX10_untangle_7 : decode cX10_untangle 7 = .ok (.istore_n 1, 1) := by decide +kernel
theorem dX10_untangle_8 : decode cX10_untangle 8 = .ok (.aload_n 0, 1) := by decide +kernel
theorem dX10_untangle_9 : decode cX10_untangle 9 = .ok (.invokevirtual 86, 3) := by decide +kernel
theorem dX10_untangle_12 : decode cX10_untangle 12 = .ok (.iload_n 1, 1) := by decide +kernel
theorem dX10_untangle_13 : decode cX10_untangle 13 = .ok (.ireturn, 1) := by decide +kernel
theorem dX10_prune_0 : decode cX10_prune 0 = .ok (.aload_n 0, 1) := by decide +kernel
theorem dX10_prune_1 : decode cX10_prune 1 = .ok (.getfield 29, 3) := by decide +kernel
theorem dX10_prune_4 : decode cX10_prune 4 = .ok (.aload_n 0, 1) := by decide +kernel
theorem dX10_prune_5 : decode cX10_prune 5 = .ok (.getfield 10, 3) := by decide +kernel
theorem dX10_prune_8 : decode cX10_prune 8 = .ok (.invokevirtual 131, 3) := by decide +kernel
theorem dX10_prune_11 : decode cX10_prune 11 = .ok (.istore_n 1, 1) := by decide +kernel
theorem dX10_prune_12 : decode cX10_prune 12 = .ok (.aload_n 0, 1) := by decide +kernel
theorem dX10_prune_13 : decode cX10_prune 13 = .ok (.invokevirtual 86, 3) := by decide +kernel
theorem dX10_prune_16 : decode cX10_prune 16 = .ok (.iload_n 1, 1) := by decide +kernel
theorem dX10_prune_17 : decode cX10_prune 17 = .ok (.ireturn, 1) := by decide +kernel
theorem dX10_told_0 : decode cX10_told 0 = .ok (.iload_n 1, 1) := by decide +kernel
theorem dX10_told_1 : decode cX10_told 1 = .ok (.tableswitch 91 0 5 #[39, 47, 55, 63, 75, 83], 39) := by decide +kernel
theorem dX10_told_40 : decode cX10_told 40 = .ok (.aload_n 0, 1) := by decide +kernel
theorem dX10_told_41 : decode cX10_told 41 = .ok (.getfield 10, 3) := by decide +kernel
theorem dX10_told_44 : decode cX10_told 44 = .ok (.getfield 109, 3) := by decide +kernel
theorem dX10_told_47 : decode cX10_told 47 = .ok (.ireturn, 1) := by decide +kernel
theorem dX10_told_48 : decode cX10_told 48 = .ok (.aload_n 0, 1) := by decide +kernel
theorem dX10_told_49 : decode cX10_told 49 = .ok (.getfield 10, 3) := by decide +kernel
theorem dX10_told_52 : decode cX10_told 52 = .ok (.getfield 75, 3) := by decide +kernel
theorem dX10_told_55 : decode cX10_told 55 = .ok (.ireturn, 1) := by decide +kernel
theorem dX10_told_56 : decode cX10_told 56 = .ok (.aload_n 0, 1) := by decide +kernel
theorem dX10_told_57 : decode cX10_told 57 = .ok (.getfield 10, 3) := by decide +kernel
theorem dX10_told_60 : decode cX10_told 60 = .ok (.invokevirtual 135, 3) := by decide +kernel
theorem dX10_told_63 : decode cX10_told 63 = .ok (.ireturn, 1) := by decide +kernel
theorem dX10_told_64 : decode cX10_told 64 = .ok (.aload_n 0, 1) := by decide +kernel
theorem dX10_told_65 : decode cX10_told 65 = .ok (.getfield 29, 3) := by decide +kernel
theorem dX10_told_68 : decode cX10_told 68 = .ok (.aload_n 0, 1) := by decide +kernel
theorem dX10_told_69 : decode cX10_told 69 = .ok (.getfield 10, 3) := by decide +kernel
theorem dX10_told_72 : decode cX10_told 72 = .ok (.invokevirtual 138, 3) := by decide +kernel
theorem dX10_told_75 : decode cX10_told 75 = .ok (.ireturn, 1) := by decide +kernel
theorem dX10_told_76 : decode cX10_told 76 = .ok (.aload_n 0, 1) := by decide +kernel
theorem dX10_told_77 : decode cX10_told 77 = .ok (.getfield 10, 3) := by decide +kernel
theorem dX10_told_80 : decode cX10_told 80 = .ok (.invokevirtual 141, 3) := by decide +kernel
theorem dX10_told_83 : decode cX10_told 83 = .ok (.ireturn, 1) := by decide +kernel
theorem dX10_told_84 : decode cX10_told 84 = .ok (.aload_n 0, 1) := by decide +kernel
theorem dX10_told_85 : decode cX10_told 85 = .ok (.getfield 10, 3) := by decide +kernel
theorem dX10_told_88 : decode cX10_told 88 = .ok (.invokevirtual 144, 3) := by decide +kernel
theorem dX10_told_91 : decode cX10_told 91 = .ok (.ireturn, 1) := by decide +kernel
theorem dX10_told_92 : decode cX10_told 92 = .ok (.new 68, 3) := by decide +kernel
theorem dX10_told_95 : decode cX10_told 95 = .ok (.dup, 1) := by decide +kernel
theorem dX10_told_96 : decode cX10_told 96 = .ok (.ldc 147, 2) := by decide +kernel
theorem dX10_told_98 : decode cX10_told 98 = .ok (.invokespecial 72, 3) := by decide +kernel
theorem dX10_told_101 : decode cX10_told 101 = .ok (.athrow, 1) := by decide +kernel
theorem dX10_comparator_0 : decode cX10_comparator 0 = .ok (.aload_n 0, 1) := by decide +kernel
theorem dX10_comparator_1 : decode cX10_comparator 1 = .ok (.iload_n 1, 1) := by decide +kernel
theorem dX10_comparator_2 : decode cX10_comparator 2 = .ok (.invokevirtual 149, 3) := by decide +kernel
theorem dX10_comparator_5 : decode cX10_comparator 5 = .ok (.iload_n 2, 1) := by decide +kernel
theorem dX10_comparator_6 : decode cX10_comparator 6 = .ok (.tableswitch 75 0 3 #[30, 40, 50, 59], 30) := by decide +kernel
theorem dX10_comparator_36 : decode cX10_comparator 36 = .ok (.aload_n 0, 1) := by decide +kernel
theorem dX10_comparator_37 : decode cX10_comparator 37 = .ok (.getfield 10, 3) := by decide +kernel
theorem dX10_comparator_40 : decode cX10_comparator 40 = .ok (.getfield 152, 3) := by decide +kernel
theorem dX10_comparator_43 : decode cX10_comparator 43 = .ok (.iload_n 1, 1) := by decide +kernel
theorem dX10_comparator_44 : decode cX10_comparator 44 = .ok (.iaload, 1) := by decide +kernel
theorem dX10_comparator_45 : decode cX10_comparator 45 = .ok (.ireturn, 1) := by decide +kernel
theorem dX10_comparator_46 : decode cX10_comparator 46 = .ok (.aload_n 0, 1) := by decide +kernel
theorem dX10_comparator_47 : decode cX10_comparator 47 = .ok (.getfield 10, 3) := by decide +kernel
theorem dX10_comparator_50 : decode cX10_comparator 50 = .ok (.getfield 156, 3) := by decide +kernel
theorem dX10_comparator_53 : decode cX10_comparator 53 = .ok (.iload_n 1, 1) := by decide +kernel
theorem dX10_comparator_54 : decode cX10_comparator 54 = .ok (.iaload, 1) := by decide +kernel
theorem dX10_comparator_55 : decode cX10_comparator 55 = .ok (.ireturn, 1) := by decide +kernel
theorem dX10_comparator_56 : decode cX10_comparator 56 = .ok (.aload_n 0, 1) := by decide +kernel
theorem dX10_comparator_57 : decode cX10_comparator 57 = .ok (.getfield 10, 3) := by decide +kernel
theorem dX10_comparator_60 : decode cX10_comparator 60 = .ok (.iload_n 1, 1) := by decide +kernel
theorem dX10_comparator_61 : decode cX10_comparator 61 = .ok (.invokevirtual 159, 3) := by decide +kernel
theorem dX10_comparator_64 : decode cX10_comparator 64 = .ok (.ireturn, 1) := by decide +kernel
theorem dX10_comparator_65 : decode cX10_comparator 65 = .ok (.aload_n 0, 1) := by decide +kernel
theorem dX10_comparator_66 : decode cX10_comparator 66 = .ok (.getfield 29, 3) := by decide +kernel
theorem dX10_comparator_69 : decode cX10_comparator 69 = .ok (.aload_n 0, 1) := by decide +kernel
theorem dX10_comparator_70 : decode cX10_comparator 70 = .ok (.getfield 10, 3) := by decide +kernel
theorem dX10_comparator_73 : decode cX10_comparator 73 = .ok (.iload_n 1, 1) := by decide +kernel
theorem dX10_comparator_74 : decode cX10_comparator 74 = .ok (.invokevirtual 163, 3) := by decide +kernel
theorem dX10_comparator_77 : decode cX10_comparator 77 = .ok (.invokestatic 167, 3) := by decide +kernel
theorem dX10_comparator_80 : decode cX10_comparator 80 = .ok (.ireturn, 1) := by decide +kernel
theorem dX10_comparator_81 : decode cX10_comparator 81 = .ok (.new 68, 3) := by decide +kernel
theorem dX10_comparator_84 : decode cX10_comparator 84 = .ok (.dup, 1) := by decide +kernel
theorem dX10_comparator_85 : decode cX10_comparator 85 = .ok (.ldc 173, 2) := by decide +kernel
theorem dX10_comparator_87 : decode cX10_comparator 87 = .ok (.invokespecial 72, 3) := by decide +kernel
theorem dX10_comparator_90 : decode cX10_comparator 90 = .ok (.athrow, 1) := by decide +kernel
theorem dX10_textAt_0 : decode cX10_textAt 0 = .ok (.iload_n 1, 1) := by decide +kernel
theorem dX10_textAt_1 : decode cX10_textAt 1 = .ok (.invokestatic 175, 3) := by decide +kernel
theorem dX10_textAt_4 : decode cX10_textAt 4 = .ok (.aload_n 0, 1) := by decide +kernel
theorem dX10_textAt_5 : decode cX10_textAt 5 = .ok (.getfield 10, 3) := by decide +kernel
theorem dX10_textAt_8 : decode cX10_textAt 8 = .ok (.iload_n 1, 1) := by decide +kernel
theorem dX10_textAt_9 : decode cX10_textAt 9 = .ok (.invokevirtual 178, 3) := by decide +kernel
theorem dX10_textAt_12 : decode cX10_textAt 12 = .ok (.ireturn, 1) := by decide +kernel
theorem dX10_type_0 : decode cX10_type 0 = .ok (.iload_n 3, 1) := by decide +kernel
theorem dX10_type_1 : decode cX10_type 1 = .ok (.iconst 1, 1) := by decide +kernel
theorem dX10_type_2 : decode cX10_type 2 = .ok (.if_icmp .lt 9, 3) := by decide +kernel
theorem dX10_type_5 : decode cX10_type 5 = .ok (.iload_n 3, 1) := by decide +kernel
theorem dX10_type_6 : decode cX10_type 6 = .ok (.bipush 8, 2) := by decide +kernel
theorem dX10_type_8 : decode cX10_type 8 = .ok (.if_icmp .le 13, 3) := by decide +kernel
theorem dX10_type_11 : decode cX10_type 11 = .ok (.new 68, 3) := by decide +kernel
theorem dX10_type_14 : decode cX10_type 14 = .ok (.dup, 1) := by decide +kernel
theorem dX10_type_15 : decode cX10_type 15 = .ok (.ldc 182, 2) := by decide +kernel
theorem dX10_type_17 : decode cX10_type 17 = .ok (.invokespecial 72, 3) := by decide +kernel
theorem dX10_type_20 : decode cX10_type 20 = .ok (.athrow, 1) := by decide +kernel
theorem dX10_type_21 : decode cX10_type 21 = .ok (.iconst 0, 1) := by decide +kernel
theorem dX10_type_22 : decode cX10_type 22 = .ok (.istore 4, 2) := by decide +kernel
theorem dX10_type_24 : decode cX10_type 24 = .ok (.iload 4, 2) := by decide +kernel
theorem dX10_type_26 : decode cX10_type 26 = .ok (.iload_n 3, 1) := by decide +kernel
theorem dX10_type_27 : decode cX10_type 27 = .ok (.if_icmp .ge 31, 3) := by decide +kernel
theorem dX10_type_30 : decode cX10_type 30 = .ok (.lload_n 1, 1) := by decide +kernel
theorem dX10_type_31 : decode cX10_type 31 = .ok (.iload 4, 2) := by decide +kernel
theorem dX10_type_33 : decode cX10_type 33 = .ok (.invokestatic 184, 3) := by decide +kernel
theorem dX10_type_36 : decode cX10_type 36 = .ok (.invokestatic 188, 3) := by decide +kernel
theorem dX10_type_39 : decode cX10_type 39 = .ok (.ifCond .ne 13, 3) := by decide +kernel
theorem dX10_type_42 : decode cX10_type 42 = .ok (.new 68, 3) := by decide +kernel
theorem dX10_type_45 : decode cX10_type 45 = .ok (.dup, 1) := by decide +kernel
theorem dX10_type_46 : decode cX10_type 46 = .ok (.ldc 192, 2) := by decide +kernel
theorem dX10_type_48 : decode cX10_type 48 = .ok (.invokespecial 72, 3) := by decide +kernel
theorem dX10_type_51 : decode cX10_type 51 = .ok (.athrow, 1) := by decide +kernel
theorem dX10_type_52 : decode cX10_type 52 = .ok (.iinc 4 1, 3) := by decide +kernel
theorem dX10_type_55 : decode cX10_type 55 = .ok (.goto (-31), 3) := by decide +kernel
theorem dX10_type_58 : decode cX10_type 58 = .ok (.aload_n 0, 1) := by decide +kernel
theorem dX10_type_59 : decode cX10_type 59 = .ok (.getfield 22, 3) := by decide +kernel
theorem dX10_type_62 : decode cX10_type 62 = .ok (.getfield 194, 3) := by decide +kernel
theorem dX10_type_65 : decode cX10_type 65 = .ok (.bipush 40, 2) := by decide +kernel
theorem dX10_type_67 : decode cX10_type 67 = .ok (.iload_n 3, 1) := by decide +kernel
theorem dX10_type_68 : decode cX10_type 68 = .ok (.isub, 1) := by decide +kernel
theorem dX10_type_69 : decode cX10_type 69 = .ok (.if_icmp .le 13, 3) := by decide +kernel
theorem dX10_type_72 : decode cX10_type 72 = .ok (.new 99, 3) := by decide +kernel
theorem dX10_type_75 : decode cX10_type 75 = .ok (.dup, 1) := by decide +kernel
theorem dX10_type_76 : decode cX10_type 76 = .ok (.ldc 197, 2) := by decide +kernel
theorem dX10_type_78 : decode cX10_type 78 = .ok (.invokespecial 103, 3) := by decide +kernel
theorem dX10_type_81 : decode cX10_type 81 = .ok (.athrow, 1) := by decide +kernel
theorem dX10_type_82 : decode cX10_type 82 = .ok (.iconst 0, 1) := by decide +kernel
theorem dX10_type_83 : decode cX10_type 83 = .ok (.istore 4, 2) := by decide +kernel
theorem dX10_type_85 : decode cX10_type 85 = .ok (.iload 4, 2) := by decide +kernel
theorem dX10_type_87 : decode cX10_type 87 = .ok (.iload_n 3, 1) := by decide +kernel
theorem dX10_type_88 : decode cX10_type 88 = .ok (.if_icmp .ge 22, 3) := by decide +kernel
theorem dX10_type_91 : decode cX10_type 91 = .ok (.aload_n 0, 1) := by decide +kernel
theorem dX10_type_92 : decode cX10_type 92 = .ok (.getfield 22, 3) := by decide +kernel
theorem dX10_type_95 : decode cX10_type 95 = .ok (.lload_n 1, 1) := by decide +kernel
theorem dX10_type_96 : decode cX10_type 96 = .ok (.iload 4, 2) := by decide +kernel
theorem dX10_type_98 : decode cX10_type 98 = .ok (.invokestatic 184, 3) := by decide +kernel
theorem dX10_type_101 : decode cX10_type 101 = .ok (.invokevirtual 199, 3) := by decide +kernel
theorem dX10_type_104 : decode cX10_type 104 = .ok (.iinc 4 1, 3) := by decide +kernel
theorem dX10_type_107 : decode cX10_type 107 = .ok (.goto (-22), 3) := by decide +kernel
theorem dX10_type_110 : decode cX10_type 110 = .ok (.aload_n 0, 1) := by decide +kernel
theorem dX10_type_111 : decode cX10_type 111 = .ok (.getfield 22, 3) := by decide +kernel
theorem dX10_type_114 : decode cX10_type 114 = .ok (.getfield 194, 3) := by decide +kernel
theorem dX10_type_117 : decode cX10_type 117 = .ok (.ireturn, 1) := by decide +kernel
theorem dX10_wipe_0 : decode cX10_wipe 0 = .ok (.aload_n 0, 1) := by decide +kernel
theorem dX10_wipe_1 : decode cX10_wipe 1 = .ok (.getfield 22, 3) := by decide +kernel
theorem dX10_wipe_4 : decode cX10_wipe 4 = .ok (.getfield 194, 3) := by decide +kernel
theorem dX10_wipe_7 : decode cX10_wipe 7 = .ok (.istore_n 1, 1) := by decide +kernel
theorem dX10_wipe_8 : decode cX10_wipe 8 = .ok (.aload_n 0, 1) := by decide +kernel
theorem dX10_wipe_9 : decode cX10_wipe 9 = .ok (.getfield 22, 3) := by decide +kernel
theorem dX10_wipe_12 : decode cX10_wipe 12 = .ok (.invokevirtual 203, 3) := by decide +kernel
theorem dX10_wipe_15 : decode cX10_wipe 15 = .ok (.iload_n 1, 1) := by decide +kernel
theorem dX10_wipe_16 : decode cX10_wipe 16 = .ok (.ireturn, 1) := by decide +kernel
theorem dX10_fault_0 : decode cX10_fault 0 = .ok (.aload_n 0, 1) := by decide +kernel
theorem dX10_fault_1 : decode cX10_fault 1 = .ok (.getfield 22, 3) := by decide +kernel
theorem dX10_fault_4 : decode cX10_fault 4 = .ok (.aload_n 0, 1) := by decide +kernel
theorem dX10_fault_5 : decode cX10_fault 5 = .ok (.getfield 10, 3) := by decide +kernel
theorem dX10_fault_8 : decode cX10_fault 8 = .ok (.getfield 109, 3) := by decide +kernel
theorem dX10_fault_11 : decode cX10_fault 11 = .ok (.invokevirtual 206, 3) := by decide +kernel
theorem dX10_fault_14 : decode cX10_fault 14 = .ok (.ireturn, 1) := by decide +kernel
theorem dX10_build_0 : decode cX10_build 0 = .ok (.aload_n 0, 1) := by decide +kernel
theorem dX10_build_1 : decode cX10_build 1 = .ok (.getfield 22, 3) := by decide +kernel
theorem dX10_build_4 : decode cX10_build 4 = .ok (.aload_n 0, 1) := by decide +kernel
theorem dX10_build_5 : decode cX10_build 5 = .ok (.getfield 10, 3) := by decide +kernel
theorem dX10_build_8 : decode cX10_build 8 = .ok (.getfield 109, 3) := by decide +kernel
theorem dX10_build_11 : decode cX10_build 11 = .ok (.invokevirtual 206, 3) := by decide +kernel
theorem dX10_build_14 : decode cX10_build 14 = .ok (.iconst (-1), 1) := by decide +kernel
theorem dX10_build_15 : decode cX10_build 15 = .ok (.if_icmp .eq 13, 3) := by decide +kernel
theorem dX10_build_18 : decode cX10_build 18 = .ok (.new 68, 3) := by decide +kernel
theorem dX10_build_21 : decode cX10_build 21 = .ok (.dup, 1) := by decide +kernel
theorem dX10_build_22 : decode cX10_build 22 = .ok (.ldc 209, 2) := by decide +kernel
theorem dX10_build_24 : decode cX10_build 24 = .ok (.invokespecial 72, 3) := by decide +kernel
theorem dX10_build_27 : decode cX10_build 27 = .ok (.athrow, 1) := by decide +kernel
theorem dX10_build_28 : decode cX10_build 28 = .ok (.aload_n 0, 1) := by decide +kernel
theorem dX10_build_29 : decode cX10_build 29 = .ok (.getfield 16, 3) := by decide +kernel
theorem dX10_build_32 : decode cX10_build 32 = .ok (.aload_n 0, 1) := by decide +kernel
theorem dX10_build_33 : decode cX10_build 33 = .ok (.getfield 10, 3) := by decide +kernel
theorem dX10_build_36 : decode cX10_build 36 = .ok (.getfield 109, 3) := by decide +kernel
theorem dX10_build_39 : decode cX10_build 39 = .ok (.invokevirtual 79, 3) := by decide +kernel
theorem dX10_build_42 : decode cX10_build 42 = .ok (.aload_n 0, 1) := by decide +kernel
theorem dX10_build_43 : decode cX10_build 43 = .ok (.getfield 22, 3) := by decide +kernel
theorem dX10_build_46 : decode cX10_build 46 = .ok (.aload_n 0, 1) := by decide +kernel
theorem dX10_build_47 : decode cX10_build 47 = .ok (.getfield 16, 3) := by decide +kernel
theorem dX10_build_50 : decode cX10_build 50 = .ok (.invokevirtual 211, 3) := by decide +kernel
theorem dX10_build_53 : decode cX10_build 53 = .ok (.aload_n 0, 1) := by decide +kernel
theorem dX10_build_54 : decode cX10_build 54 = .ok (.invokevirtual 121, 3) := by decide +kernel
theorem dX10_build_57 : decode cX10_build 57 = .ok (.istore_n 1, 1) := by decide +kernel
theorem dX10_build_58 : decode cX10_build 58 = .ok (.aload_n 0, 1) := by decide +kernel
theorem dX10_build_59 : decode cX10_build 59 = .ok (.getfield 22, 3) := by decide +kernel
theorem dX10_build_62 : decode cX10_build 62 = .ok (.invokevirtual 203, 3) := by decide +kernel
theorem dX10_build_65 : decode cX10_build 65 = .ok (.iload_n 1, 1) := by decide +kernel
theorem dX10_build_66 : decode cX10_build 66 = .ok (.ireturn, 1) := by decide +kernel
theorem dX10_run_0 : decode cX10_run 0 = .ok (.aload_n 0, 1) := by decide +kernel
theorem dX10_run_1 : decode cX10_run 1 = .ok (.iload_n 1, 1) := by decide +kernel
theorem dX10_run_2 : decode cX10_run 2 = .ok (.invokevirtual 215, 3) := by decide +kernel
theorem dX10_run_5 : decode cX10_run 5 = .ok (.istore_n 2, 1) := by decide +kernel
theorem dX10_run_6 : decode cX10_run 6 = .ok (.aload_n 0, 1) := by decide +kernel
theorem dX10_run_7 : decode cX10_run 7 = .ok (.getfield 10, 3) := by decide +kernel
theorem dX10_run_10 : decode cX10_run 10 = .ok (.iload_n 2, 1) := by decide +kernel
theorem dX10_run_11 : decode cX10_run 11 = .ok (.invokevirtual 218, 3) := by decide +kernel
theorem dX10_run_14 : decode cX10_run 14 = .ok (.aload_n 0, 1) := by decide +kernel
theorem dX10_run_15 : decode cX10_run 15 = .ok (.getfield 10, 3) := by decide +kernel
theorem dX10_run_18 : decode cX10_run 18 = .ok (.getfield 109, 3) := by decide +kernel
theorem dX10_run_21 : decode cX10_run 21 = .ok (.invokestatic 221, 3) := by decide +kernel
theorem dX10_run_24 : decode cX10_run 24 = .ok (.ireturn, 1) := by decide +kernel
theorem dX10_outputs_0 : decode cX10_outputs 0 = .ok (.aload_n 0, 1) := by decide +kernel
theorem dX10_outputs_1 : decode cX10_outputs 1 = .ok (.getfield 29, 3) := by decide +kernel
theorem dX10_outputs_4 : decode cX10_outputs 4 = .ok (.aload_n 0, 1) := by decide +kernel
theorem dX10_outputs_5 : decode cX10_outputs 5 = .ok (.getfield 10, 3) := by decide +kernel
theorem dX10_outputs_8 : decode cX10_outputs 8 = .ok (.invokevirtual 227, 3) := by decide +kernel
theorem dX10_outputs_11 : decode cX10_outputs 11 = .ok (.lreturn, 1) := by decide +kernel
theorem dX10_sorts_0 : decode cX10_sorts 0 = .ok (.aload_n 0, 1) := by decide +kernel
theorem dX10_sorts_1 : decode cX10_sorts 1 = .ok (.getfield 29, 3) := by decide +kernel
theorem dX10_sorts_4 : decode cX10_sorts 4 = .ok (.aload_n 0, 1) := by decide +kernel
theorem dX10_sorts_5 : decode cX10_sorts 5 = .ok (.getfield 10, 3) := by decide +kernel
theorem dX10_sorts_8 : decode cX10_sorts 8 = .ok (.invokevirtual 231, 3) := by decide +kernel
theorem dX10_sorts_11 : decode cX10_sorts 11 = .ok (.lconst 0, 1) := by decide +kernel
theorem dX10_sorts_12 : decode cX10_sorts 12 = .ok (.lcmp, 1) := by decide +kernel
theorem dX10_sorts_13 : decode cX10_sorts 13 = .ok (.ifCond .ne 7, 3) := by decide +kernel
theorem dX10_sorts_16 : decode cX10_sorts 16 = .ok (.iconst 1, 1) := by decide +kernel
theorem dX10_sorts_17 : decode cX10_sorts 17 = .ok (.goto 4, 3) := by decide +kernel
theorem dX10_sorts_20 : decode cX10_sorts 20 = .ok (.iconst 0, 1) := by decide +kernel
theorem dX10_sorts_21 : decode cX10_sorts 21 = .ok (.ireturn, 1) := by decide +kernel
theorem dX10_sorted_0 : decode cX10_sorted 0 = .ok (.aload_n 0, 1) := by decide +kernel
theorem dX10_sorted_1 : decode cX10_sorted 1 = .ok (.getfield 29, 3) := by decide +kernel
theorem dX10_sorted_4 : decode cX10_sorted 4 = .ok (.aload_n 0, 1) := by decide +kernel
theorem dX10_sorted_5 : decode cX10_sorted 5 = .ok (.getfield 10, 3) := by decide +kernel
theorem dX10_sorted_8 : decode cX10_sorted 8 = .ok (.invokevirtual 234, 3) := by decide +kernel
theorem dX10_sorted_11 : decode cX10_sorted 11 = .ok (.ireturn, 1) := by decide +kernel
theorem dX10_wrong_0 : decode cX10_wrong 0 = .ok (.iload_n 1, 1) := by decide +kernel
theorem dX10_wrong_1 : decode cX10_wrong 1 = .ok (.invokestatic 175, 3) := by decide +kernel
theorem dX10_wrong_4 : decode cX10_wrong 4 = .ok (.aload_n 0, 1) := by decide +kernel
theorem dX10_wrong_5 : decode cX10_wrong 5 = .ok (.getfield 29, 3) := by decide +kernel
theorem dX10_wrong_8 : decode cX10_wrong 8 = .ok (.aload_n 0, 1) := by decide +kernel
theorem dX10_wrong_9 : decode cX10_wrong 9 = .ok (.getfield 10, 3) := by decide +kernel
theorem dX10_wrong_12 : decode cX10_wrong 12 = .ok (.invokevirtual 231, 3) := by decide +kernel
theorem dX10_wrong_15 : decode cX10_wrong 15 = .ok (.iload_n 1, 1) := by decide +kernel
theorem dX10_wrong_16 : decode cX10_wrong 16 = .ok (.invokestatic 237, 3) := by decide +kernel
theorem dX10_wrong_19 : decode cX10_wrong 19 = .ok (.ireturn, 1) := by decide +kernel
theorem dX10_finishes_0 : decode cX10_finishes 0 = .ok (.iload_n 1, 1) := by decide +kernel
theorem dX10_finishes_1 : decode cX10_finishes 1 = .ok (.ifCond .lt 8, 3) := by decide +kernel
theorem dX10_finishes_4 : decode cX10_finishes 4 = .ok (.iload_n 1, 1) := by decide +kernel
theorem dX10_finishes_5 : decode cX10_finishes 5 = .ok (.iconst 3, 1) := by decide +kernel
theorem dX10_finishes_6 : decode cX10_finishes 6 = .ok (.if_icmp .le 13, 3) := by decide +kernel
theorem dX10_finishes_9 : decode cX10_finishes 9 = .ok (.new 68, 3) := by decide +kernel
theorem dX10_finishes_12 : decode cX10_finishes 12 = .ok (.dup, 1) := by decide +kernel
theorem dX10_finishes_13 : decode cX10_finishes 13 = .ok (.ldc 241, 2) := by decide +kernel
theorem dX10_finishes_15 : decode cX10_finishes 15 = .ok (.invokespecial 72, 3) := by decide +kernel
theorem dX10_finishes_18 : decode cX10_finishes 18 = .ok (.athrow, 1) := by decide +kernel
theorem dX10_finishes_19 : decode cX10_finishes 19 = .ok (.aload_n 0, 1) := by decide +kernel
theorem dX10_finishes_20 : decode cX10_finishes 20 = .ok (.getfield 29, 3) := by decide +kernel
theorem dX10_finishes_23 : decode cX10_finishes 23 = .ok (.aload_n 0, 1) := by decide +kernel
theorem dX10_finishes_24 : decode cX10_finishes 24 = .ok (.getfield 10, 3) := by decide +kernel
theorem dX10_finishes_27 : decode cX10_finishes 27 = .ok (.iload_n 1, 1) := by decide +kernel
theorem dX10_finishes_28 : decode cX10_finishes 28 = .ok (.invokevirtual 243, 3) := by decide +kernel
theorem dX10_finishes_31 : decode cX10_finishes 31 = .ok (.ireturn, 1) := by decide +kernel
theorem dX10_merges_0 : decode cX10_merges 0 = .ok (.iload_n 1, 1) := by decide +kernel
theorem dX10_merges_1 : decode cX10_merges 1 = .ok (.iconst 1, 1) := by decide +kernel
theorem dX10_merges_2 : decode cX10_merges 2 = .ok (.if_icmp .lt 14, 3) := by decide +kernel
theorem dX10_merges_5 : decode cX10_merges 5 = .ok (.iload_n 1, 1) := by decide +kernel
theorem dX10_merges_6 : decode cX10_merges 6 = .ok (.aload_n 0, 1) := by decide +kernel
theorem dX10_merges_7 : decode cX10_merges 7 = .ok (.getfield 10, 3) := by decide +kernel
theorem dX10_merges_10 : decode cX10_merges 10 = .ok (.getfield 109, 3) := by decide +kernel
theorem dX10_merges_13 : decode cX10_merges 13 = .ok (.if_icmp .lt 13, 3) := by decide +kernel
theorem dX10_merges_16 : decode cX10_merges 16 = .ok (.new 247, 3) := by decide +kernel
theorem dX10_merges_19 : decode cX10_merges 19 = .ok (.dup, 1) := by decide +kernel
theorem dX10_merges_20 : decode cX10_merges 20 = .ok (.ldc 249, 2) := by decide +kernel
theorem dX10_merges_22 : decode cX10_merges 22 = .ok (.invokespecial 251, 3) := by decide +kernel
theorem dX10_merges_25 : decode cX10_merges 25 = .ok (.athrow, 1) := by decide +kernel
theorem dX10_merges_26 : decode cX10_merges 26 = .ok (.aload_n 0, 1) := by decide +kernel
theorem dX10_merges_27 : decode cX10_merges 27 = .ok (.getfield 29, 3) := by decide +kernel
theorem dX10_merges_30 : decode cX10_merges 30 = .ok (.aload_n 0, 1) := by decide +kernel
theorem dX10_merges_31 : decode cX10_merges 31 = .ok (.getfield 10, 3) := by decide +kernel
theorem dX10_merges_34 : decode cX10_merges 34 = .ok (.iload_n 1, 1) := by decide +kernel
theorem dX10_merges_35 : decode cX10_merges 35 = .ok (.invokevirtual 252, 3) := by decide +kernel
theorem dX10_merges_38 : decode cX10_merges 38 = .ok (.ireturn, 1) := by decide +kernel
theorem dX10_chooses_0 : decode cX10_chooses 0 = .ok (.iload_n 1, 1) := by decide +kernel
theorem dX10_chooses_1 : decode cX10_chooses 1 = .ok (.iconst 1, 1) := by decide +kernel
theorem dX10_chooses_2 : decode cX10_chooses 2 = .ok (.if_icmp .lt 14, 3) := by decide +kernel
theorem dX10_chooses_5 : decode cX10_chooses 5 = .ok (.iload_n 1, 1) := by decide +kernel
theorem dX10_chooses_6 : decode cX10_chooses 6 = .ok (.aload_n 0, 1) := by decide +kernel
theorem dX10_chooses_7 : decode cX10_chooses 7 = .ok (.getfield 10, 3) := by decide +kernel
theorem dX10_chooses_10 : decode cX10_chooses 10 = .ok (.getfield 109, 3) := by decide +kernel
theorem dX10_chooses_13 : decode cX10_chooses 13 = .ok (.if_icmp .lt 14, 3) := by decide +kernel
theorem dX10_chooses_16 : decode cX10_chooses 16 = .ok (.new 68, 3) := by decide +kernel
theorem dX10_chooses_19 : decode cX10_chooses 19 = .ok (.dup, 1) := by decide +kernel
theorem dX10_chooses_20 : decode cX10_chooses 20 = .ok (.ldc_w 256, 3) := by decide +kernel
theorem dX10_chooses_23 : decode cX10_chooses 23 = .ok (.invokespecial 72, 3) := by decide +kernel
theorem dX10_chooses_26 : decode cX10_chooses 26 = .ok (.athrow, 1) := by decide +kernel
theorem dX10_chooses_27 : decode cX10_chooses 27 = .ok (.aload_n 0, 1) := by decide +kernel
theorem dX10_chooses_28 : decode cX10_chooses 28 = .ok (.getfield 29, 3) := by decide +kernel
theorem dX10_chooses_31 : decode cX10_chooses 31 = .ok (.aload_n 0, 1) := by decide +kernel
theorem dX10_chooses_32 : decode cX10_chooses 32 = .ok (.getfield 10, 3) := by decide +kernel
theorem dX10_chooses_35 : decode cX10_chooses 35 = .ok (.iload_n 1, 1) := by decide +kernel
theorem dX10_chooses_36 : decode cX10_chooses 36 = .ok (.invokevirtual 258, 3) := by decide +kernel
theorem dX10_chooses_39 : decode cX10_chooses 39 = .ok (.ireturn, 1) := by decide +kernel
theorem dX10_off_0 : decode cX10_off 0 = .ok (.aload_n 0, 1) := by decide +kernel
theorem dX10_off_1 : decode cX10_off 1 = .ok (.getfield 29, 3) := by decide +kernel
theorem dX10_off_4 : decode cX10_off 4 = .ok (.aload_n 0, 1) := by decide +kernel
theorem dX10_off_5 : decode cX10_off 5 = .ok (.getfield 10, 3) := by decide +kernel
theorem dX10_off_8 : decode cX10_off 8 = .ok (.invokevirtual 261, 3) := by decide +kernel
theorem dX10_off_11 : decode cX10_off 11 = .ok (.ireturn, 1) := by decide +kernel
theorem dX10_routes_0 : decode cX10_routes 0 = .ok (.aload_n 0, 1) := by decide +kernel
theorem dX10_routes_1 : decode cX10_routes 1 = .ok (.getfield 43, 3) := by decide +kernel
theorem dX10_routes_4 : decode cX10_routes 4 = .ok (.aload_n 0, 1) := by decide +kernel
theorem dX10_routes_5 : decode cX10_routes 5 = .ok (.getfield 10, 3) := by decide +kernel
theorem dX10_routes_8 : decode cX10_routes 8 = .ok (.invokevirtual 264, 3) := by decide +kernel
theorem dX10_routes_11 : decode cX10_routes 11 = .ok (.ireturn, 1) := by decide +kernel
theorem dX10_setting_0 : decode cX10_setting 0 = .ok (.aload_n 0, 1) := by decide +kernel
theorem dX10_setting_1 : decode cX10_setting 1 = .ok (.iload_n 1, 1) := by decide +kernel
theorem dX10_setting_2 : decode cX10_setting 2 = .ok (.invokevirtual 215, 3) := by decide +kernel
theorem dX10_setting_5 : decode cX10_setting 5 = .ok (.istore_n 2, 1) := by decide +kernel
theorem dX10_setting_6 : decode cX10_setting 6 = .ok (.aload_n 0, 1) := by decide +kernel
theorem dX10_setting_7 : decode cX10_setting 7 = .ok (.getfield 43, 3) := by decide +kernel
theorem dX10_setting_10 : decode cX10_setting 10 = .ok (.aload_n 0, 1) := by decide +kernel
theorem dX10_setting_11 : decode cX10_setting 11 = .ok (.getfield 10, 3) := by decide +kernel
theorem dX10_setting_14 : decode cX10_setting 14 = .ok (.iload_n 2, 1) := by decide +kernel
theorem dX10_setting_15 : decode cX10_setting 15 = .ok (.invokevirtual 266, 3) := by decide +kernel
theorem dX10_setting_18 : decode cX10_setting 18 = .ok (.ireturn, 1) := by decide +kernel
theorem dX10_token_0 : decode cX10_token 0 = .ok (.aload_n 0, 1) := by decide +kernel
theorem dX10_token_1 : decode cX10_token 1 = .ok (.iload_n 1, 1) := by decide +kernel
theorem dX10_token_2 : decode cX10_token 2 = .ok (.invokevirtual 269, 3) := by decide +kernel
theorem dX10_token_5 : decode cX10_token 5 = .ok (.aload_n 0, 1) := by decide +kernel
theorem dX10_token_6 : decode cX10_token 6 = .ok (.getfield 50, 3) := by decide +kernel
theorem dX10_token_9 : decode cX10_token 9 = .ok (.getfield 272, 3) := by decide +kernel
theorem dX10_token_12 : decode cX10_token 12 = .ok (.sipush 1000, 3) := by decide +kernel
theorem dX10_token_15 : decode cX10_token 15 = .ok (.if_icmp .lt 14, 3) := by decide +kernel
theorem dX10_token_18 : decode cX10_token 18 = .ok (.new 99, 3) := by decide +kernel
theorem dX10_token_21 : decode cX10_token 21 = .ok (.dup, 1) := by decide +kernel
theorem dX10_token_22 : decode cX10_token 22 = .ok (.ldc_w 275, 3) := by decide +kernel
theorem dX10_token_25 : decode cX10_token 25 = .ok (.invokespecial 103, 3) := by decide +kernel
theorem dX10_token_28 : decode cX10_token 28 = .ok (.athrow, 1) := by decide +kernel
theorem dX10_token_29 : decode cX10_token 29 = .ok (.aload_n 0, 1) := by decide +kernel
theorem dX10_token_30 : decode cX10_token 30 = .ok (.getfield 50, 3) := by decide +kernel
theorem dX10_token_33 : decode cX10_token 33 = .ok (.aload_n 0, 1) := by decide +kernel
theorem dX10_token_34 : decode cX10_token 34 = .ok (.getfield 10, 3) := by decide +kernel
theorem dX10_token_37 : decode cX10_token 37 = .ok (.iload_n 1, 1) := by decide +kernel
theorem dX10_token_38 : decode cX10_token 38 = .ok (.invokevirtual 277, 3) := by decide +kernel
theorem dX10_token_41 : decode cX10_token 41 = .ok (.ireturn, 1) := by decide +kernel
theorem dX10_came_0 : decode cX10_came 0 = .ok (.aload_n 0, 1) := by decide +kernel
theorem dX10_came_1 : decode cX10_came 1 = .ok (.iload_n 1, 1) := by decide +kernel
theorem dX10_came_2 : decode cX10_came 2 = .ok (.invokevirtual 269, 3) := by decide +kernel
theorem dX10_came_5 : decode cX10_came 5 = .ok (.aload_n 0, 1) := by decide +kernel
theorem dX10_came_6 : decode cX10_came 6 = .ok (.getfield 50, 3) := by decide +kernel
theorem dX10_came_9 : decode cX10_came 9 = .ok (.getfield 280, 3) := by decide +kernel
theorem dX10_came_12 : decode cX10_came 12 = .ok (.iload_n 1, 1) := by decide +kernel
theorem dX10_came_13 : decode cX10_came 13 = .ok (.iaload, 1) := by decide +kernel
theorem dX10_came_14 : decode cX10_came 14 = .ok (.ireturn, 1) := by decide +kernel
theorem dX10_cameAnew_0 : decode cX10_cameAnew 0 = .ok (.aload_n 0, 1) := by decide +kernel
theorem dX10_cameAnew_1 : decode cX10_cameAnew 1 = .ok (.iload_n 1, 1) := by decide +kernel
theorem dX10_cameAnew_2 : decode cX10_cameAnew 2 = .ok (.invokevirtual 269, 3) := by decide +kernel
theorem dX10_cameAnew_5 : decode cX10_cameAnew 5 = .ok (.aload_n 0, 1) := by decide +kernel
theorem dX10_cameAnew_6 : decode cX10_cameAnew 6 = .ok (.getfield 50, 3) := by decide +kernel
theorem dX10_cameAnew_9 : decode cX10_cameAnew 9 = .ok (.aload_n 0, 1) := by decide +kernel
theorem dX10_cameAnew_10 : decode cX10_cameAnew 10 = .ok (.getfield 10, 3) := by decide +kernel
theorem dX10_cameAnew_13 : decode cX10_cameAnew 13 = .ok (.iload_n 1, 1) := by decide +kernel
theorem dX10_cameAnew_14 : decode cX10_cameAnew 14 = .ok (.invokevirtual 283, 3) := by decide +kernel
theorem dX10_cameAnew_17 : decode cX10_cameAnew 17 = .ok (.ireturn, 1) := by decide +kernel
theorem dX10_isStep_0 : decode cX10_isStep 0 = .ok (.aload_n 0, 1) := by decide +kernel
theorem dX10_isStep_1 : decode cX10_isStep 1 = .ok (.getfield 50, 3) := by decide +kernel
theorem dX10_isStep_4 : decode cX10_isStep 4 = .ok (.aload_n 0, 1) := by decide +kernel
theorem dX10_isStep_5 : decode cX10_isStep 5 = .ok (.getfield 10, 3) := by decide +kernel
theorem dX10_isStep_8 : decode cX10_isStep 8 = .ok (.getfield 109, 3) := by decide +kernel
theorem dX10_isStep_11 : decode cX10_isStep 11 = .ok (.invokevirtual 286, 3) := by decide +kernel
theorem dX10_isStep_14 : decode cX10_isStep 14 = .ok (.ireturn, 1) := by decide +kernel
theorem dX10_bad_0 : decode cX10_bad 0 = .ok (.aload_n 0, 1) := by decide +kernel
theorem dX10_bad_1 : decode cX10_bad 1 = .ok (.iload_n 1, 1) := by decide +kernel
theorem dX10_bad_2 : decode cX10_bad 2 = .ok (.invokevirtual 149, 3) := by decide +kernel
theorem dX10_bad_5 : decode cX10_bad 5 = .ok (.iload_n 2, 1) := by decide +kernel
theorem dX10_bad_6 : decode cX10_bad 6 = .ok (.invokestatic 290, 3) := by decide +kernel
theorem dX10_bad_9 : decode cX10_bad 9 = .ok (.aload_n 0, 1) := by decide +kernel
theorem dX10_bad_10 : decode cX10_bad 10 = .ok (.getfield 29, 3) := by decide +kernel
theorem dX10_bad_13 : decode cX10_bad 13 = .ok (.aload_n 0, 1) := by decide +kernel
theorem dX10_bad_14 : decode cX10_bad 14 = .ok (.getfield 10, 3) := by decide +kernel
theorem dX10_bad_17 : decode cX10_bad 17 = .ok (.iload_n 1, 1) := by decide +kernel
theorem dX10_bad_18 : decode cX10_bad 18 = .ok (.iload_n 2, 1) := by decide +kernel
theorem dX10_bad_19 : decode cX10_bad 19 = .ok (.invokevirtual 293, 3) := by decide +kernel
theorem dX10_bad_22 : decode cX10_bad 22 = .ok (.invokestatic 167, 3) := by decide +kernel
theorem dX10_bad_25 : decode cX10_bad 25 = .ok (.ireturn, 1) := by decide +kernel
theorem dX10_tells_0 : decode cX10_tells 0 = .ok (.aload_n 0, 1) := by decide +kernel
theorem dX10_tells_1 : decode cX10_tells 1 = .ok (.iload_n 1, 1) := by decide +kernel
theorem dX10_tells_2 : decode cX10_tells 2 = .ok (.invokevirtual 149, 3) := by decide +kernel
theorem dX10_tells_5 : decode cX10_tells 5 = .ok (.iload_n 2, 1) := by decide +kernel
theorem dX10_tells_6 : decode cX10_tells 6 = .ok (.invokestatic 290, 3) := by decide +kernel
theorem dX10_tells_9 : decode cX10_tells 9 = .ok (.aload_n 0, 1) := by decide +kernel
theorem dX10_tells_10 : decode cX10_tells 10 = .ok (.getfield 29, 3) := by decide +kernel
theorem dX10_tells_13 : decode cX10_tells 13 = .ok (.aload_n 0, 1) := by decide +kernel
theorem dX10_tells_14 : decode cX10_tells 14 = .ok (.getfield 10, 3) := by decide +kernel
theorem dX10_tells_17 : decode cX10_tells 17 = .ok (.iload_n 1, 1) := by decide +kernel
theorem dX10_tells_18 : decode cX10_tells 18 = .ok (.iload_n 2, 1) := by decide +kernel
theorem dX10_tells_19 : decode cX10_tells 19 = .ok (.invokevirtual 297, 3) := by decide +kernel
theorem dX10_tells_22 : decode cX10_tells 22 = .ok (.lreturn, 1) := by decide +kernel
theorem dX10_hidden_0 : decode cX10_hidden 0 = .ok (.aload_n 0, 1) := by decide +kernel
theorem dX10_hidden_1 : decode cX10_hidden 1 = .ok (.getfield 36, 3) := by decide +kernel
theorem dX10_hidden_4 : decode cX10_hidden 4 = .ok (.aload_n 0, 1) := by decide +kernel
theorem dX10_hidden_5 : decode cX10_hidden 5 = .ok (.getfield 29, 3) := by decide +kernel
theorem dX10_hidden_8 : decode cX10_hidden 8 = .ok (.aload_n 0, 1) := by decide +kernel
theorem dX10_hidden_9 : decode cX10_hidden 9 = .ok (.getfield 10, 3) := by decide +kernel
theorem dX10_hidden_12 : decode cX10_hidden 12 = .ok (.lload_n 1, 1) := by decide +kernel
theorem dX10_hidden_13 : decode cX10_hidden 13 = .ok (.invokevirtual 300, 3) := by decide +kernel
theorem dX10_hidden_16 : decode cX10_hidden 16 = .ok (.ireturn, 1) := by decide +kernel
theorem dX10_tests_0 : decode cX10_tests 0 = .ok (.aload_n 0, 1) := by decide +kernel
theorem dX10_tests_1 : decode cX10_tests 1 = .ok (.getfield 36, 3) := by decide +kernel
theorem dX10_tests_4 : decode cX10_tests 4 = .ok (.aload_n 0, 1) := by decide +kernel
theorem dX10_tests_5 : decode cX10_tests 5 = .ok (.getfield 29, 3) := by decide +kernel
theorem dX10_tests_8 : decode cX10_tests 8 = .ok (.aload_n 0, 1) := by decide +kernel
theorem dX10_tests_9 : decode cX10_tests 9 = .ok (.getfield 10, 3) := by decide +kernel
theorem dX10_tests_12 : decode cX10_tests 12 = .ok (.invokevirtual 304, 3) := by decide +kernel
theorem dX10_tests_15 : decode cX10_tests 15 = .ok (.ireturn, 1) := by decide +kernel
theorem dX10_bears_0 : decode cX10_bears 0 = .ok (.aload_n 0, 1) := by decide +kernel
theorem dX10_bears_1 : decode cX10_bears 1 = .ok (.getfield 29, 3) := by decide +kernel
theorem dX10_bears_4 : decode cX10_bears 4 = .ok (.aload_n 0, 1) := by decide +kernel
theorem dX10_bears_5 : decode cX10_bears 5 = .ok (.getfield 10, 3) := by decide +kernel
theorem dX10_bears_8 : decode cX10_bears 8 = .ok (.invokevirtual 231, 3) := by decide +kernel
theorem dX10_bears_11 : decode cX10_bears 11 = .ok (.lconst 0, 1) := by decide +kernel
theorem dX10_bears_12 : decode cX10_bears 12 = .ok (.lcmp, 1) := by decide +kernel
theorem dX10_bears_13 : decode cX10_bears 13 = .ok (.ifCond .eq 5, 3) := by decide +kernel
theorem dX10_bears_16 : decode cX10_bears 16 = .ok (.iconst 0, 1) := by decide +kernel
theorem dX10_bears_17 : decode cX10_bears 17 = .ok (.ireturn, 1) := by decide +kernel
theorem dX10_bears_18 : decode cX10_bears 18 = .ok (.iconst 0, 1) := by decide +kernel
theorem dX10_bears_19 : decode cX10_bears 19 = .ok (.istore_n 1, 1) := by decide +kernel
theorem dX10_bears_20 : decode cX10_bears 20 = .ok (.iload_n 1, 1) := by decide +kernel
theorem dX10_bears_21 : decode cX10_bears 21 = .ok (.aload_n 0, 1) := by decide +kernel
theorem dX10_bears_22 : decode cX10_bears 22 = .ok (.getfield 10, 3) := by decide +kernel
theorem dX10_bears_25 : decode cX10_bears 25 = .ok (.getfield 75, 3) := by decide +kernel
theorem dX10_bears_28 : decode cX10_bears 28 = .ok (.if_icmp .ge 29, 3) := by decide +kernel
theorem dX10_bears_31 : decode cX10_bears 31 = .ok (.aload_n 0, 1) := by decide +kernel
theorem dX10_bears_32 : decode cX10_bears 32 = .ok (.getfield 29, 3) := by decide +kernel
theorem dX10_bears_35 : decode cX10_bears 35 = .ok (.aload_n 0, 1) := by decide +kernel
theorem dX10_bears_36 : decode cX10_bears 36 = .ok (.getfield 10, 3) := by decide +kernel
theorem dX10_bears_39 : decode cX10_bears 39 = .ok (.iload_n 1, 1) := by decide +kernel
theorem dX10_bears_40 : decode cX10_bears 40 = .ok (.iconst 0, 1) := by decide +kernel
theorem dX10_bears_41 : decode cX10_bears 41 = .ok (.invokevirtual 293, 3) := by decide +kernel
theorem dX10_bears_44 : decode cX10_bears 44 = .ok (.lconst 0, 1) := by decide +kernel
theorem dX10_bears_45 : decode cX10_bears 45 = .ok (.lcmp, 1) := by decide +kernel
theorem dX10_bears_46 : decode cX10_bears 46 = .ok (.ifCond .eq 5, 3) := by decide +kernel
theorem dX10_bears_49 : decode cX10_bears 49 = .ok (.iconst 0, 1) := by decide +kernel
theorem dX10_bears_50 : decode cX10_bears 50 = .ok (.ireturn, 1) := by decide +kernel
theorem dX10_bears_51 : decode cX10_bears 51 = .ok (.iinc 1 1, 3) := by decide +kernel
theorem dX10_bears_54 : decode cX10_bears 54 = .ok (.goto (-34), 3) := by decide +kernel
theorem dX10_bears_57 : decode cX10_bears 57 = .ok (.iconst 1, 1) := by decide +kernel
theorem dX10_bears_58 : decode cX10_bears 58 = .ok (.ireturn, 1) := by decide +kernel
theorem dX10_far_0 : decode cX10_far 0 = .ok (.iload_n 1, 1) := by decide +kernel
theorem dX10_far_1 : decode cX10_far 1 = .ok (.invokestatic 308, 3) := by decide +kernel
theorem dX10_far_4 : decode cX10_far 4 = .ok (.aload_n 0, 1) := by decide +kernel
theorem dX10_far_5 : decode cX10_far 5 = .ok (.iload_n 2, 1) := by decide +kernel
theorem dX10_far_6 : decode cX10_far 6 = .ok (.invokevirtual 215, 3) := by decide +kernel
theorem dX10_far_9 : decode cX10_far 9 = .ok (.istore_n 3, 1) := by decide +kernel
theorem dX10_far_10 : decode cX10_far 10 = .ok (.aload_n 0, 1) := by decide +kernel
theorem dX10_far_11 : decode cX10_far 11 = .ok (.getfield 57, 3) := by decide +kernel
theorem dX10_far_14 : decode cX10_far 14 = .ok (.iload_n 1, 1) := by decide +kernel
theorem dX10_far_15 : decode cX10_far 15 = .ok (.iload_n 3, 1) := by decide +kernel
theorem dX10_far_16 : decode cX10_far 16 = .ok (.aload_n 0, 1) := by decide +kernel
theorem dX10_far_17 : decode cX10_far 17 = .ok (.getfield 10, 3) := by decide +kernel
theorem dX10_far_20 : decode cX10_far 20 = .ok (.getfield 109, 3) := by decide +kernel
theorem dX10_far_23 : decode cX10_far 23 = .ok (.invokevirtual 311, 3) := by decide +kernel
theorem dX10_far_26 : decode cX10_far 26 = .ok (.ireturn, 1) := by decide +kernel
theorem dX10_step_0 : decode cX10_step 0 = .ok (.iload_n 1, 1) := by decide +kernel
theorem dX10_step_1 : decode cX10_step 1 = .ok (.invokestatic 308, 3) := by decide +kernel
theorem dX10_step_4 : decode cX10_step 4 = .ok (.aload_n 0, 1) := by decide +kernel
theorem dX10_step_5 : decode cX10_step 5 = .ok (.iload_n 2, 1) := by decide +kernel
theorem dX10_step_6 : decode cX10_step 6 = .ok (.invokevirtual 215, 3) := by decide +kernel
theorem dX10_step_9 : decode cX10_step 9 = .ok (.istore_n 3, 1) := by decide +kernel
theorem dX10_step_10 : decode cX10_step 10 = .ok (.aload_n 0, 1) := by decide +kernel
theorem dX10_step_11 : decode cX10_step 11 = .ok (.getfield 57, 3) := by decide +kernel
theorem dX10_step_14 : decode cX10_step 14 = .ok (.iload_n 1, 1) := by decide +kernel
theorem dX10_step_15 : decode cX10_step 15 = .ok (.iload_n 3, 1) := by decide +kernel
theorem dX10_step_16 : decode cX10_step 16 = .ok (.aload_n 0, 1) := by decide +kernel
theorem dX10_step_17 : decode cX10_step 17 = .ok (.getfield 10, 3) := by decide +kernel
theorem dX10_step_20 : decode cX10_step 20 = .ok (.getfield 109, 3) := by decide +kernel
theorem dX10_step_23 : decode cX10_step 23 = .ok (.invokevirtual 315, 3) := by decide +kernel
theorem dX10_step_26 : decode cX10_step 26 = .ok (.ireturn, 1) := by decide +kernel
theorem dX10_manyFar_0 : decode cX10_manyFar 0 = .ok (.iload_n 1, 1) := by decide +kernel
theorem dX10_manyFar_1 : decode cX10_manyFar 1 = .ok (.invokestatic 308, 3) := by decide +kernel
theorem dX10_manyFar_4 : decode cX10_manyFar 4 = .ok (.iload_n 2, 1) := by decide +kernel
theorem dX10_manyFar_5 : decode cX10_manyFar 5 = .ok (.ifCond .ge 14, 3) := by decide +kernel
theorem dX10_manyFar_8 : decode cX10_manyFar 8 = .ok (.new 68, 3) := by decide +kernel
theorem dX10_manyFar_11 : decode cX10_manyFar 11 = .ok (.dup, 1) := by decide +kernel
theorem dX10_manyFar_12 : decode cX10_manyFar 12 = .ok (.ldc_w 318, 3) := by decide +kernel
theorem dX10_manyFar_15 : decode cX10_manyFar 15 = .ok (.invokespecial 72, 3) := by decide +kernel
theorem dX10_manyFar_18 : decode cX10_manyFar 18 = .ok (.athrow, 1) := by decide +kernel
theorem dX10_manyFar_19 : decode cX10_manyFar 19 = .ok (.aload_n 0, 1) := by decide +kernel
theorem dX10_manyFar_20 : decode cX10_manyFar 20 = .ok (.getfield 57, 3) := by decide +kernel
theorem dX10_manyFar_23 : decode cX10_manyFar 23 = .ok (.iload_n 1, 1) := by decide +kernel
theorem dX10_manyFar_24 : decode cX10_manyFar 24 = .ok (.iload_n 2, 1) := by decide +kernel
theorem dX10_manyFar_25 : decode cX10_manyFar 25 = .ok (.aload_n 0, 1) := by decide +kernel
theorem dX10_manyFar_26 : decode cX10_manyFar 26 = .ok (.getfield 10, 3) := by decide +kernel
theorem dX10_manyFar_29 : decode cX10_manyFar 29 = .ok (.getfield 109, 3) := by decide +kernel
theorem dX10_manyFar_32 : decode cX10_manyFar 32 = .ok (.invokevirtual 320, 3) := by decide +kernel
theorem dX10_manyFar_35 : decode cX10_manyFar 35 = .ok (.ireturn, 1) := by decide +kernel
theorem dX10_ask_0 : decode cX10_ask 0 = .ok (.aload_n 0, 1) := by decide +kernel
theorem dX10_ask_1 : decode cX10_ask 1 = .ok (.iload_n 1, 1) := by decide +kernel
theorem dX10_ask_2 : decode cX10_ask 2 = .ok (.iload_n 2, 1) := by decide +kernel
theorem dX10_ask_3 : decode cX10_ask 3 = .ok (.invokevirtual 89, 3) := by decide +kernel
theorem dX10_ask_6 : decode cX10_ask 6 = .ok (.aload_n 0, 1) := by decide +kernel
theorem dX10_ask_7 : decode cX10_ask 7 = .ok (.getfield 64, 3) := by decide +kernel
theorem dX10_ask_10 : decode cX10_ask 10 = .ok (.iload_n 1, 1) := by decide +kernel
theorem dX10_ask_11 : decode cX10_ask 11 = .ok (.iload_n 2, 1) := by decide +kernel
theorem dX10_ask_12 : decode cX10_ask 12 = .ok (.aload_n 0, 1) := by decide +kernel
theorem dX10_ask_13 : decode cX10_ask 13 = .ok (.getfield 10, 3) := by decide +kernel
theorem dX10_ask_16 : decode cX10_ask 16 = .ok (.getfield 109, 3) := by decide +kernel
theorem dX10_ask_19 : decode cX10_ask 19 = .ok (.invokevirtual 323, 3) := by decide +kernel
theorem dX10_ask_22 : decode cX10_ask 22 = .ok (.ireturn, 1) := by decide +kernel
theorem dX10_left_0 : decode cX10_left 0 = .ok (.aload_n 0, 1) := by decide +kernel
theorem dX10_left_1 : decode cX10_left 1 = .ok (.getfield 64, 3) := by decide +kernel
theorem dX10_left_4 : decode cX10_left 4 = .ok (.aload_n 0, 1) := by decide +kernel
theorem dX10_left_5 : decode cX10_left 5 = .ok (.getfield 10, 3) := by decide +kernel
theorem dX10_left_8 : decode cX10_left 8 = .ok (.getfield 109, 3) := by decide +kernel
theorem dX10_left_11 : decode cX10_left 11 = .ok (.invokevirtual 327, 3) := by decide +kernel
theorem dX10_left_14 : decode cX10_left 14 = .ok (.ireturn, 1) := by decide +kernel
theorem dX10_needed_0 : decode cX10_needed 0 = .ok (.aload_n 0, 1) := by decide +kernel
theorem dX10_needed_1 : decode cX10_needed 1 = .ok (.getfield 10, 3) := by decide +kernel
theorem dX10_needed_4 : decode cX10_needed 4 = .ok (.getfield 109, 3) := by decide +kernel
theorem dX10_needed_7 : decode cX10_needed 7 = .ok (.iconst 4, 1) := by decide +kernel
theorem dX10_needed_8 : decode cX10_needed 8 = .ok (.if_icmp .le 5, 3) := by decide +kernel
theorem dX10_needed_11 : decode cX10_needed 11 = .ok (.iconst (-1), 1) := by decide +kernel
theorem dX10_needed_12 : decode cX10_needed 12 = .ok (.ireturn, 1) := by decide +kernel
theorem dX10_needed_13 : decode cX10_needed 13 = .ok (.aload_n 0, 1) := by decide +kernel
theorem dX10_needed_14 : decode cX10_needed 14 = .ok (.getfield 64, 3) := by decide +kernel
theorem dX10_needed_17 : decode cX10_needed 17 = .ok (.aload_n 0, 1) := by decide +kernel
theorem dX10_needed_18 : decode cX10_needed 18 = .ok (.getfield 10, 3) := by decide +kernel
theorem dX10_needed_21 : decode cX10_needed 21 = .ok (.getfield 109, 3) := by decide +kernel
theorem dX10_needed_24 : decode cX10_needed 24 = .ok (.invokevirtual 330, 3) := by decide +kernel
theorem dX10_needed_27 : decode cX10_needed 27 = .ok (.ireturn, 1) := by decide +kernel
theorem dX10_forgetWhatDependsOnComparators_0 : decode cX10_forgetWhatDependsOnComparators 0 = .ok (.aload_n 0, 1) := by decide +kernel
theorem dX10_forgetWhatDependsOnComparators_1 : decode cX10_forgetWhatDependsOnComparators 1 = .ok (.getfield 50, 3) := by decide +kernel
theorem dX10_forgetWhatDependsOnComparators_4 : decode cX10_forgetWhatDependsOnComparators 4 = .ok (.invokevirtual 333, 3) := by decide +kernel
theorem dX10_forgetWhatDependsOnComparators_7 : decode cX10_forgetWhatDependsOnComparators 7 = .ok (.aload_n 0, 1) := by decide +kernel
theorem dX10_forgetWhatDependsOnComparators_8 : decode cX10_forgetWhatDependsOnComparators 8 = .ok (.getfield 43, 3) := by decide +kernel
theorem dX10_forgetWhatDependsOnComparators_11 : decode cX10_forgetWhatDependsOnComparators 11 = .ok (.invokevirtual 334, 3) := by decide +kernel
theorem dX10_forgetWhatDependsOnComparators_14 : decode cX10_forgetWhatDependsOnComparators 14 = .ok (.return_, 1) := by decide +kernel
theorem dX10_appendPlan_0 : decode cX10_appendPlan 0 = .ok (.aload_n 0, 1) := by decide +kernel
theorem dX10_appendPlan_1 : decode cX10_appendPlan 1 = .ok (.aload_n 0, 1) := by decide +kernel
theorem dX10_appendPlan_2 : decode cX10_appendPlan 2 = .ok (.getfield 16, 3) := by decide +kernel
theorem dX10_appendPlan_5 : decode cX10_appendPlan 5 = .ok (.getfield 75, 3) := by decide +kernel
theorem dX10_appendPlan_8 : decode cX10_appendPlan 8 = .ok (.invokevirtual 93, 3) := by decide +kernel
theorem dX10_appendPlan_11 : decode cX10_appendPlan 11 = .ok (.iconst 0, 1) := by decide +kernel
theorem dX10_appendPlan_12 : decode cX10_appendPlan 12 = .ok (.istore_n 1, 1) := by decide +kernel
theorem dX10_appendPlan_13 : decode cX10_appendPlan 13 = .ok (.iload_n 1, 1) := by decide +kernel
theorem dX10_appendPlan_14 : decode cX10_appendPlan 14 = .ok (.aload_n 0, 1) := by decide +kernel
theorem dX10_appendPlan_15 : decode cX10_appendPlan 15 = .ok (.getfield 16, 3) := by decide +kernel
theorem dX10_appendPlan_18 : decode cX10_appendPlan 18 = .ok (.getfield 75, 3) := by decide +kernel
theorem dX10_appendPlan_21 : decode cX10_appendPlan 21 = .ok (.if_icmp .ge 34, 3) := by decide +kernel
theorem dX10_appendPlan_24 : decode cX10_appendPlan 24 = .ok (.aload_n 0, 1) := by decide +kernel
theorem dX10_appendPlan_25 : decode cX10_appendPlan 25 = .ok (.getfield 10, 3) := by decide +kernel
theorem dX10_appendPlan_28 : decode cX10_appendPlan 28 = .ok (.aload_n 0, 1) := by decide +kernel
theorem dX10_appendPlan_29 : decode cX10_appendPlan 29 = .ok (.getfield 16, 3) := by decide +kernel
theorem dX10_appendPlan_32 : decode cX10_appendPlan 32 = .ok (.getfield 152, 3) := by decide +kernel
theorem dX10_appendPlan_35 : decode cX10_appendPlan 35 = .ok (.iload_n 1, 1) := by decide +kernel
theorem dX10_appendPlan_36 : decode cX10_appendPlan 36 = .ok (.iaload, 1) := by decide +kernel
theorem dX10_appendPlan_37 : decode cX10_appendPlan 37 = .ok (.aload_n 0, 1) := by decide +kernel
theorem dX10_appendPlan_38 : decode cX10_appendPlan 38 = .ok (.getfield 16, 3) := by decide +kernel
theorem dX10_appendPlan_41 : decode cX10_appendPlan 41 = .ok (.getfield 156, 3) := by decide +kernel
theorem dX10_appendPlan_44 : decode cX10_appendPlan 44 = .ok (.iload_n 1, 1) := by decide +kernel
theorem dX10_appendPlan_45 : decode cX10_appendPlan 45 = .ok (.iaload, 1) := by decide +kernel
theorem dX10_appendPlan_46 : decode cX10_appendPlan 46 = .ok (.invokevirtual 96, 3) := by decide +kernel
theorem dX10_appendPlan_49 : decode cX10_appendPlan 49 = .ok (.iinc 1 1, 3) := by decide +kernel
theorem dX10_appendPlan_52 : decode cX10_appendPlan 52 = .ok (.goto (-39), 3) := by decide +kernel
theorem dX10_appendPlan_55 : decode cX10_appendPlan 55 = .ok (.aload_n 0, 1) := by decide +kernel
theorem dX10_appendPlan_56 : decode cX10_appendPlan 56 = .ok (.invokevirtual 86, 3) := by decide +kernel
theorem dX10_appendPlan_59 : decode cX10_appendPlan 59 = .ok (.aload_n 0, 1) := by decide +kernel
theorem dX10_appendPlan_60 : decode cX10_appendPlan 60 = .ok (.getfield 16, 3) := by decide +kernel
theorem dX10_appendPlan_63 : decode cX10_appendPlan 63 = .ok (.getfield 75, 3) := by decide +kernel
theorem dX10_appendPlan_66 : decode cX10_appendPlan 66 = .ok (.ireturn, 1) := by decide +kernel
theorem dX10_checkRoomFor_0 : decode cX10_checkRoomFor 0 = .ok (.aload_n 0, 1) := by decide +kernel
theorem dX10_checkRoomFor_1 : decode cX10_checkRoomFor 1 = .ok (.getfield 10, 3) := by decide +kernel
theorem dX10_checkRoomFor_4 : decode cX10_checkRoomFor 4 = .ok (.getfield 75, 3) := by decide +kernel
theorem dX10_checkRoomFor_7 : decode cX10_checkRoomFor 7 = .ok (.bipush 24, 2) := by decide +kernel
theorem dX10_checkRoomFor_9 : decode cX10_checkRoomFor 9 = .ok (.iload_n 1, 1) := by decide +kernel
theorem dX10_checkRoomFor_10 : decode cX10_checkRoomFor 10 = .ok (.isub, 1) := by decide +kernel
theorem dX10_checkRoomFor_11 : decode cX10_checkRoomFor 11 = .ok (.if_icmp .le 14, 3) := by decide +kernel
theorem dX10_checkRoomFor_14 : decode cX10_checkRoomFor 14 = .ok (.new 99, 3) := by decide +kernel
theorem dX10_checkRoomFor_17 : decode cX10_checkRoomFor 17 = .ok (.dup, 1) := by decide +kernel
theorem dX10_checkRoomFor_18 : decode cX10_checkRoomFor 18 = .ok (.ldc_w 335, 3) := by decide +kernel
theorem dX10_checkRoomFor_21 : decode cX10_checkRoomFor 21 = .ok (.invokespecial 103, 3) := by decide +kernel
theorem dX10_checkRoomFor_24 : decode cX10_checkRoomFor 24 = .ok (.athrow, 1) := by decide +kernel
theorem dX10_checkRoomFor_25 : decode cX10_checkRoomFor 25 = .ok (.return_, 1) := by decide +kernel
theorem dX10_checkWire_0 : decode cX10_checkWire 0 = .ok (.iload_n 1, 1) := by decide +kernel
theorem dX10_checkWire_1 : decode cX10_checkWire 1 = .ok (.ifCond .lt 14, 3) := by decide +kernel
theorem dX10_checkWire_4 : decode cX10_checkWire 4 = .ok (.iload_n 1, 1) := by decide +kernel
theorem dX10_checkWire_5 : decode cX10_checkWire 5 = .ok (.aload_n 0, 1) := by decide +kernel
theorem dX10_checkWire_6 : decode cX10_checkWire 6 = .ok (.getfield 10, 3) := by decide +kernel
theorem dX10_checkWire_9 : decode cX10_checkWire 9 = .ok (.getfield 109, 3) := by decide +kernel
theorem dX10_checkWire_12 : decode cX10_checkWire 12 = .ok (.if_icmp .lt 14, 3) := by decide +kernel
theorem dX10_checkWire_15 : decode cX10_checkWire 15 = .ok (.new 247, 3) := by decide +kernel
theorem dX10_checkWire_18 : decode cX10_checkWire 18 = .ok (.dup, 1) := by decide +kernel
theorem dX10_checkWire_19 : decode cX10_checkWire 19 = .ok (.ldc_w 337, 3) := by decide +kernel
theorem dX10_checkWire_22 : decode cX10_checkWire 22 = .ok (.invokespecial 251, 3) := by decide +kernel
theorem dX10_checkWire_25 : decode cX10_checkWire 25 = .ok (.athrow, 1) := by decide +kernel
theorem dX10_checkWire_26 : decode cX10_checkWire 26 = .ok (.return_, 1) := by decide +kernel
theorem dX10_checkTwoWires_0 : decode cX10_checkTwoWires 0 = .ok (.aload_n 0, 1) := by decide +kernel
theorem dX10_checkTwoWires_1 : decode cX10_checkTwoWires 1 = .ok (.iload_n 1, 1) := by decide +kernel
theorem dX10_checkTwoWires_2 : decode cX10_checkTwoWires 2 = .ok (.invokevirtual 269, 3) := by decide +kernel
theorem dX10_checkTwoWires_5 : decode cX10_checkTwoWires 5 = .ok (.aload_n 0, 1) := by decide +kernel
theorem dX10_checkTwoWires_6 : decode cX10_checkTwoWires 6 = .ok (.iload_n 2, 1) := by decide +kernel
theorem dX10_checkTwoWires_7 : decode cX10_checkTwoWires 7 = .ok (.invokevirtual 269, 3) := by decide +kernel
theorem dX10_checkTwoWires_10 : decode cX10_checkTwoWires 10 = .ok (.iload_n 1, 1) := by decide +kernel
theorem dX10_checkTwoWires_11 : decode cX10_checkTwoWires 11 = .ok (.iload_n 2, 1) := by decide +kernel
theorem dX10_checkTwoWires_12 : decode cX10_checkTwoWires 12 = .ok (.if_icmp .ne 14, 3) := by decide +kernel
theorem dX10_checkTwoWires_15 : decode cX10_checkTwoWires 15 = .ok (.new 68, 3) := by decide +kernel
theorem dX10_checkTwoWires_18 : decode cX10_checkTwoWires 18 = .ok (.dup, 1) := by decide +kernel
theorem dX10_checkTwoWires_19 : decode cX10_checkTwoWires 19 = .ok (.ldc_w 339, 3) := by decide +kernel
theorem dX10_checkTwoWires_22 : decode cX10_checkTwoWires 22 = .ok (.invokespecial 72, 3) := by decide +kernel
theorem dX10_checkTwoWires_25 : decode cX10_checkTwoWires 25 = .ok (.athrow, 1) := by decide +kernel
theorem dX10_checkTwoWires_26 : decode cX10_checkTwoWires 26 = .ok (.return_, 1) := by decide +kernel
theorem dX10_checkComparator_0 : decode cX10_checkComparator 0 = .ok (.iload_n 1, 1) := by decide +kernel
theorem dX10_checkComparator_1 : decode cX10_checkComparator 1 = .ok (.ifCond .lt 14, 3) := by decide +kernel
theorem dX10_checkComparator_4 : decode cX10_checkComparator 4 = .ok (.iload_n 1, 1) := by decide +kernel
theorem dX10_checkComparator_5 : decode cX10_checkComparator 5 = .ok (.aload_n 0, 1) := by decide +kernel
theorem dX10_checkComparator_6 : decode cX10_checkComparator 6 = .ok (.getfield 10, 3) := by decide +kernel
theorem dX10_checkComparator_9 : decode cX10_checkComparator 9 = .ok (.getfield 75, 3) := by decide +kernel
theorem dX10_checkComparator_12 : decode cX10_checkComparator 12 = .ok (.if_icmp .lt 14, 3) := by decide +kernel
theorem dX10_checkComparator_15 : decode cX10_checkComparator 15 = .ok (.new 247, 3) := by decide +kernel
theorem dX10_checkComparator_18 : decode cX10_checkComparator 18 = .ok (.dup, 1) := by decide +kernel
theorem dX10_checkComparator_19 : decode cX10_checkComparator 19 = .ok (.ldc_w 341, 3) := by decide +kernel
theorem dX10_checkComparator_22 : decode cX10_checkComparator 22 = .ok (.invokespecial 251, 3) := by decide +kernel
theorem dX10_checkComparator_25 : decode cX10_checkComparator 25 = .ok (.athrow, 1) := by decide +kernel
theorem dX10_checkComparator_26 : decode cX10_checkComparator 26 = .ok (.return_, 1) := by decide +kernel
theorem dX10_checkPlace_0 : decode cX10_checkPlace 0 = .ok (.iload_n 0, 1) := by decide +kernel
theorem dX10_checkPlace_1 : decode cX10_checkPlace 1 = .ok (.ifCond .ge 14, 3) := by decide +kernel
theorem dX10_checkPlace_4 : decode cX10_checkPlace 4 = .ok (.new 247, 3) := by decide +kernel
theorem dX10_checkPlace_7 : decode cX10_checkPlace 7 = .ok (.dup, 1) := by decide +kernel
theorem dX10_checkPlace_8 : decode cX10_checkPlace 8 = .ok (.ldc_w 343, 3) := by decide +kernel
theorem dX10_checkPlace_11 : decode cX10_checkPlace 11 = .ok (.invokespecial 251, 3) := by decide +kernel
theorem dX10_checkPlace_14 : decode cX10_checkPlace 14 = .ok (.athrow, 1) := by decide +kernel
theorem dX10_checkPlace_15 : decode cX10_checkPlace 15 = .ok (.return_, 1) := by decide +kernel
theorem dX10_checkFault_0 : decode cX10_checkFault 0 = .ok (.iload_n 0, 1) := by decide +kernel
theorem dX10_checkFault_1 : decode cX10_checkFault 1 = .ok (.ifCond .lt 8, 3) := by decide +kernel
theorem dX10_checkFault_4 : decode cX10_checkFault 4 = .ok (.iload_n 0, 1) := by decide +kernel
theorem dX10_checkFault_5 : decode cX10_checkFault 5 = .ok (.iconst 2, 1) := by decide +kernel
theorem dX10_checkFault_6 : decode cX10_checkFault 6 = .ok (.if_icmp .le 14, 3) := by decide +kernel
theorem dX10_checkFault_9 : decode cX10_checkFault 9 = .ok (.new 68, 3) := by decide +kernel
theorem dX10_checkFault_12 : decode cX10_checkFault 12 = .ok (.dup, 1) := by decide +kernel
theorem dX10_checkFault_13 : decode cX10_checkFault 13 = .ok (.ldc_w 345, 3) := by decide +kernel
theorem dX10_checkFault_16 : decode cX10_checkFault 16 = .ok (.invokespecial 72, 3) := by decide +kernel
theorem dX10_checkFault_19 : decode cX10_checkFault 19 = .ok (.athrow, 1) := by decide +kernel
theorem dX10_checkFault_20 : decode cX10_checkFault 20 = .ok (.return_, 1) := by decide +kernel
theorem dX10_checkSteps_0 : decode cX10_checkSteps 0 = .ok (.iload_n 0, 1) := by decide +kernel
theorem dX10_checkSteps_1 : decode cX10_checkSteps 1 = .ok (.ifCond .lt 8, 3) := by decide +kernel
theorem dX10_checkSteps_4 : decode cX10_checkSteps 4 = .ok (.iload_n 0, 1) := by decide +kernel
theorem dX10_checkSteps_5 : decode cX10_checkSteps 5 = .ok (.iconst 3, 1) := by decide +kernel
theorem dX10_checkSteps_6 : decode cX10_checkSteps 6 = .ok (.if_icmp .le 14, 3) := by decide +kernel
theorem dX10_checkSteps_9 : decode cX10_checkSteps 9 = .ok (.new 68, 3) := by decide +kernel
theorem dX10_checkSteps_12 : decode cX10_checkSteps 12 = .ok (.dup, 1) := by decide +kernel
theorem dX10_checkSteps_13 : decode cX10_checkSteps 13 = .ok (.ldc_w 347, 3) := by decide +kernel
theorem dX10_checkSteps_16 : decode cX10_checkSteps 16 = .ok (.invokespecial 72, 3) := by decide +kernel
theorem dX10_checkSteps_19 : decode cX10_checkSteps 19 = .ok (.athrow, 1) := by decide +kernel
theorem dX10_checkSteps_20 : decode cX10_checkSteps 20 = .ok (.return_, 1) := by decide +kernel
theorem dX10_rowOf_0 : decode cX10_rowOf 0 = .ok (.iload_n 1, 1) := by decide +kernel
theorem dX10_rowOf_1 : decode cX10_rowOf 1 = .ok (.aload_n 0, 1) := by decide +kernel
theorem dX10_rowOf_2 : decode cX10_rowOf 2 = .ok (.getfield 10, 3) := by decide +kernel
theorem dX10_rowOf_5 : decode cX10_rowOf 5 = .ok (.getfield 109, 3) := by decide +kernel
theorem dX10_rowOf_8 : decode cX10_rowOf 8 = .ok (.invokestatic 349, 3) := by decide +kernel
theorem dX10_rowOf_11 : decode cX10_rowOf 11 = .ok (.istore_n 2, 1) := by decide +kernel
theorem dX10_rowOf_12 : decode cX10_rowOf 12 = .ok (.iload_n 2, 1) := by decide +kernel
theorem dX10_rowOf_13 : decode cX10_rowOf 13 = .ok (.iconst (-1), 1) := by decide +kernel
theorem dX10_rowOf_14 : decode cX10_rowOf 14 = .ok (.if_icmp .ne 14, 3) := by decide +kernel
theorem dX10_rowOf_17 : decode cX10_rowOf 17 = .ok (.new 68, 3) := by decide +kernel
theorem dX10_rowOf_20 : decode cX10_rowOf 20 = .ok (.dup, 1) := by decide +kernel
theorem dX10_rowOf_21 : decode cX10_rowOf 21 = .ok (.ldc_w 352, 3) := by decide +kernel
theorem dX10_rowOf_24 : decode cX10_rowOf 24 = .ok (.invokespecial 72, 3) := by decide +kernel
theorem dX10_rowOf_27 : decode cX10_rowOf 27 = .ok (.athrow, 1) := by decide +kernel
theorem dX10_rowOf_28 : decode cX10_rowOf 28 = .ok (.iload_n 2, 1) := by decide +kernel
theorem dX10_rowOf_29 : decode cX10_rowOf 29 = .ok (.ireturn, 1) := by decide +kernel
theorem dX11_init_0 : decode cX11_init 0 = .ok (.aload_n 0, 1) := by decide +kernel
theorem dX11_init_1 : decode cX11_init 1 = .ok (.invokespecial 1, 3) := by decide +kernel
theorem dX11_init_4 : decode cX11_init 4 = .ok (.aload_n 0, 1) := by decide +kernel
theorem dX11_init_5 : decode cX11_init 5 = .ok (.bipush 25, 2) := by decide +kernel
theorem dX11_init_7 : decode cX11_init 7 = .ok (.newarray .int, 2) := by decide +kernel
theorem dX11_init_9 : decode cX11_init 9 = .ok (.putfield 7, 3) := by decide +kernel
theorem dX11_init_12 : decode cX11_init 12 = .ok (.aload_n 0, 1) := by decide +kernel
theorem dX11_init_13 : decode cX11_init 13 = .ok (.bipush 25, 2) := by decide +kernel
theorem dX11_init_15 : decode cX11_init 15 = .ok (.newarray .int, 2) := by decide +kernel
theorem dX11_init_17 : decode cX11_init 17 = .ok (.putfield 13, 3) := by decide +kernel
theorem dX11_init_20 : decode cX11_init 20 = .ok (.aload_n 0, 1) := by decide +kernel
theorem dX11_init_21 : decode cX11_init 21 = .ok (.bipush 25, 2) := by decide +kernel
theorem dX11_init_23 : decode cX11_init 23 = .ok (.newarray .int, 2) := by decide +kernel
theorem dX11_init_25 : decode cX11_init 25 = .ok (.putfield 16, 3) := by decide +kernel
theorem dX11_init_28 : decode cX11_init 28 = .ok (.aload_n 0, 1) := by decide +kernel
theorem dX11_init_29 : decode cX11_init 29 = .ok (.sipush 4320, 3) := by decide +kernel
theorem dX11_init_32 : decode cX11_init 32 = .ok (.newarray .int, 2) := by decide +kernel
theorem dX11_init_34 : decode cX11_init 34 = .ok (.putfield 19, 3) := by decide +kernel
theorem dX11_init_37 : decode cX11_init 37 = .ok (.aload_n 0, 1) := by decide +kernel
theorem dX11_init_38 : decode cX11_init 38 = .ok (.bipush 6, 2) := by decide +kernel
theorem dX11_init_40 : decode cX11_init 40 = .ok (.newarray .int, 2) := by decide +kernel
theorem dX11_init_42 : decode cX11_init 42 = .ok (.putfield 22, 3) := by decide +kernel
theorem dX11_init_45 : decode cX11_init 45 = .ok (.aload_n 0, 1) := by decide +kernel
theorem dX11_init_46 : decode cX11_init 46 = .ok (.bipush 6, 2) := by decide +kernel
theorem dX11_init_48 : decode cX11_init 48 = .ok (.newarray .int, 2) := by decide +kernel
theorem dX11_init_50 : decode cX11_init 50 = .ok (.putfield 25, 3) := by decide +kernel
theorem dX11_init_53 : decode cX11_init 53 = .ok (.aload_n 0, 1) := by decide +kernel
theorem dX11_init_54 : decode cX11_init 54 = .ok (.bipush 25, 2) := by decide +kernel
theorem dX11_init_56 : decode cX11_init 56 = .ok (.newarray .int, 2) := by decide +kernel
theorem dX11_init_58 : decode cX11_init 58 = .ok (.putfield 28, 3) := by decide +kernel
theorem dX11_init_61 : decode cX11_init 61 = .ok (.aload_n 0, 1) := by decide +kernel
theorem dX11_init_62 : decode cX11_init 62 = .ok (.bipush 40, 2) := by decide +kernel
theorem dX11_init_64 : decode cX11_init 64 = .ok (.newarray .int, 2) := by decide +kernel
theorem dX11_init_66 : decode cX11_init 66 = .ok (.putfield 31, 3) := by decide +kernel
theorem dX11_init_69 : decode cX11_init 69 = .ok (.aload_n 0, 1) := by decide +kernel
theorem dX11_init_70 : decode cX11_init 70 = .ok (.bipush 25, 2) := by decide +kernel
theorem dX11_init_72 : decode cX11_init 72 = .ok (.newarray .boolean, 2) := by decide +kernel
theorem dX11_init_74 : decode cX11_init 74 = .ok (.putfield 34, 3) := by decide +kernel
theorem dX11_init_77 : decode cX11_init 77 = .ok (.aload_n 0, 1) := by decide +kernel
theorem dX11_init_78 : decode cX11_init 78 = .ok (.bipush 6, 2) := by decide +kernel
theorem dX11_init_80 : decode cX11_init 80 = .ok (.newarray .int, 2) := by decide +kernel
theorem dX11_init_82 : decode cX11_init 82 = .ok (.putfield 38, 3) := by decide +kernel
theorem dX11_init_85 : decode cX11_init 85 = .ok (.aload_n 0, 1) := by decide +kernel
theorem dX11_init_86 : decode cX11_init 86 = .ok (.sipush 18720, 3) := by decide +kernel
theorem dX11_init_89 : decode cX11_init 89 = .ok (.newarray .boolean, 2) := by decide +kernel
theorem dX11_init_91 : decode cX11_init 91 = .ok (.putfield 41, 3) := by decide +kernel
theorem dX11_init_94 : decode cX11_init 94 = .ok (.aload_n 0, 1) := by decide +kernel
theorem dX11_init_95 : decode cX11_init 95 = .ok (.sipush 720, 3) := by decide +kernel
theorem dX11_init_98 : decode cX11_init 98 = .ok (.newarray .int, 2) := by decide +kernel
theorem dX11_init_100 : decode cX11_init 100 = .ok (.putfield 44, 3) := by decide +kernel
theorem dX11_init_103 : decode cX11_init 103 = .ok (.aload_n 0, 1) := by decide +kernel
theorem dX11_init_104 : decode cX11_init 104 = .ok (.sipush 720, 3) := by decide +kernel
theorem dX11_init_107 : decode cX11_init 107 = .ok (.newarray .int, 2) := by decide +kernel
theorem dX11_init_109 : decode cX11_init 109 = .ok (.putfield 47, 3) := by decide +kernel
theorem dX11_init_112 : decode cX11_init 112 = .ok (.aload_n 0, 1) := by decide +kernel
theorem dX11_init_113 : decode cX11_init 113 = .ok (.sipush 720, 3) := by decide +kernel
theorem dX11_init_116 : decode cX11_init 116 = .ok (.newarray .boolean, 2) := by decide +kernel
theorem dX11_init_118 : decode cX11_init 118 = .ok (.putfield 50, 3) := by decide +kernel
theorem dX11_init_121 : decode cX11_init 121 = .ok (.aload_n 0, 1) := by decide +kernel
theorem dX11_init_122 : decode cX11_init 122 = .ok (.bipush 64, 2) := by decide +kernel
theorem dX11_init_124 : decode cX11_init 124 = .ok (.newarray .long, 2) := by decide +kernel
theorem dX11_init_126 : decode cX11_init 126 = .ok (.putfield 53, 3) := by decide +kernel
theorem dX11_init_129 : decode cX11_init 129 = .ok (.aload_n 0, 1) := by decide +kernel
theorem dX11_init_130 : decode cX11_init 130 = .ok (.bipush 64, 2) := by decide +kernel
theorem dX11_init_132 : decode cX11_init 132 = .ok (.newarray .long, 2) := by decide +kernel
theorem dX11_init_134 : decode cX11_init 134 = .ok (.putfield 57, 3) := by decide +kernel
theorem dX11_init_137 : decode cX11_init 137 = .ok (.aload_n 0, 1) := by decide +kernel
theorem dX11_init_138 : decode cX11_init 138 = .ok (.sipush 400, 3) := by decide +kernel
theorem dX11_init_141 : decode cX11_init 141 = .ok (.newarray .int, 2) := by decide +kernel
theorem dX11_init_143 : decode cX11_init 143 = .ok (.putfield 60, 3) := by decide +kernel
theorem dX11_init_146 : decode cX11_init 146 = .ok (.aload_n 0, 1) := by decide +kernel
theorem dX11_init_147 : decode cX11_init 147 = .ok (.sipush 400, 3) := by decide +kernel
theorem dX11_init_150 : decode cX11_init 150 = .ok (.newarray .int, 2) := by decide +kernel
theorem dX11_init_152 : decode cX11_init 152 = .ok (.putfield 63, 3) := by decide +kernel
theorem dX11_init_155 : decode cX11_init 155 = .ok (.aload_n 0, 1) := by decide +kernel
theorem dX11_init_156 : decode cX11_init 156 = .ok (.iconst 2, 1) := by decide +kernel
theorem dX11_init_157 : decode cX11_init 157 = .ok (.invokevirtual 66, 3) := by decide +kernel
theorem dX11_init_160 : decode cX11_init 160 = .ok (.return_, 1) := by decide +kernel
theorem dX11_thrown_0 : decode cX11_thrown 0 = .ok (.aload_n 0, 1) := by decide +kernel
theorem dX11_thrown_1 : decode cX11_thrown 1 = .ok (.getfield 70, 3) := by decide +kernel
theorem dX11_thrown_4 : decode cX11_thrown 4 = .ok (.ireturn, 1) := by decide +kernel
theorem dX11_in_0 : decode cX11_in 0 = .ok (.iload_n 0, 1) := by decide +kernel
theorem dX11_in_1 : decode cX11_in 1 = .ok (.iload_n 1, 1) := by decide +kernel
theorem dX11_in_2 : decode cX11_in 2 = .ok (.if_icmp .lt 12, 3) := by decide +kernel
theorem dX11_in_5 : decode cX11_in 5 = .ok (.iload_n 0, 1) := by decide +kernel
theorem dX11_in_6 : decode cX11_in 6 = .ok (.iload_n 2, 1) := by decide +kernel
theorem dX11_in_7 : decode cX11_in 7 = .ok (.if_icmp .gt 7, 3) := by decide +kernel
theorem dX11_in_10 : decode cX11_in 10 = .ok (.iconst 1, 1) := by decide +kernel
theorem dX11_in_11 : decode cX11_in 11 = .ok (.goto 4, 3) := by decide +kernel
theorem dX11_in_14 : decode cX11_in 14 = .ok (.iconst 0, 1) := by decide +kernel
theorem dX11_in_15 : decode cX11_in 15 = .ok (.ireturn, 1) := by decide +kernel
theorem dX11_isWire_0 : decode cX11_isWire 0 = .ok (.iload_n 1, 1) := by decide +kernel
theorem dX11_isWire_1 : decode cX11_isWire 1 = .ok (.iconst 0, 1) := by decide +kernel
theorem dX11_isWire_2 : decode cX11_isWire 2 = .ok (.aload_n 0, 1) := by decide +kernel
theorem dX11_isWire_3 : decode cX11_isWire 3 = .ok (.getfield 74, 3) := by decide +kernel
theorem dX11_isWire_6 : decode cX11_isWire 6 = .ok (.iconst 1, 1) := by decide +kernel
theorem dX11_isWire_7 : decode cX11_isWire 7 = .ok (.isub, 1) := by decide +kernel
theorem dX11_isWire_8 : decode cX11_isWire 8 = .ok (.invokestatic 77, 3) := by decide +kernel
theorem dX11_isWire_11 : decode cX11_isWire 11 = .ok (.ireturn, 1) := by decide +kernel
theorem dX11_isComparator_0 : decode cX11_isComparator 0 = .ok (.iload_n 1, 1) := by decide +kernel
theorem dX11_isComparator_1 : decode cX11_isComparator 1 = .ok (.iconst 0, 1) := by decide +kernel
theorem dX11_isComparator_2 : decode cX11_isComparator 2 = .ok (.aload_n 0, 1) := by decide +kernel
theorem dX11_isComparator_3 : decode cX11_isComparator 3 = .ok (.getfield 81, 3) := by decide +kernel
theorem dX11_isComparator_6 : decode cX11_isComparator 6 = .ok (.iconst 1, 1) := by decide +kernel
theorem dX11_isComparator_7 : decode cX11_isComparator 7 = .ok (.isub, 1) := by decide +kernel
theorem dX11_isComparator_8 : decode cX11_isComparator 8 = .ok (.invokestatic 77, 3) := by decide +kernel
theorem dX11_isComparator_11 : decode cX11_isComparator 11 = .ok (.ireturn, 1) := by decide +kernel
theorem dX11_factorial_0 : decode cX11_factorial 0 = .ok (.iconst 1, 1) := by decide +kernel
theorem dX11_factorial_1 : decode cX11_factorial 1 = .ok (.istore_n 1, 1) := by decide +kernel
theorem dX11_factorial_2 : decode cX11_factorial 2 = .ok (.iconst 2, 1) := by decide +kernel
theorem dX11_factorial_3 : decode cX11_factorial 3 = .ok (.istore_n 2, 1) := by decide +kernel
theorem dX11_factorial_4 : decode cX11_factorial 4 = .ok (.iload_n 2, 1) := by decide +kernel
theorem dX11_factorial_5 : decode cX11_factorial 5 = .ok (.iload_n 0, 1) := by decide +kernel
theorem dX11_factorial_6 : decode cX11_factorial 6 = .ok (.if_icmp .gt 13, 3) := by decide +kernel
theorem dX11_factorial_9 : decode cX11_factorial 9 = .ok (.iload_n 1, 1) := by decide +kernel
theorem dX11_factorial_10 : decode cX11_factorial 10 = .ok (.iload_n 2, 1) := by decide +kernel
theorem dX11_factorial_11 : decode cX11_factorial 11 = .ok (.imul, 1) := by decide +kernel
theorem dX11_factorial_12 : decode cX11_factorial 12 = .ok (.istore_n 1, 1) := by decide +kernel
theorem dX11_factorial_13 : decode cX11_factorial 13 = .ok (.iinc 2 1, 3) := by decide +kernel
theorem dX11_factorial_16 : decode cX11_factorial 16 = .ok (.goto (-12), 3) := by decide +kernel
theorem dX11_factorial_19 : decode cX11_factorial 19 = .ok (.iload_n 1, 1) := by decide +kernel
theorem dX11_factorial_20 : decode cX11_factorial 20 = .ok (.ireturn, 1) := by decide +kernel
theorem dX11_begins_0 : decode cX11_begins 0 = .ok (.aload_n 0, 1) := by decide +kernel
theorem dX11_begins_1 : decode cX11_begins 1 = .ok (.iload_n 1, 1) := by decide +kernel
theorem dX11_begins_2 : decode cX11_begins 2 = .ok (.putfield 74, 3) := by decide +kernel
theorem dX11_begins_5 : decode cX11_begins 5 = .ok (.aload_n 0, 1) := by decide +kernel
theorem dX11_begins_6 : decode cX11_begins 6 = .ok (.iconst 0, 1) := by decide +kernel
theorem dX11_begins_7 : decode cX11_begins 7 = .ok (.putfield 81, 3) := by decide +kernel
theorem dX11_begins_10 : decode cX11_begins 10 = .ok (.aload_n 0, 1) := by decide +kernel
theorem dX11_begins_11 : decode cX11_begins 11 = .ok (.iload_n 1, 1) := by decide +kernel
theorem dX11_begins_12 : decode cX11_begins 12 = .ok (.invokestatic 84, 3) := by decide +kernel
theorem dX11_begins_15 : decode cX11_begins 15 = .ok (.putfield 88, 3) := by decide +kernel
theorem dX11_begins_18 : decode cX11_begins 18 = .ok (.iconst 0, 1) := by decide +kernel
theorem dX11_begins_19 : decode cX11_begins 19 = .ok (.istore_n 2, 1) := by decide +kernel
theorem dX11_begins_20 : decode cX11_begins 20 = .ok (.iload_n 2, 1) := by decide +kernel
theorem dX11_begins_21 : decode cX11_begins 21 = .ok (.aload_n 0, 1) := by decide +kernel
theorem dX11_begins_22 : decode cX11_begins 22 = .ok (.getfield 88, 3) := by decide +kernel
theorem dX11_begins_25 : decode cX11_begins 25 = .ok (.if_icmp .ge 131, 3) := by decide +kernel
theorem dX11_begins_28 : decode cX11_begins 28 = .ok (.iconst 0, 1) := by decide +kernel
theorem dX11_begins_29 : decode cX11_begins 29 = .ok (.istore_n 3, 1) := by decide +kernel
theorem dX11_begins_30 : decode cX11_begins 30 = .ok (.iload_n 3, 1) := by decide +kernel
theorem dX11_begins_31 : decode cX11_begins 31 = .ok (.iload_n 1, 1) := by decide +kernel
theorem dX11_begins_32 : decode cX11_begins 32 = .ok (.if_icmp .ge 16, 3) := by decide +kernel
theorem dX11_begins_35 : decode cX11_begins 35 = .ok (.aload_n 0, 1) := by decide +kernel
theorem dX11_begins_36 : decode cX11_begins 36 = .ok (.getfield 25, 3) := by decide +kernel
theorem dX11_begins_39 : decode cX11_begins 39 = .ok (.iload_n 3, 1) := by decide +kernel
theorem dX11_begins_40 : decode cX11_begins 40 = .ok (.iload_n 3, 1) := by decide +kernel
theorem dX11_begins_41 : decode cX11_begins 41 = .ok (.iastore, 1) := by decide +kernel
theorem dX11_begins_42 : decode cX11_begins 42 = .ok (.iinc 3 1, 3) := by decide +kernel
theorem dX11_begins_45 : decode cX11_begins 45 = .ok (.goto (-15), 3) := by decide +kernel
theorem dX11_begins_48 : decode cX11_begins 48 = .ok (.iload_n 2, 1) := by decide +kernel
theorem dX11_begins_49 : decode cX11_begins 49 = .ok (.istore_n 3, 1) := by decide +kernel
theorem dX11_begins_50 : decode cX11_begins 50 = .ok (.iconst 0, 1) := by decide +kernel
theorem dX11_begins_51 : decode cX11_begins 51 = .ok (.istore 4, 2) := by decide +kernel
theorem dX11_begins_53 : decode cX11_begins 53 = .ok (.iload 4, 2) := by decide +kernel
theorem dX11_begins_55 : decode cX11_begins 55 = .ok (.iload_n 1, 1) := by decide +kernel
theorem dX11_begins_56 : decode cX11_begins 56 = .ok (.if_icmp .ge 87, 3) := by decide +kernel
theorem dX11_begins_59 : decode cX11_begins 59 = .ok (.iload_n 1, 1) := by decide +kernel
theorem dX11_begins_60 : decode cX11_begins 60 = .ok (.iconst 1, 1) := by decide +kernel
theorem dX11_begins_61 : decode cX11_begins 61 = .ok (.isub, 1) := by decide +kernel
theorem dX11_begins_62 : decode cX11_begins 62 = .ok (.iload 4, 2) := by decide +kernel
theorem dX11_begins_64 : decode cX11_begins 64 = .ok (.isub, 1) := by decide +kernel
theorem dX11_begins_65 : decode cX11_begins 65 = .ok (.invokestatic 84, 3) := by decide +kernel
theorem dX11_begins_68 : decode cX11_begins 68 = .ok (.istore 5, 2) := by decide +kernel
theorem dX11_begins_70 : decode cX11_begins 70 = .ok (.iload_n 3, 1) := by decide +kernel
theorem dX11_begins_71 : decode cX11_begins 71 = .ok (.iload 5, 2) := by decide +kernel
theorem dX11_begins_73 : decode cX11_begins 73 = .ok (.idiv, 1) := by decide +kernel
theorem dX11_begins_74 : decode cX11_begins 74 = .ok (.istore 6, 2) := by decide +kernel
theorem dX11_begins_76 : decode cX11_begins 76 = .ok (.iload_n 3, 1) := by decide +kernel
theorem dX11_begins_77 : decode cX11_begins 77 = .ok (.iload 5, 2) := by decide +kernel
theorem dX11_begins_79 : decode cX11_begins 79 = .ok (.irem, 1) := by decide +kernel
theorem dX11_begins_80 : decode cX11_begins 80 = .ok (.istore_n 3, 1) := by decide +kernel
theorem dX11_begins_81 : decode cX11_begins 81 = .ok (.aload_n 0, 1) := by decide +kernel
theorem dX11_begins_82 : decode cX11_begins 82 = .ok (.getfield 19, 3) := by decide +kernel
theorem dX11_begins_85 : decode cX11_begins 85 = .ok (.bipush 6, 2) := by decide +kernel
theorem dX11_begins_87 : decode cX11_begins 87 = .ok (.iload_n 2, 1) := by decide +kernel
theorem dX11_begins_88 : decode cX11_begins 88 = .ok (.imul, 1) := by decide +kernel
theorem dX11_begins_89 : decode cX11_begins 89 = .ok (.iload 4, 2) := by decide +kernel
theorem dX11_begins_91 : decode cX11_begins 91 = .ok (.iadd, 1) := by decide +kernel
theorem dX11_begins_92 : decode cX11_begins 92 = .ok (.aload_n 0, 1) := by decide +kernel
theorem dX11_begins_93 : decode cX11_begins 93 = .ok (.getfield 25, 3) := by decide +kernel
theorem dX11_begins_96 : decode cX11_begins 96 = .ok (.iload 6, 2) := by decide +kernel
theorem dX11_begins_98 : decode cX11_begins 98 = .ok (.iaload, 1) := by decide +kernel
theorem dX11_begins_99 : decode cX11_begins 99 = .ok (.iastore, 1) := by decide +kernel
theorem dX11_begins_100 : decode cX11_begins 100 = .ok (.iload 6, 2) := by decide +kernel
theorem dX11_begins_102 : decode cX11_begins 102 = .ok (.istore 7, 2) := by decide +kernel
theorem dX11_begins_104 : decode cX11_begins 104 = .ok (.iload 7, 2) := by decide +kernel
theorem dX11_begins_106 : decode cX11_begins 106 = .ok (.iload_n 1, 1) := by decide +kernel
theorem dX11_begins_107 : decode cX11_begins 107 = .ok (.iconst 1, 1) := by decide +kernel
theorem dX11_begins_108 : decode cX11_begins 108 = .ok (.isub, 1) := by decide +kernel
theorem dX11_begins_109 : decode cX11_begins 109 = .ok (.iload 4, 2) := by decide +kernel
theorem dX11_begins_111 : decode cX11_begins 111 = .ok (.isub, 1) := by decide +kernel
theorem dX11_begins_112 : decode cX11_begins 112 = .ok (.if_icmp .ge 25, 3) := by decide +kernel
theorem dX11_begins_115 : decode cX11_begins 115 = .ok (.aload_n 0, 1) := by decide +kernel
theorem dX11_begins_116 : decode cX11_begins 116 = .ok (.getfield 25, 3) := by decide +kernel
theorem dX11_begins_119 : decode cX11_begins 119 = .ok (.iload 7, 2) := by decide +kernel
theorem dX11_begins_121 : decode cX11_begins 121 = .ok (.aload_n 0, 1) := by decide +kernel
theorem dX11_begins_122 : decode cX11_begins 122 = .ok (.getfield 25, 3) := by decide +kernel
theorem dX11_begins_125 : decode cX11_begins 125 = .ok (.iload 7, 2) := by decide +kernel
theorem dX11_begins_127 : decode cX11_begins 127 = .ok (.iconst 1, 1) := by decide +kernel
theorem dX11_begins_128 : decode cX11_begins 128 = .ok (.iadd, 1) := by decide +kernel
theorem dX11_begins_129 : decode cX11_begins 129 = .ok (.iaload, 1) := by decide +kernel
theorem dX11_begins_130 : decode cX11_begins 130 = .ok (.iastore, 1) := by decide +kernel
theorem dX11_begins_131 : decode cX11_begins 131 = .ok (.iinc 7 1, 3) := by decide +kernel
theorem dX11_begins_134 : decode cX11_begins 134 = .ok (.goto (-30), 3) := by decide +kernel
theorem dX11_begins_137 : decode cX11_begins 137 = .ok (.iinc 4 1, 3) := by decide +kernel
theorem dX11_begins_140 : decode cX11_begins 140 = .ok (.goto (-87), 3) := by decide +kernel
theorem dX11_begins_143 : decode cX11_begins 143 = .ok (.aload_n 0, 1) := by decide +kernel
theorem dX11_begins_144 : decode cX11_begins 144 = .ok (.getfield 50, 3) := by decide +kernel
theorem dX11_begins_147 : decode cX11_begins 147 = .ok (.iload_n 2, 1) := by decide +kernel
theorem dX11_begins_148 : decode cX11_begins 148 = .ok (.iconst 1, 1) := by decide +kernel
theorem dX11_begins_149 : decode cX11_begins 149 = .ok (.bastore, 1) := by decide +kernel
theorem dX11_begins_150 : decode cX11_begins 150 = .ok (.iinc 2 1, 3) := by decide +kernel
theorem dX11_begins_153 : decode cX11_begins 153 = .ok (.goto (-133), 3) := by decide +kernel
theorem dX11_begins_156 : decode cX11_begins 156 = .ok (.aload_n 0, 1) := by decide +kernel
theorem dX11_begins_157 : decode cX11_begins 157 = .ok (.invokevirtual 91, 3) := by decide +kernel
theorem dX11_begins_160 : decode cX11_begins 160 = .ok (.return_, 1) := by decide +kernel
theorem dX11_lays_0 : decode cX11_lays 0 = .ok (.iconst 0, 1) := by decide +kernel
theorem dX11_lays_1 : decode cX11_lays 1 = .ok (.istore_n 2, 1) := by decide +kernel
theorem dX11_lays_2 : decode cX11_lays 2 = .ok (.iload_n 2, 1) := by decide +kernel
theorem dX11_lays_3 : decode cX11_lays 3 = .ok (.aload_n 0, 1) := by decide +kernel
theorem dX11_lays_4 : decode cX11_lays 4 = .ok (.getfield 74, 3) := by decide +kernel
theorem dX11_lays_7 : decode cX11_lays 7 = .ok (.if_icmp .ge 26, 3) := by decide +kernel
theorem dX11_lays_10 : decode cX11_lays 10 = .ok (.aload_n 0, 1) := by decide +kernel
theorem dX11_lays_11 : decode cX11_lays 11 = .ok (.getfield 22, 3) := by decide +kernel
theorem dX11_lays_14 : decode cX11_lays 14 = .ok (.iload_n 2, 1) := by decide +kernel
theorem dX11_lays_15 : decode cX11_lays 15 = .ok (.aload_n 0, 1) := by decide +kernel
theorem dX11_lays_16 : decode cX11_lays 16 = .ok (.getfield 19, 3) := by decide +kernel
theorem dX11_lays_19 : decode cX11_lays 19 = .ok (.bipush 6, 2) := by decide +kernel
theorem dX11_lays_21 : decode cX11_lays 21 = .ok (.iload_n 1, 1) := by decide +kernel
theorem dX11_lays_22 : decode cX11_lays 22 = .ok (.imul, 1) := by decide +kernel
theorem dX11_lays_23 : decode cX11_lays 23 = .ok (.iload_n 2, 1) := by decide +kernel
theorem dX11_lays_24 : decode cX11_lays 24 = .ok (.iadd, 1) := by decide +kernel
theorem dX11_lays_25 : decode cX11_lays 25 = .ok (.iaload, 1) := by decide +kernel
theorem dX11_lays_26 : decode cX11_lays 26 = .ok (.iastore, 1) := by decide +kernel
theorem dX11_lays_27 : decode cX11_lays 27 = .ok (.iinc 2 1, 3) := by decide +kernel
theorem dX11_lays_30 : decode cX11_lays 30 = .ok (.goto (-28), 3) := by decide +kernel
theorem dX11_lays_33 : decode cX11_lays 33 = .ok (.return_, 1) := by decide +kernel
theorem dX11_numberOf_0 : decode cX11_numberOf 0 = .ok (.iconst 0, 1) := by decide +kernel
theorem dX11_numberOf_1 : decode cX11_numberOf 1 = .ok (.istore_n 1, 1) := by decide +kernel
theorem dX11_numberOf_2 : decode cX11_numberOf 2 = .ok (.iconst 0, 1) := by decide +kernel
theorem dX11_numberOf_3 : decode cX11_numberOf 3 = .ok (.istore_n 2, 1) := by decide +kernel
theorem dX11_numberOf_4 : decode cX11_numberOf 4 = .ok (.iload_n 2, 1) := by decide +kernel
theorem dX11_numberOf_5 : decode cX11_numberOf 5 = .ok (.aload_n 0, 1) := by decide +kernel
theorem dX11_numberOf_6 : decode cX11_numberOf 6 = .ok (.getfield 74, 3) := by decide +kernel
theorem dX11_numberOf_9 : decode cX11_numberOf 9 = .ok (.if_icmp .ge 71, 3) := by decide +kernel
theorem dX11_numberOf_12 : decode cX11_numberOf 12 = .ok (.iconst 0, 1) := by decide +kernel
theorem dX11_numberOf_13 : decode cX11_numberOf 13 = .ok (.istore_n 3, 1) := by decide +kernel
theorem dX11_numberOf_14 : decode cX11_numberOf 14 = .ok (.iload_n 2, 1) := by decide +kernel
theorem dX11_numberOf_15 : decode cX11_numberOf 15 = .ok (.iconst 1, 1) := by decide +kernel
theorem dX11_numberOf_16 : decode cX11_numberOf 16 = .ok (.iadd, 1) := by decide +kernel
theorem dX11_numberOf_17 : decode cX11_numberOf 17 = .ok (.istore 4, 2) := by decide +kernel
theorem dX11_numberOf_19 : decode cX11_numberOf 19 = .ok (.iload 4, 2) := by decide +kernel
theorem dX11_numberOf_21 : decode cX11_numberOf 21 = .ok (.aload_n 0, 1) := by decide +kernel
theorem dX11_numberOf_22 : decode cX11_numberOf 22 = .ok (.getfield 74, 3) := by decide +kernel
theorem dX11_numberOf_25 : decode cX11_numberOf 25 = .ok (.if_icmp .ge 33, 3) := by decide +kernel
theorem dX11_numberOf_28 : decode cX11_numberOf 28 = .ok (.iload_n 3, 1) := by decide +kernel
theorem dX11_numberOf_29 : decode cX11_numberOf 29 = .ok (.aload_n 0, 1) := by decide +kernel
theorem dX11_numberOf_30 : decode cX11_numberOf 30 = .ok (.getfield 22, 3) := by decide +kernel
theorem dX11_numberOf_33 : decode cX11_numberOf 33 = .ok (.iload 4, 2) := by decide +kernel
theorem dX11_numberOf_35 : decode cX11_numberOf 35 = .ok (.iaload, 1) := by decide +kernel
theorem dX11_numberOf_36 : decode cX11_numberOf 36 = .ok (.aload_n 0, 1) := by decide +kernel
theorem dX11_numberOf_37 : decode cX11_numberOf 37 = .ok (.getfield 22, 3) := by decide +kernel
theorem dX11_numberOf_40 : decode cX11_numberOf 40 = .ok (.iload_n 2, 1) := by decide +kernel
theorem dX11_numberOf_41 : decode cX11_numberOf 41 = .ok (.iaload, 1) := by decide +kernel
theorem dX11_numberOf_42 : decode cX11_numberOf 42 = .ok (.if_icmp .ge 7, 3) := by decide +kernel
theorem dX11_numberOf_45 : decode cX11_numberOf 45 = .ok (.iconst 1, 1) := by decide +kernel
theorem dX11_numberOf_46 : decode cX11_numberOf 46 = .ok (.goto 4, 3) := by decide +kernel
theorem dX11_numberOf_49 : decode cX11_numberOf 49 = .ok (.iconst 0, 1) := by decide +kernel
theorem dX11_numberOf_50 : decode cX11_numberOf 50 = .ok (.iadd, 1) := by decide +kernel
theorem dX11_numberOf_51 : decode cX11_numberOf 51 = .ok (.istore_n 3, 1) := by decide +kernel
theorem dX11_numberOf_52 : decode cX11_numberOf 52 = .ok (.iinc 4 1, 3) := by decide +kernel
theorem dX11_numberOf_55 : decode cX11_numberOf 55 = .ok (.goto (-36), 3) := by decide +kernel
theorem dX11_numberOf_58 : decode cX11_numberOf 58 = .ok (.iload_n 1, 1) := by decide +kernel
theorem dX11_numberOf_59 : decode cX11_numberOf 59 = .ok (.iload_n 3, 1) := by decide +kernel
theorem dX11_numberOf_60 : decode cX11_numberOf 60 = .ok (.aload_n 0, 1) := by decide +kernel
theorem dX11_numberOf_61 : decode cX11_numberOf 61 = .ok (.getfield 74, 3) := by decide +kernel
theorem dX11_numberOf_64 : decode cX11_numberOf 64 = .ok (.iconst 1, 1) := by decide +kernel
theorem dX11_numberOf_65 : decode cX11_numberOf 65 = .ok (.isub, 1) := by decide +kernel
theorem dX11_numberOf_66 : decode cX11_numberOf 66 = .ok (.iload_n 2, 1) := by decide +kernel
theorem dX11_numberOf_67 : decode cX11_numberOf 67 = .ok (.isub, 1) := by decide +kernel
theorem dX11_numberOf_68 : decode cX11_numberOf 68 = .ok (.invokestatic 84, 3) := by decide +kernel
theorem dX11_numberOf_71 : decode cX11_numberOf 71 = .ok (.imul, 1) := by decide +kernel
theorem dX11_numberOf_72 : decode cX11_numberOf 72 = .ok (.iadd, 1) := by decide +kernel
theorem dX11_numberOf_73 : decode cX11_numberOf 73 = .ok (.istore_n 1, 1) := by decide +kernel
theorem dX11_numberOf_74 : decode cX11_numberOf 74 = .ok (.iinc 2 1, 3) := by decide +kernel
theorem dX11_numberOf_77 : decode cX11_numberOf 77 = .ok (.goto (-73), 3) := by decide +kernel
theorem dX11_numberOf_80 : decode cX11_numberOf 80 = .ok (.iload_n 1, 1) := by decide +kernel
theorem dX11_numberOf_81 : decode cX11_numberOf 81 = .ok (.ireturn, 1) := by decide +kernel
theorem dX11_codeOf_0 : decode cX11_codeOf 0 = .ok (.iconst 0, 1) := by decide +kernel
theorem dX11_codeOf_1 : decode cX11_codeOf 1 = .ok (.istore_n 1, 1) := by decide +kernel
theorem dX11_codeOf_2 : decode cX11_codeOf 2 = .ok (.aload_n 0, 1) := by decide +kernel
theorem dX11_codeOf_3 : decode cX11_codeOf 3 = .ok (.getfield 74, 3) := by decide +kernel
theorem dX11_codeOf_6 : decode cX11_codeOf 6 = .ok (.iconst 1, 1) := by decide +kernel
theorem dX11_codeOf_7 : decode cX11_codeOf 7 = .ok (.isub, 1) := by decide +kernel
theorem dX11_codeOf_8 : decode cX11_codeOf 8 = .ok (.istore_n 2, 1) := by decide +kernel
theorem dX11_codeOf_9 : decode cX11_codeOf 9 = .ok (.iload_n 2, 1) := by decide +kernel
theorem dX11_codeOf_10 : decode cX11_codeOf 10 = .ok (.ifCond .lt 21, 3) := by decide +kernel
theorem dX11_codeOf_13 : decode cX11_codeOf 13 = .ok (.bipush 10, 2) := by decide +kernel
theorem dX11_codeOf_15 : decode cX11_codeOf 15 = .ok (.iload_n 1, 1) := by decide +kernel
theorem dX11_codeOf_16 : decode cX11_codeOf 16 = .ok (.imul, 1) := by decide +kernel
theorem dX11_codeOf_17 : decode cX11_codeOf 17 = .ok (.aload_n 0, 1) := by decide +kernel
theorem dX11_codeOf_18 : decode cX11_codeOf 18 = .ok (.getfield 22, 3) := by decide +kernel
theorem dX11_codeOf_21 : decode cX11_codeOf 21 = .ok (.iload_n 2, 1) := by decide +kernel
theorem dX11_codeOf_22 : decode cX11_codeOf 22 = .ok (.iaload, 1) := by decide +kernel
theorem dX11_codeOf_23 : decode cX11_codeOf 23 = .ok (.iadd, 1) := by decide +kernel
theorem dX11_codeOf_24 : decode cX11_codeOf 24 = .ok (.istore_n 1, 1) := by decide +kernel
theorem dX11_codeOf_25 : decode cX11_codeOf 25 = .ok (.iinc 2 (-1), 3) := by decide +kernel
theorem dX11_codeOf_28 : decode cX11_codeOf 28 = .ok (.goto (-19), 3) := by decide +kernel
theorem dX11_codeOf_31 : decode cX11_codeOf 31 = .ok (.iload_n 1, 1) := by decide +kernel
theorem dX11_codeOf_32 : decode cX11_codeOf 32 = .ok (.ireturn, 1) := by decide +kernel
theorem dX11_rowOf_0 : decode cX11_rowOf 0 = .ok (.iload_n 1, 1) := by decide +kernel
theorem dX11_rowOf_1 : decode cX11_rowOf 1 = .ok (.istore_n 2, 1) := by decide +kernel
theorem dX11_rowOf_2 : decode cX11_rowOf 2 = .ok (.iconst 0, 1) := by decide +kernel
theorem dX11_rowOf_3 : decode cX11_rowOf 3 = .ok (.istore_n 3, 1) := by decide +kernel
theorem dX11_rowOf_4 : decode cX11_rowOf 4 = .ok (.iconst 0, 1) := by decide +kernel
theorem dX11_rowOf_5 : decode cX11_rowOf 5 = .ok (.istore 4, 2) := by decide +kernel
theorem dX11_rowOf_7 : decode cX11_rowOf 7 = .ok (.iload 4, 2) := by decide +kernel
theorem dX11_rowOf_9 : decode cX11_rowOf 9 = .ok (.aload_n 0, 1) := by decide +kernel
theorem dX11_rowOf_10 : decode cX11_rowOf 10 = .ok (.getfield 74, 3) := by decide +kernel
theorem dX11_rowOf_13 : decode cX11_rowOf 13 = .ok (.if_icmp .ge 59, 3) := by decide +kernel
theorem dX11_rowOf_16 : decode cX11_rowOf 16 = .ok (.iload_n 2, 1) := by decide +kernel
theorem dX11_rowOf_17 : decode cX11_rowOf 17 = .ok (.ifCond .lt 55, 3) := by decide +kernel
theorem dX11_rowOf_20 : decode cX11_rowOf 20 = .ok (.aload_n 0, 1) := by decide +kernel
theorem dX11_rowOf_21 : decode cX11_rowOf 21 = .ok (.getfield 22, 3) := by decide +kernel
theorem dX11_rowOf_24 : decode cX11_rowOf 24 = .ok (.iload 4, 2) := by decide +kernel
theorem dX11_rowOf_26 : decode cX11_rowOf 26 = .ok (.iload_n 2, 1) := by decide +kernel
theorem dX11_rowOf_27 : decode cX11_rowOf 27 = .ok (.bipush 10, 2) := by decide +kernel
theorem dX11_rowOf_29 : decode cX11_rowOf 29 = .ok (.irem, 1) := by decide +kernel
theorem dX11_rowOf_30 : decode cX11_rowOf 30 = .ok (.iastore, 1) := by decide +kernel
theorem dX11_rowOf_31 : decode cX11_rowOf 31 = .ok (.iload_n 2, 1) := by decide +kernel
theorem dX11_rowOf_32 : decode cX11_rowOf 32 = .ok (.bipush 10, 2) := by decide +kernel
theorem dX11_rowOf_34 : decode cX11_rowOf 34 = .ok (.idiv, 1) := by decide +kernel
theorem dX11_rowOf_35 : decode cX11_rowOf 35 = .ok (.istore_n 2, 1) := by decide +kernel
theorem dX11_rowOf_36 : decode cX11_rowOf 36 = .ok (.iload_n 3, 1) := by decide +kernel
theorem dX11_rowOf_37 : decode cX11_rowOf 37 = .ok (.aload_n 0, 1) := by decide +kernel
theorem dX11_rowOf_38 : decode cX11_rowOf 38 = .ok (.getfield 22, 3) := by decide +kernel
theorem dX11_rowOf_41 : decode cX11_rowOf 41 = .ok (.iload 4, 2) := by decide +kernel
theorem dX11_rowOf_43 : decode cX11_rowOf 43 = .ok (.iaload, 1) := by decide +kernel
theorem dX11_rowOf_44 : decode cX11_rowOf 44 = .ok (.aload_n 0, 1) := by decide +kernel
theorem dX11_rowOf_45 : decode cX11_rowOf 45 = .ok (.getfield 74, 3) := by decide +kernel
theorem dX11_rowOf_48 : decode cX11_rowOf 48 = .ok (.if_icmp .ge 15, 3) := by decide +kernel
theorem dX11_rowOf_51 : decode cX11_rowOf 51 = .ok (.iconst 1, 1) := by decide +kernel
theorem dX11_rowOf_52 : decode cX11_rowOf 52 = .ok (.aload_n 0, 1) := by decide +kernel
theorem dX11_rowOf_53 : decode cX11_rowOf 53 = .ok (.getfield 22, 3) := by decide +kernel
theorem dX11_rowOf_56 : decode cX11_rowOf 56 = .ok (.iload 4, 2) := by decide +kernel
theorem dX11_rowOf_58 : decode cX11_rowOf 58 = .ok (.iaload, 1) := by decide +kernel
theorem dX11_rowOf_59 : decode cX11_rowOf 59 = .ok (.ishl, 1) := by decide +kernel
theorem dX11_rowOf_60 : decode cX11_rowOf 60 = .ok (.goto 4, 3) := by decide +kernel
theorem dX11_rowOf_63 : decode cX11_rowOf 63 = .ok (.iconst 0, 1) := by decide +kernel
theorem dX11_rowOf_64 : decode cX11_rowOf 64 = .ok (.ior, 1) := by decide +kernel
theorem dX11_rowOf_65 : decode cX11_rowOf 65 = .ok (.istore_n 3, 1) := by decide +kernel
theorem dX11_rowOf_66 : decode cX11_rowOf 66 = .ok (.iinc 4 1, 3) := by decide +kernel
theorem dX11_rowOf_69 : decode cX11_rowOf 69 = .ok (.goto (-62), 3) := by decide +kernel
theorem dX11_rowOf_72 : decode cX11_rowOf 72 = .ok (.iload_n 2, 1) := by decide +kernel
theorem dX11_rowOf_73 : decode cX11_rowOf 73 = .ok (.ifCond .ne 22, 3) := by decide +kernel
theorem dX11_rowOf_76 : decode cX11_rowOf 76 = .ok (.iload_n 3, 1) := by decide +kernel
theorem dX11_rowOf_77 : decode cX11_rowOf 77 = .ok (.iconst 1, 1) := by decide +kernel
theorem dX11_rowOf_78 : decode cX11_rowOf 78 = .ok (.aload_n 0, 1) := by decide +kernel
theorem dX11_rowOf_79 : decode cX11_rowOf 79 = .ok (.getfield 74, 3) := by decide +kernel
theorem dX11_rowOf_82 : decode cX11_rowOf 82 = .ok (.ishl, 1) := by decide +kernel
theorem dX11_rowOf_83 : decode cX11_rowOf 83 = .ok (.iconst 1, 1) := by decide +kernel
theorem dX11_rowOf_84 : decode cX11_rowOf 84 = .ok (.isub, 1) := by decide +kernel
theorem dX11_rowOf_85 : decode cX11_rowOf 85 = .ok (.if_icmp .ne 10, 3) := by decide +kernel
theorem dX11_rowOf_88 : decode cX11_rowOf 88 = .ok (.aload_n 0, 1) := by decide +kernel
theorem dX11_rowOf_89 : decode cX11_rowOf 89 = .ok (.invokevirtual 94, 3) := by decide +kernel
theorem dX11_rowOf_92 : decode cX11_rowOf 92 = .ok (.goto 4, 3) := by decide +kernel
theorem dX11_rowOf_95 : decode cX11_rowOf 95 = .ok (.iconst (-1), 1) := by decide +kernel
theorem dX11_rowOf_96 : decode cX11_rowOf 96 = .ok (.ireturn, 1) := by decide +kernel
theorem dX11_exchanges_0 : decode cX11_exchanges 0 = .ok (.aload_n 0, 1) := by decide +kernel
theorem dX11_exchanges_1 : decode cX11_exchanges 1 = .ok (.getfield 22, 3) := by decide +kernel
theorem dX11_exchanges_4 : decode cX11_exchanges 4 = .ok (.iload_n 1, 1) := by decide +kernel
theorem dX11_exchanges_5 : decode cX11_exchanges 5 = .ok (.iaload, 1) := by decide +kernel
theorem dX11_exchanges_6 : decode cX11_exchanges 6 = .ok (.istore_n 3, 1) := by decide +kernel
theorem dX11_exchanges_7 : decode cX11_exchanges 7 = .ok (.aload_n 0, 1) := by decide +kernel
theorem dX11_exchanges_8 : decode cX11_exchanges 8 = .ok (.getfield 22, 3) := by decide +kernel
theorem dX11_exchanges_11 : decode cX11_exchanges 11 = .ok (.iload_n 1, 1) := by decide +kernel
theorem dX11_exchanges_12 : decode cX11_exchanges 12 = .ok (.aload_n 0, 1) := by decide +kernel
theorem dX11_exchanges_13 : decode cX11_exchanges 13 = .ok (.getfield 22, 3) := by decide +kernel
theorem dX11_exchanges_16 : decode cX11_exchanges 16 = .ok (.iload_n 2, 1) := by decide +kernel
theorem dX11_exchanges_17 : decode cX11_exchanges 17 = .ok (.iaload, 1) := by decide +kernel
theorem dX11_exchanges_18 : decode cX11_exchanges 18 = .ok (.iastore, 1) := by decide +kernel
theorem dX11_exchanges_19 : decode cX11_exchanges 19 = .ok (.aload_n 0, 1) := by decide +kernel
theorem dX11_exchanges_20 : decode cX11_exchanges 20 = .ok (.getfield 22, 3) := by decide +kernel
theorem dX11_exchanges_23 : decode cX11_exchanges 23 = .ok (.iload_n 2, 1) := by decide +kernel
theorem dX11_exchanges_24 : decode cX11_exchanges 24 = .ok (.iload_n 3, 1) := by decide +kernel
theorem dX11_exchanges_25 : decode cX11_exchanges 25 = .ok (.iastore, 1) := by decide +kernel
theorem dX11_exchanges_26 : decode cX11_exchanges 26 = .ok (.return_, 1) := by decide +kernel
theorem dX11_goes_0 : decode cX11_goes 0 = .ok (.iconst 0, 1) := by decide +kernel
theorem dX11_goes_1 : decode cX11_goes 1 = .ok (.istore_n 1, 1) := by decide +kernel
theorem dX11_goes_2 : decode cX11_goes 2 = .ok (.iload_n 1, 1) := by decide +kernel
theorem dX11_goes_3 : decode cX11_goes 3 = .ok (.aload_n 0, 1) := by decide +kernel
theorem dX11_goes_4 : decode cX11_goes 4 = .ok (.getfield 81, 3) := by decide +kernel
theorem dX11_goes_7 : decode cX11_goes 7 = .ok (.if_icmp .ge 50, 3) := by decide +kernel
theorem dX11_goes_10 : decode cX11_goes 10 = .ok (.aload_n 0, 1) := by decide +kernel
theorem dX11_goes_11 : decode cX11_goes 11 = .ok (.getfield 22, 3) := by decide +kernel
theorem dX11_goes_14 : decode cX11_goes 14 = .ok (.aload_n 0, 1) := by decide +kernel
theorem dX11_goes_15 : decode cX11_goes 15 = .ok (.getfield 7, 3) := by decide +kernel
theorem dX11_goes_18 : decode cX11_goes 18 = .ok (.iload_n 1, 1) := by decide +kernel
theorem dX11_goes_19 : decode cX11_goes 19 = .ok (.iaload, 1) := by decide +kernel
theorem dX11_goes_20 : decode cX11_goes 20 = .ok (.iaload, 1) := by decide +kernel
theorem dX11_goes_21 : decode cX11_goes 21 = .ok (.aload_n 0, 1) := by decide +kernel
theorem dX11_goes_22 : decode cX11_goes 22 = .ok (.getfield 22, 3) := by decide +kernel
theorem dX11_goes_25 : decode cX11_goes 25 = .ok (.aload_n 0, 1) := by decide +kernel
theorem dX11_goes_26 : decode cX11_goes 26 = .ok (.getfield 13, 3) := by decide +kernel
theorem dX11_goes_29 : decode cX11_goes 29 = .ok (.iload_n 1, 1) := by decide +kernel
theorem dX11_goes_30 : decode cX11_goes 30 = .ok (.iaload, 1) := by decide +kernel
theorem dX11_goes_31 : decode cX11_goes 31 = .ok (.iaload, 1) := by decide +kernel
theorem dX11_goes_32 : decode cX11_goes 32 = .ok (.if_icmp .le 19, 3) := by decide +kernel
theorem dX11_goes_35 : decode cX11_goes 35 = .ok (.aload_n 0, 1) := by decide +kernel
theorem dX11_goes_36 : decode cX11_goes 36 = .ok (.aload_n 0, 1) := by decide +kernel
theorem dX11_goes_37 : decode cX11_goes 37 = .ok (.getfield 7, 3) := by decide +kernel
theorem dX11_goes_40 : decode cX11_goes 40 = .ok (.iload_n 1, 1) := by decide +kernel
theorem dX11_goes_41 : decode cX11_goes 41 = .ok (.iaload, 1) := by decide +kernel
theorem dX11_goes_42 : decode cX11_goes 42 = .ok (.aload_n 0, 1) := by decide +kernel
theorem dX11_goes_43 : decode cX11_goes 43 = .ok (.getfield 13, 3) := by decide +kernel
theorem dX11_goes_46 : decode cX11_goes 46 = .ok (.iload_n 1, 1) := by decide +kernel
theorem dX11_goes_47 : decode cX11_goes 47 = .ok (.iaload, 1) := by decide +kernel
theorem dX11_goes_48 : decode cX11_goes 48 = .ok (.invokevirtual 98, 3) := by decide +kernel
theorem dX11_goes_51 : decode cX11_goes 51 = .ok (.iinc 1 1, 3) := by decide +kernel
theorem dX11_goes_54 : decode cX11_goes 54 = .ok (.goto (-52), 3) := by decide +kernel
theorem dX11_goes_57 : decode cX11_goes 57 = .ok (.return_, 1) := by decide +kernel
theorem dX11_forgets_0 : decode cX11_forgets 0 = .ok (.aload_n 0, 1) := by decide +kernel
theorem dX11_forgets_1 : decode cX11_forgets 1 = .ok (.iconst 0, 1) := by decide +kernel
theorem dX11_forgets_2 : decode cX11_forgets 2 = .ok (.putfield 102, 3) := by decide +kernel
theorem dX11_forgets_5 : decode cX11_forgets 5 = .ok (.iconst 0, 1) := by decide +kernel
theorem dX11_forgets_6 : decode cX11_forgets 6 = .ok (.istore_n 1, 1) := by decide +kernel
theorem dX11_forgets_7 : decode cX11_forgets 7 = .ok (.iload_n 1, 1) := by decide +kernel
theorem dX11_forgets_8 : decode cX11_forgets 8 = .ok (.bipush 25, 2) := by decide +kernel
theorem dX11_forgets_10 : decode cX11_forgets 10 = .ok (.if_icmp .ge 16, 3) := by decide +kernel
theorem dX11_forgets_13 : decode cX11_forgets 13 = .ok (.aload_n 0, 1) := by decide +kernel
theorem dX11_forgets_14 : decode cX11_forgets 14 = .ok (.getfield 34, 3) := by decide +kernel
theorem dX11_forgets_17 : decode cX11_forgets 17 = .ok (.iload_n 1, 1) := by decide +kernel
theorem dX11_forgets_18 : decode cX11_forgets 18 = .ok (.iconst 0, 1) := by decide +kernel
theorem dX11_forgets_19 : decode cX11_forgets 19 = .ok (.bastore, 1) := by decide +kernel
theorem dX11_forgets_20 : decode cX11_forgets 20 = .ok (.iinc 1 1, 3) := by decide +kernel
theorem dX11_forgets_23 : decode cX11_forgets 23 = .ok (.goto (-16), 3) := by decide +kernel
theorem dX11_forgets_26 : decode cX11_forgets 26 = .ok (.iconst 0, 1) := by decide +kernel
theorem dX11_forgets_27 : decode cX11_forgets 27 = .ok (.istore_n 1, 1) := by decide +kernel
theorem dX11_forgets_28 : decode cX11_forgets 28 = .ok (.iload_n 1, 1) := by decide +kernel
theorem dX11_forgets_29 : decode cX11_forgets 29 = .ok (.bipush 6, 2) := by decide +kernel
theorem dX11_forgets_31 : decode cX11_forgets 31 = .ok (.if_icmp .ge 16, 3) := by decide +kernel
theorem dX11_forgets_34 : decode cX11_forgets 34 = .ok (.aload_n 0, 1) := by decide +kernel
theorem dX11_forgets_35 : decode cX11_forgets 35 = .ok (.getfield 38, 3) := by decide +kernel
theorem dX11_forgets_38 : decode cX11_forgets 38 = .ok (.iload_n 1, 1) := by decide +kernel
theorem dX11_forgets_39 : decode cX11_forgets 39 = .ok (.iconst 0, 1) := by decide +kernel
theorem dX11_forgets_40 : decode cX11_forgets 40 = .ok (.iastore, 1) := by decide +kernel
theorem dX11_forgets_41 : decode cX11_forgets 41 = .ok (.iinc 1 1, 3) := by decide +kernel
theorem dX11_forgets_44 : decode cX11_forgets 44 = .ok (.goto (-16), 3) := by decide +kernel
theorem dX11_forgets_47 : decode cX11_forgets 47 = .ok (.return_, 1) := by decide +kernel
theorem dX11_network_0 : decode cX11_network 0 = .ok (.aload_n 0, 1) := by decide +kernel
theorem dX11_network_1 : decode cX11_network 1 = .ok (.iload_n 1, 1) := by decide +kernel
theorem dX11_network_2 : decode cX11_network 2 = .ok (.iconst 2, 1) := by decide +kernel
theorem dX11_network_3 : decode cX11_network 3 = .ok (.bipush 6, 2) := by decide +kernel
theorem dX11_network_5 : decode cX11_network 5 = .ok (.invokestatic 77, 3) := by decide +kernel
theorem dX11_network_8 : decode cX11_network 8 = .ok (.ifCond .eq 7, 3) := by decide +kernel
theorem dX11_network_11 : decode cX11_network 11 = .ok (.iconst 0, 1) := by decide +kernel
theorem dX11_network_12 : decode cX11_network 12 = .ok (.goto 4, 3) := by decide +kernel
theorem dX11_network_15 : decode cX11_network 15 = .ok (.iconst 1, 1) := by decide +kernel
theorem dX11_network_16 : decode cX11_network 16 = .ok (.putfield 70, 3) := by decide +kernel
theorem dX11_network_19 : decode cX11_network 19 = .ok (.aload_n 0, 1) := by decide +kernel
theorem dX11_network_20 : decode cX11_network 20 = .ok (.getfield 70, 3) := by decide +kernel
theorem dX11_network_23 : decode cX11_network 23 = .ok (.ifCond .le 5, 3) := by decide +kernel
theorem dX11_network_26 : decode cX11_network 26 = .ok (.iconst 0, 1) := by decide +kernel
theorem dX11_network_27 : decode cX11_network 27 = .ok (.ireturn, 1) := by decide +kernel
theorem dX11_network_28 : decode cX11_network 28 = .ok (.aload_n 0, 1) := by decide +kernel
theorem dX11_network_29 : decode cX11_network 29 = .ok (.getfield 81, 3) := by decide +kernel
theorem dX11_network_32 : decode cX11_network 32 = .ok (.istore_n 2, 1) := by decide +kernel
theorem dX11_network_33 : decode cX11_network 33 = .ok (.aload_n 0, 1) := by decide +kernel
theorem dX11_network_34 : decode cX11_network 34 = .ok (.iload_n 1, 1) := by decide +kernel
theorem dX11_network_35 : decode cX11_network 35 = .ok (.invokevirtual 66, 3) := by decide +kernel
theorem dX11_network_38 : decode cX11_network 38 = .ok (.iload_n 2, 1) := by decide +kernel
theorem dX11_network_39 : decode cX11_network 39 = .ok (.ireturn, 1) := by decide +kernel
theorem dX11_puts_0 : decode cX11_puts 0 = .ok (.aload_n 0, 1) := by decide +kernel
theorem dX11_puts_1 : decode cX11_puts 1 = .ok (.getfield 7, 3) := by decide +kernel
theorem dX11_puts_4 : decode cX11_puts 4 = .ok (.aload_n 0, 1) := by decide +kernel
theorem dX11_puts_5 : decode cX11_puts 5 = .ok (.getfield 81, 3) := by decide +kernel
theorem dX11_puts_8 : decode cX11_puts 8 = .ok (.iload_n 1, 1) := by decide +kernel
theorem dX11_puts_9 : decode cX11_puts 9 = .ok (.iastore, 1) := by decide +kernel
theorem dX11_puts_10 : decode cX11_puts 10 = .ok (.aload_n 0, 1) := by decide +kernel
theorem dX11_puts_11 : decode cX11_puts 11 = .ok (.getfield 13, 3) := by decide +kernel
theorem dX11_puts_14 : decode cX11_puts 14 = .ok (.aload_n 0, 1) := by decide +kernel
theorem dX11_puts_15 : decode cX11_puts 15 = .ok (.getfield 81, 3) := by decide +kernel
theorem dX11_puts_18 : decode cX11_puts 18 = .ok (.iload_n 2, 1) := by decide +kernel
theorem dX11_puts_19 : decode cX11_puts 19 = .ok (.iastore, 1) := by decide +kernel
theorem dX11_puts_20 : decode cX11_puts 20 = .ok (.aload_n 0, 1) := by decide +kernel
theorem dX11_puts_21 : decode cX11_puts 21 = .ok (.dup, 1) := by decide +kernel
theorem dX11_puts_22 : decode cX11_puts 22 = .ok (.getfield 81, 3) := by decide +kernel
theorem dX11_puts_25 : decode cX11_puts 25 = .ok (.iconst 1, 1) := by decide +kernel
theorem dX11_puts_26 : decode cX11_puts 26 = .ok (.iadd, 1) := by decide +kernel
theorem dX11_puts_27 : decode cX11_puts 27 = .ok (.putfield 81, 3) := by decide +kernel
theorem dX11_puts_30 : decode cX11_puts 30 = .ok (.return_, 1) := by decide +kernel
theorem dX11_add_0 : decode cX11_add 0 = .ok (.aload_n 0, 1) := by decide +kernel
theorem dX11_add_1 : decode cX11_add 1 = .ok (.aload_n 0, 1) := by decide +kernel
theorem dX11_add_2 : decode cX11_add 2 = .ok (.iload_n 1, 1) := by decide +kernel
theorem dX11_add_3 : decode cX11_add 3 = .ok (.invokevirtual 105, 3) := by decide +kernel
theorem dX11_add_6 : decode cX11_add 6 = .ok (.ifCond .eq 11, 3) := by decide +kernel
theorem dX11_add_9 : decode cX11_add 9 = .ok (.aload_n 0, 1) := by decide +kernel
theorem dX11_add_10 : decode cX11_add 10 = .ok (.iload_n 2, 1) := by decide +kernel
theorem dX11_add_11 : decode cX11_add 11 = .ok (.invokevirtual 105, 3) := by decide +kernel
theorem dX11_add_14 : decode cX11_add 14 = .ok (.ifCond .ne 7, 3) := by decide +kernel
theorem dX11_add_17 : decode cX11_add 17 = .ok (.iconst 1, 1) := by decide +kernel
theorem dX11_add_18 : decode cX11_add 18 = .ok (.goto 26, 3) := by decide +kernel
theorem dX11_add_21 : decode cX11_add 21 = .ok (.iload_n 1, 1) := by decide +kernel
theorem dX11_add_22 : decode cX11_add 22 = .ok (.iload_n 2, 1) := by decide +kernel
theorem dX11_add_23 : decode cX11_add 23 = .ok (.if_icmp .ne 7, 3) := by decide +kernel
theorem dX11_add_26 : decode cX11_add 26 = .ok (.iconst 2, 1) := by decide +kernel
theorem dX11_add_27 : decode cX11_add 27 = .ok (.goto 17, 3) := by decide +kernel
theorem dX11_add_30 : decode cX11_add 30 = .ok (.aload_n 0, 1) := by decide +kernel
theorem dX11_add_31 : decode cX11_add 31 = .ok (.getfield 81, 3) := by decide +kernel
theorem dX11_add_34 : decode cX11_add 34 = .ok (.bipush 24, 2) := by decide +kernel
theorem dX11_add_36 : decode cX11_add 36 = .ok (.if_icmp .ne 7, 3) := by decide +kernel
theorem dX11_add_39 : decode cX11_add 39 = .ok (.iconst 3, 1) := by decide +kernel
theorem dX11_add_40 : decode cX11_add 40 = .ok (.goto 4, 3) := by decide +kernel
theorem dX11_add_43 : decode cX11_add 43 = .ok (.iconst 0, 1) := by decide +kernel
theorem dX11_add_44 : decode cX11_add 44 = .ok (.putfield 70, 3) := by decide +kernel
theorem dX11_add_47 : decode cX11_add 47 = .ok (.aload_n 0, 1) := by decide +kernel
theorem dX11_add_48 : decode cX11_add 48 = .ok (.getfield 70, 3) := by decide +kernel
theorem dX11_add_51 : decode cX11_add 51 = .ok (.ifCond .le 5, 3) := by decide +kernel
theorem dX11_add_54 : decode cX11_add 54 = .ok (.iconst 0, 1) := by decide +kernel
theorem dX11_add_55 : decode cX11_add 55 = .ok (.ireturn, 1) := by decide +kernel
theorem dX11_add_56 : decode cX11_add 56 = .ok (.aload_n 0, 1) := by decide +kernel
theorem dX11_add_57 : decode cX11_add 57 = .ok (.iload_n 1, 1) := by decide +kernel
theorem dX11_add_58 : decode cX11_add 58 = .ok (.iload_n 2, 1) := by decide +kernel
theorem dX11_add_59 : decode cX11_add 59 = .ok (.invokevirtual 109, 3) := by decide +kernel
theorem dX11_add_62 : decode cX11_add 62 = .ok (.aload_n 0, 1) := by decide +kernel
theorem dX11_add_63 : decode cX11_add 63 = .ok (.invokevirtual 91, 3) := by decide +kernel
theorem dX11_add_66 : decode cX11_add 66 = .ok (.aload_n 0, 1) := by decide +kernel
theorem dX11_add_67 : decode cX11_add 67 = .ok (.getfield 81, 3) := by decide +kernel
theorem dX11_add_70 : decode cX11_add 70 = .ok (.iconst 1, 1) := by decide +kernel
theorem dX11_add_71 : decode cX11_add 71 = .ok (.isub, 1) := by decide +kernel
theorem dX11_add_72 : decode cX11_add 72 = .ok (.ireturn, 1) := by decide +kernel
theorem dX11_take_0 : decode cX11_take 0 = .ok (.aload_n 0, 1) := by decide +kernel
theorem dX11_take_1 : decode cX11_take 1 = .ok (.aload_n 0, 1) := by decide +kernel
theorem dX11_take_2 : decode cX11_take 2 = .ok (.getfield 81, 3) := by decide +kernel
theorem dX11_take_5 : decode cX11_take 5 = .ok (.ifCond .ne 7, 3) := by decide +kernel
theorem dX11_take_8 : decode cX11_take 8 = .ok (.iconst 1, 1) := by decide +kernel
theorem dX11_take_9 : decode cX11_take 9 = .ok (.goto 4, 3) := by decide +kernel
theorem dX11_take_12 : decode cX11_take 12 = .ok (.iconst 0, 1) := by decide +kernel
theorem dX11_take_13 : decode cX11_take 13 = .ok (.putfield 70, 3) := by decide +kernel
theorem dX11_take_16 : decode cX11_take 16 = .ok (.aload_n 0, 1) := by decide +kernel
theorem dX11_take_17 : decode cX11_take 17 = .ok (.getfield 70, 3) := by decide +kernel
theorem dX11_take_20 : decode cX11_take 20 = .ok (.ifCond .le 5, 3) := by decide +kernel
theorem dX11_take_23 : decode cX11_take 23 = .ok (.iconst 0, 1) := by decide +kernel
theorem dX11_take_24 : decode cX11_take 24 = .ok (.ireturn, 1) := by decide +kernel
theorem dX11_take_25 : decode cX11_take 25 = .ok (.aload_n 0, 1) := by decide +kernel
theorem dX11_take_26 : decode cX11_take 26 = .ok (.dup, 1) := by decide +kernel
theorem dX11_take_27 : decode cX11_take 27 = .ok (.getfield 81, 3) := by decide +kernel
theorem dX11_take_30 : decode cX11_take 30 = .ok (.iconst 1, 1) := by decide +kernel
theorem dX11_take_31 : decode cX11_take 31 = .ok (.isub, 1) := by decide +kernel
theorem dX11_take_32 : decode cX11_take 32 = .ok (.putfield 81, 3) := by decide +kernel
theorem dX11_take_35 : decode cX11_take 35 = .ok (.aload_n 0, 1) := by decide +kernel
theorem dX11_take_36 : decode cX11_take 36 = .ok (.invokevirtual 91, 3) := by decide +kernel
theorem dX11_take_39 : decode cX11_take 39 = .ok (.aload_n 0, 1) := by decide +kernel
theorem dX11_take_40 : decode cX11_take 40 = .ok (.getfield 81, 3) := by decide +kernel
theorem dX11_take_43 : decode cX11_take 43 = .ok (.ireturn, 1) := by decide +kernel
theorem dX11_makes_0 : decode cX11_makes 0 = .ok (.iload_n 2, 1) := by decide +kernel
theorem dX11_makes_1 : decode cX11_makes 1 = .ok (.aload_n 0, 1) := by decide +kernel
theorem dX11_makes_2 : decode cX11_makes 2 = .ok (.getfield 74, 3) := by decide +kernel
theorem dX11_makes_5 : decode cX11_makes 5 = .ok (.if_icmp .lt 5, 3) := by decide +kernel
theorem dX11_makes_8 : decode cX11_makes 8 = .ok (.iconst 0, 1) := by decide +kernel
theorem dX11_makes_9 : decode cX11_makes 9 = .ok (.ireturn, 1) := by decide +kernel
theorem dX11_makes_10 : decode cX11_makes 10 = .ok (.iload_n 3, 1) := by decide +kernel
theorem dX11_makes_11 : decode cX11_makes 11 = .ok (.ifCond .ne 9, 3) := by decide +kernel
theorem dX11_makes_14 : decode cX11_makes 14 = .ok (.aload_n 0, 1) := by decide +kernel
theorem dX11_makes_15 : decode cX11_makes 15 = .ok (.iload_n 1, 1) := by decide +kernel
theorem dX11_makes_16 : decode cX11_makes 16 = .ok (.iload_n 2, 1) := by decide +kernel
theorem dX11_makes_17 : decode cX11_makes 17 = .ok (.invokevirtual 109, 3) := by decide +kernel
theorem dX11_makes_20 : decode cX11_makes 20 = .ok (.iconst 1, 1) := by decide +kernel
theorem dX11_makes_21 : decode cX11_makes 21 = .ok (.ireturn, 1) := by decide +kernel
theorem dX11_makesAll_0 : decode cX11_makesAll 0 = .ok (.iconst 0, 1) := by decide +kernel
theorem dX11_makesAll_1 : decode cX11_makesAll 1 = .ok (.istore_n 3, 1) := by decide +kernel
theorem dX11_makesAll_2 : decode cX11_makesAll 2 = .ok (.aload_n 0, 1) := by decide +kernel
theorem dX11_makesAll_3 : decode cX11_makesAll 3 = .ok (.getfield 74, 3) := by decide +kernel
theorem dX11_makesAll_6 : decode cX11_makesAll 6 = .ok (.iconst 1, 1) := by decide +kernel
theorem dX11_makesAll_7 : decode cX11_makesAll 7 = .ok (.isub, 1) := by decide +kernel
theorem dX11_makesAll_8 : decode cX11_makesAll 8 = .ok (.istore 4, 2) := by decide +kernel
theorem dX11_makesAll_10 : decode cX11_makesAll 10 = .ok (.iload 4, 2) := by decide +kernel
theorem dX11_makesAll_12 : decode cX11_makesAll 12 = .ok (.ifCond .le 43, 3) := by decide +kernel
theorem dX11_makesAll_15 : decode cX11_makesAll 15 = .ok (.iload_n 1, 1) := by decide +kernel
theorem dX11_makesAll_16 : decode cX11_makesAll 16 = .ok (.ifCond .ne 39, 3) := by decide +kernel
theorem dX11_makesAll_19 : decode cX11_makesAll 19 = .ok (.iconst 0, 1) := by decide +kernel
theorem dX11_makesAll_20 : decode cX11_makesAll 20 = .ok (.istore 5, 2) := by decide +kernel
theorem dX11_makesAll_22 : decode cX11_makesAll 22 = .ok (.iload 5, 2) := by decide +kernel
theorem dX11_makesAll_24 : decode cX11_makesAll 24 = .ok (.iload 4, 2) := by decide +kernel
theorem dX11_makesAll_26 : decode cX11_makesAll 26 = .ok (.if_icmp .ge 23, 3) := by decide +kernel
theorem dX11_makesAll_29 : decode cX11_makesAll 29 = .ok (.iload_n 3, 1) := by decide +kernel
theorem dX11_makesAll_30 : decode cX11_makesAll 30 = .ok (.aload_n 0, 1) := by decide +kernel
theorem dX11_makesAll_31 : decode cX11_makesAll 31 = .ok (.iload 5, 2) := by decide +kernel
theorem dX11_makesAll_33 : decode cX11_makesAll 33 = .ok (.iload 5, 2) := by decide +kernel
theorem dX11_makesAll_35 : decode cX11_makesAll 35 = .ok (.iconst 1, 1) := by decide +kernel
theorem dX11_makesAll_36 : decode cX11_makesAll 36 = .ok (.iadd, 1) := by decide +kernel
theorem dX11_makesAll_37 : decode cX11_makesAll 37 = .ok (.iload_n 2, 1) := by decide +kernel
theorem dX11_makesAll_38 : decode cX11_makesAll 38 = .ok (.invokevirtual 112, 3) := by decide +kernel
theorem dX11_makesAll_41 : decode cX11_makesAll 41 = .ok (.iadd, 1) := by decide +kernel
theorem dX11_makesAll_42 : decode cX11_makesAll 42 = .ok (.istore_n 3, 1) := by decide +kernel
theorem dX11_makesAll_43 : decode cX11_makesAll 43 = .ok (.iinc 5 1, 3) := by decide +kernel
theorem dX11_makesAll_46 : decode cX11_makesAll 46 = .ok (.goto (-24), 3) := by decide +kernel
theorem dX11_makesAll_49 : decode cX11_makesAll 49 = .ok (.iinc 4 (-1), 3) := by decide +kernel
theorem dX11_makesAll_52 : decode cX11_makesAll 52 = .ok (.goto (-42), 3) := by decide +kernel
theorem dX11_makesAll_55 : decode cX11_makesAll 55 = .ok (.iconst 0, 1) := by decide +kernel
theorem dX11_makesAll_56 : decode cX11_makesAll 56 = .ok (.istore 4, 2) := by decide +kernel
theorem dX11_makesAll_58 : decode cX11_makesAll 58 = .ok (.iload 4, 2) := by decide +kernel
theorem dX11_makesAll_60 : decode cX11_makesAll 60 = .ok (.aload_n 0, 1) := by decide +kernel
theorem dX11_makesAll_61 : decode cX11_makesAll 61 = .ok (.getfield 74, 3) := by decide +kernel
theorem dX11_makesAll_64 : decode cX11_makesAll 64 = .ok (.if_icmp .ge 49, 3) := by decide +kernel
theorem dX11_makesAll_67 : decode cX11_makesAll 67 = .ok (.iload_n 1, 1) := by decide +kernel
theorem dX11_makesAll_68 : decode cX11_makesAll 68 = .ok (.iconst 1, 1) := by decide +kernel
theorem dX11_makesAll_69 : decode cX11_makesAll 69 = .ok (.if_icmp .ne 44, 3) := by decide +kernel
theorem dX11_makesAll_72 : decode cX11_makesAll 72 = .ok (.iload 4, 2) := by decide +kernel
theorem dX11_makesAll_74 : decode cX11_makesAll 74 = .ok (.iconst 2, 1) := by decide +kernel
theorem dX11_makesAll_75 : decode cX11_makesAll 75 = .ok (.irem, 1) := by decide +kernel
theorem dX11_makesAll_76 : decode cX11_makesAll 76 = .ok (.istore 5, 2) := by decide +kernel
theorem dX11_makesAll_78 : decode cX11_makesAll 78 = .ok (.iload 5, 2) := by decide +kernel
theorem dX11_makesAll_80 : decode cX11_makesAll 80 = .ok (.aload_n 0, 1) := by decide +kernel
theorem dX11_makesAll_81 : decode cX11_makesAll 81 = .ok (.getfield 74, 3) := by decide +kernel
theorem dX11_makesAll_84 : decode cX11_makesAll 84 = .ok (.if_icmp .ge 23, 3) := by decide +kernel
theorem dX11_makesAll_87 : decode cX11_makesAll 87 = .ok (.iload_n 3, 1) := by decide +kernel
theorem dX11_makesAll_88 : decode cX11_makesAll 88 = .ok (.aload_n 0, 1) := by decide +kernel
theorem dX11_makesAll_89 : decode cX11_makesAll 89 = .ok (.iload 5, 2) := by decide +kernel
theorem dX11_makesAll_91 : decode cX11_makesAll 91 = .ok (.iload 5, 2) := by decide +kernel
theorem dX11_makesAll_93 : decode cX11_makesAll 93 = .ok (.iconst 1, 1) := by decide +kernel
theorem dX11_makesAll_94 : decode cX11_makesAll 94 = .ok (.iadd, 1) := by decide +kernel
theorem dX11_makesAll_95 : decode cX11_makesAll 95 = .ok (.iload_n 2, 1) := by decide +kernel
theorem dX11_makesAll_96 : decode cX11_makesAll 96 = .ok (.invokevirtual 112, 3) := by decide +kernel
theorem dX11_makesAll_99 : decode cX11_makesAll 99 = .ok (.iadd, 1) := by decide +kernel
theorem dX11_makesAll_100 : decode cX11_makesAll 100 = .ok (.istore_n 3, 1) := by decide +kernel
theorem dX11_makesAll_101 : decode cX11_makesAll 101 = .ok (.iinc 5 2, 3) := by decide +kernel
theorem dX11_makesAll_104 : decode cX11_makesAll 104 = .ok (.goto (-26), 3) := by decide +kernel
theorem dX11_makesAll_107 : decode cX11_makesAll 107 = .ok (.iinc 4 1, 3) := by decide +kernel
theorem dX11_makesAll_110 : decode cX11_makesAll 110 = .ok (.goto (-52), 3) := by decide +kernel
theorem dX11_makesAll_113 : decode cX11_makesAll 113 = .ok (.aload_n 0, 1) := by decide +kernel
theorem dX11_makesAll_114 : decode cX11_makesAll 114 = .ok (.getfield 74, 3) := by decide +kernel
theorem dX11_makesAll_117 : decode cX11_makesAll 117 = .ok (.iconst 2, 1) := by decide +kernel
theorem dX11_makesAll_118 : decode cX11_makesAll 118 = .ok (.if_icmp .gt 7, 3) := by decide +kernel
theorem dX11_makesAll_121 : decode cX11_makesAll 121 = .ok (.iconst 2, 1) := by decide +kernel
theorem dX11_makesAll_122 : decode cX11_makesAll 122 = .ok (.goto 17, 3) := by decide +kernel
theorem dX11_makesAll_125 : decode cX11_makesAll 125 = .ok (.aload_n 0, 1) := by decide +kernel
theorem dX11_makesAll_126 : decode cX11_makesAll 126 = .ok (.getfield 74, 3) := by decide +kernel
theorem dX11_makesAll_129 : decode cX11_makesAll 129 = .ok (.iconst 4, 1) := by decide +kernel
theorem dX11_makesAll_130 : decode cX11_makesAll 130 = .ok (.if_icmp .gt 7, 3) := by decide +kernel
theorem dX11_makesAll_133 : decode cX11_makesAll 133 = .ok (.iconst 4, 1) := by decide +kernel
theorem dX11_makesAll_134 : decode cX11_makesAll 134 = .ok (.goto 5, 3) := by decide +kernel
theorem dX11_makesAll_137 : decode cX11_makesAll 137 = .ok (.bipush 8, 2) := by decide +kernel
theorem dX11_makesAll_139 : decode cX11_makesAll 139 = .ok (.istore 4, 2) := by decide +kernel
theorem dX11_makesAll_141 : decode cX11_makesAll 141 = .ok (.iload 4, 2) := by decide +kernel
theorem dX11_makesAll_143 : decode cX11_makesAll 143 = .ok (.iconst 2, 1) := by decide +kernel
theorem dX11_makesAll_144 : decode cX11_makesAll 144 = .ok (.idiv, 1) := by decide +kernel
theorem dX11_makesAll_145 : decode cX11_makesAll 145 = .ok (.istore 5, 2) := by decide +kernel
theorem dX11_makesAll_147 : decode cX11_makesAll 147 = .ok (.iload 5, 2) := by decide +kernel
theorem dX11_makesAll_149 : decode cX11_makesAll 149 = .ok (.ifCond .le 132, 3) := by decide +kernel
theorem dX11_makesAll_152 : decode cX11_makesAll 152 = .ok (.iload_n 1, 1) := by decide +kernel
theorem dX11_makesAll_153 : decode cX11_makesAll 153 = .ok (.iconst 2, 1) := by decide +kernel
theorem dX11_makesAll_154 : decode cX11_makesAll 154 = .ok (.if_icmp .ne 127, 3) := by decide +kernel
theorem dX11_makesAll_157 : decode cX11_makesAll 157 = .ok (.iconst 0, 1) := by decide +kernel
theorem dX11_makesAll_158 : decode cX11_makesAll 158 = .ok (.istore 6, 2) := by decide +kernel
theorem dX11_makesAll_160 : decode cX11_makesAll 160 = .ok (.iload 6, 2) := by decide +kernel
theorem dX11_makesAll_162 : decode cX11_makesAll 162 = .ok (.aload_n 0, 1) := by decide +kernel
theorem dX11_makesAll_163 : decode cX11_makesAll 163 = .ok (.getfield 74, 3) := by decide +kernel
theorem dX11_makesAll_166 : decode cX11_makesAll 166 = .ok (.if_icmp .ge 36, 3) := by decide +kernel
theorem dX11_makesAll_169 : decode cX11_makesAll 169 = .ok (.iload_n 3, 1) := by decide +kernel
theorem dX11_makesAll_170 : decode cX11_makesAll 170 = .ok (.iload 6, 2) := by decide +kernel
theorem dX11_makesAll_172 : decode cX11_makesAll 172 = .ok (.iload 5, 2) := by decide +kernel
theorem dX11_makesAll_174 : decode cX11_makesAll 174 = .ok (.iand, 1) := by decide +kernel
theorem dX11_makesAll_175 : decode cX11_makesAll 175 = .ok (.ifCond .ne 18, 3) := by decide +kernel
theorem dX11_makesAll_178 : decode cX11_makesAll 178 = .ok (.aload_n 0, 1) := by decide +kernel
theorem dX11_makesAll_179 : decode cX11_makesAll 179 = .ok (.iload 6, 2) := by decide +kernel
theorem dX11_makesAll_181 : decode cX11_makesAll 181 = .ok (.iload 6, 2) := by decide +kernel
theorem dX11_makesAll_183 : decode cX11_makesAll 183 = .ok (.iload 5, 2) := by decide +kernel
theorem dX11_makesAll_185 : decode cX11_makesAll 185 = .ok (.iadd, 1) := by decide +kernel
theorem dX11_makesAll_186 : decode cX11_makesAll 186 = .ok (.iload_n 2, 1) := by decide +kernel
theorem dX11_makesAll_187 : decode cX11_makesAll 187 = .ok (.invokevirtual 112, 3) := by decide +kernel
theorem dX11_makesAll_190 : decode cX11_makesAll 190 = .ok (.goto 4, 3) := by decide +kernel
theorem dX11_makesAll_193 : decode cX11_makesAll 193 = .ok (.iconst 0, 1) := by decide +kernel
theorem dX11_makesAll_194 : decode cX11_makesAll 194 = .ok (.iadd, 1) := by decide +kernel
theorem dX11_makesAll_195 : decode cX11_makesAll 195 = .ok (.istore_n 3, 1) := by decide +kernel
theorem dX11_makesAll_196 : decode cX11_makesAll 196 = .ok (.iinc 6 1, 3) := by decide +kernel
theorem dX11_makesAll_199 : decode cX11_makesAll 199 = .ok (.goto (-39), 3) := by decide +kernel
theorem dX11_makesAll_202 : decode cX11_makesAll 202 = .ok (.iload 4, 2) := by decide +kernel
theorem dX11_makesAll_204 : decode cX11_makesAll 204 = .ok (.iconst 2, 1) := by decide +kernel
theorem dX11_makesAll_205 : decode cX11_makesAll 205 = .ok (.idiv, 1) := by decide +kernel
theorem dX11_makesAll_206 : decode cX11_makesAll 206 = .ok (.istore 6, 2) := by decide +kernel
theorem dX11_makesAll_208 : decode cX11_makesAll 208 = .ok (.iload 6, 2) := by decide +kernel
theorem dX11_makesAll_210 : decode cX11_makesAll 210 = .ok (.iload 5, 2) := by decide +kernel
theorem dX11_makesAll_212 : decode cX11_makesAll 212 = .ok (.if_icmp .le 60, 3) := by decide +kernel
theorem dX11_makesAll_215 : decode cX11_makesAll 215 = .ok (.iconst 0, 1) := by decide +kernel
theorem dX11_makesAll_216 : decode cX11_makesAll 216 = .ok (.istore 7, 2) := by decide +kernel
theorem dX11_makesAll_218 : decode cX11_makesAll 218 = .ok (.iload 7, 2) := by decide +kernel
theorem dX11_makesAll_220 : decode cX11_makesAll 220 = .ok (.aload_n 0, 1) := by decide +kernel
theorem dX11_makesAll_221 : decode cX11_makesAll 221 = .ok (.getfield 74, 3) := by decide +kernel
theorem dX11_makesAll_224 : decode cX11_makesAll 224 = .ok (.if_icmp .ge 39, 3) := by decide +kernel
theorem dX11_makesAll_227 : decode cX11_makesAll 227 = .ok (.iload_n 3, 1) := by decide +kernel
theorem dX11_makesAll_228 : decode cX11_makesAll 228 = .ok (.iload 7, 2) := by decide +kernel
theorem dX11_makesAll_230 : decode cX11_makesAll 230 = .ok (.iload 5, 2) := by decide +kernel
theorem dX11_makesAll_232 : decode cX11_makesAll 232 = .ok (.iand, 1) := by decide +kernel
theorem dX11_makesAll_233 : decode cX11_makesAll 233 = .ok (.ifCond .eq 21, 3) := by decide +kernel
theorem dX11_makesAll_236 : decode cX11_makesAll 236 = .ok (.aload_n 0, 1) := by decide +kernel
theorem dX11_makesAll_237 : decode cX11_makesAll 237 = .ok (.iload 7, 2) := by decide +kernel
theorem dX11_makesAll_239 : decode cX11_makesAll 239 = .ok (.iload 7, 2) := by decide +kernel
theorem dX11_makesAll_241 : decode cX11_makesAll 241 = .ok (.iload 6, 2) := by decide +kernel
theorem dX11_makesAll_243 : decode cX11_makesAll 243 = .ok (.iadd, 1) := by decide +kernel
theorem dX11_makesAll_244 : decode cX11_makesAll 244 = .ok (.iload 5, 2) := by decide +kernel
theorem dX11_makesAll_246 : decode cX11_makesAll 246 = .ok (.isub, 1) := by decide +kernel
theorem dX11_makesAll_247 : decode cX11_makesAll 247 = .ok (.iload_n 2, 1) := by decide +kernel
theorem dX11_makesAll_248 : decode cX11_makesAll 248 = .ok (.invokevirtual 112, 3) := by decide +kernel
theorem dX11_makesAll_251 : decode cX11_makesAll 251 = .ok (.goto 4, 3) := by decide +kernel
theorem dX11_makesAll_254 : decode cX11_makesAll 254 = .ok (.iconst 0, 1) := by decide +kernel
theorem dX11_makesAll_255 : decode cX11_makesAll 255 = .ok (.iadd, 1) := by decide +kernel
theorem dX11_makesAll_256 : decode cX11_makesAll 256 = .ok (.istore_n 3, 1) := by decide +kernel
theorem dX11_makesAll_257 : decode cX11_makesAll 257 = .ok (.iinc 7 1, 3) := by decide +kernel
theorem dX11_makesAll_260 : decode cX11_makesAll 260 = .ok (.goto (-42), 3) := by decide +kernel
theorem dX11_makesAll_263 : decode cX11_makesAll 263 = .ok (.iload 6, 2) := by decide +kernel
theorem dX11_makesAll_265 : decode cX11_makesAll 265 = .ok (.iconst 2, 1) := by decide +kernel
theorem dX11_makesAll_266 : decode cX11_makesAll 266 = .ok (.idiv, 1) := by decide +kernel
theorem dX11_makesAll_267 : decode cX11_makesAll 267 = .ok (.istore 6, 2) := by decide +kernel
theorem dX11_makesAll_269 : decode cX11_makesAll 269 = .ok (.goto (-61), 3) := by decide +kernel
theorem dX11_makesAll_272 : decode cX11_makesAll 272 = .ok (.iload 5, 2) := by decide +kernel
theorem dX11_makesAll_274 : decode cX11_makesAll 274 = .ok (.iconst 2, 1) := by decide +kernel
theorem dX11_makesAll_275 : decode cX11_makesAll 275 = .ok (.idiv, 1) := by decide +kernel
theorem dX11_makesAll_276 : decode cX11_makesAll 276 = .ok (.istore 5, 2) := by decide +kernel
theorem dX11_makesAll_278 : decode cX11_makesAll 278 = .ok (.goto (-131), 3) := by decide +kernel
theorem dX11_makesAll_281 : decode cX11_makesAll 281 = .ok (.iload_n 3, 1) := by decide +kernel
theorem dX11_makesAll_282 : decode cX11_makesAll 282 = .ok (.ireturn, 1) := by decide +kernel
theorem dX11_make_0 : decode cX11_make 0 = .ok (.aload_n 0, 1) := by decide +kernel
theorem dX11_make_1 : decode cX11_make 1 = .ok (.iload_n 1, 1) := by decide +kernel
theorem dX11_make_2 : decode cX11_make 2 = .ok (.iconst 0, 1) := by decide +kernel
theorem dX11_make_3 : decode cX11_make 3 = .ok (.iconst 2, 1) := by decide +kernel
theorem dX11_make_4 : decode cX11_make 4 = .ok (.invokestatic 77, 3) := by decide +kernel
theorem dX11_make_7 : decode cX11_make 7 = .ok (.ifCond .ne 7, 3) := by decide +kernel
theorem dX11_make_10 : decode cX11_make 10 = .ok (.iconst 1, 1) := by decide +kernel
theorem dX11_make_11 : decode cX11_make 11 = .ok (.goto 24, 3) := by decide +kernel
theorem dX11_make_14 : decode cX11_make 14 = .ok (.aload_n 0, 1) := by decide +kernel
theorem dX11_make_15 : decode cX11_make 15 = .ok (.getfield 81, 3) := by decide +kernel
theorem dX11_make_18 : decode cX11_make 18 = .ok (.aload_n 0, 1) := by decide +kernel
theorem dX11_make_19 : decode cX11_make 19 = .ok (.iload_n 1, 1) := by decide +kernel
theorem dX11_make_20 : decode cX11_make 20 = .ok (.iconst 1, 1) := by decide +kernel
theorem dX11_make_21 : decode cX11_make 21 = .ok (.invokevirtual 116, 3) := by decide +kernel
theorem dX11_make_24 : decode cX11_make 24 = .ok (.iadd, 1) := by decide +kernel
theorem dX11_make_25 : decode cX11_make 25 = .ok (.bipush 24, 2) := by decide +kernel
theorem dX11_make_27 : decode cX11_make 27 = .ok (.if_icmp .le 7, 3) := by decide +kernel
theorem dX11_make_30 : decode cX11_make 30 = .ok (.iconst 2, 1) := by decide +kernel
