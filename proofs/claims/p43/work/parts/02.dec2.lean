theorem dX6_listSteps_0 : decode cX6_listSteps 0 = .ok (.aload_n 0, 1) := by decide +kernel
theorem dX6_listSteps_1 : decode cX6_listSteps 1 = .ok (.iconst 0, 1) := by decide +kernel
theorem dX6_listSteps_2 : decode cX6_listSteps 2 = .ok (.putfield 22, 3) := by decide +kernel
theorem dX6_listSteps_5 : decode cX6_listSteps 5 = .ok (.iload_n 1, 1) := by decide +kernel
theorem dX6_listSteps_6 : decode cX6_listSteps 6 = .ok (.tableswitch 54 0 2 #[26, 35, 46], 26) := by decide +kernel
theorem dX6_listSteps_32 : decode cX6_listSteps 32 = .ok (.aload_n 0, 1) := by decide +kernel
theorem dX6_listSteps_33 : decode cX6_listSteps 33 = .ok (.iconst 1, 1) := by decide +kernel
theorem dX6_listSteps_34 : decode cX6_listSteps 34 = .ok (.iload_n 2, 1) := by decide +kernel
theorem dX6_listSteps_35 : decode cX6_listSteps 35 = .ok (.invokevirtual 59, 3) := by decide +kernel
theorem dX6_listSteps_38 : decode cX6_listSteps 38 = .ok (.goto 27, 3) := by decide +kernel
theorem dX6_listSteps_41 : decode cX6_listSteps 41 = .ok (.aload_n 0, 1) := by decide +kernel
theorem dX6_listSteps_42 : decode cX6_listSteps 42 = .ok (.iload_n 2, 1) := by decide +kernel
theorem dX6_listSteps_43 : decode cX6_listSteps 43 = .ok (.iconst 1, 1) := by decide +kernel
theorem dX6_listSteps_44 : decode cX6_listSteps 44 = .ok (.isub, 1) := by decide +kernel
theorem dX6_listSteps_45 : decode cX6_listSteps 45 = .ok (.iload_n 2, 1) := by decide +kernel
theorem dX6_listSteps_46 : decode cX6_listSteps 46 = .ok (.invokevirtual 59, 3) := by decide +kernel
theorem dX6_listSteps_49 : decode cX6_listSteps 49 = .ok (.goto 16, 3) := by decide +kernel
theorem dX6_listSteps_52 : decode cX6_listSteps 52 = .ok (.aload_n 0, 1) := by decide +kernel
theorem dX6_listSteps_53 : decode cX6_listSteps 53 = .ok (.iload_n 2, 1) := by decide +kernel
theorem dX6_listSteps_54 : decode cX6_listSteps 54 = .ok (.invokevirtual 62, 3) := by decide +kernel
theorem dX6_listSteps_57 : decode cX6_listSteps 57 = .ok (.goto 8, 3) := by decide +kernel
theorem dX6_listSteps_60 : decode cX6_listSteps 60 = .ok (.aload_n 0, 1) := by decide +kernel
theorem dX6_listSteps_61 : decode cX6_listSteps 61 = .ok (.iload_n 2, 1) := by decide +kernel
theorem dX6_listSteps_62 : decode cX6_listSteps 62 = .ok (.invokevirtual 66, 3) := by decide +kernel
theorem dX6_listSteps_65 : decode cX6_listSteps 65 = .ok (.return_, 1) := by decide +kernel
theorem dX6_append_0 : decode cX6_append 0 = .ok (.aload_n 0, 1) := by decide +kernel
theorem dX6_append_1 : decode cX6_append 1 = .ok (.getfield 22, 3) := by decide +kernel
theorem dX6_append_4 : decode cX6_append 4 = .ok (.bipush 35, 2) := by decide +kernel
theorem dX6_append_6 : decode cX6_append 6 = .ok (.if_icmp .ge 23, 3) := by decide +kernel
theorem dX6_append_9 : decode cX6_append 9 = .ok (.aload_n 0, 1) := by decide +kernel
theorem dX6_append_10 : decode cX6_append 10 = .ok (.getfield 19, 3) := by decide +kernel
theorem dX6_append_13 : decode cX6_append 13 = .ok (.aload_n 0, 1) := by decide +kernel
theorem dX6_append_14 : decode cX6_append 14 = .ok (.getfield 22, 3) := by decide +kernel
theorem dX6_append_17 : decode cX6_append 17 = .ok (.iload_n 1, 1) := by decide +kernel
theorem dX6_append_18 : decode cX6_append 18 = .ok (.iastore, 1) := by decide +kernel
theorem dX6_append_19 : decode cX6_append 19 = .ok (.aload_n 0, 1) := by decide +kernel
theorem dX6_append_20 : decode cX6_append 20 = .ok (.dup, 1) := by decide +kernel
theorem dX6_append_21 : decode cX6_append 21 = .ok (.getfield 22, 3) := by decide +kernel
theorem dX6_append_24 : decode cX6_append 24 = .ok (.iconst 1, 1) := by decide +kernel
theorem dX6_append_25 : decode cX6_append 25 = .ok (.iadd, 1) := by decide +kernel
theorem dX6_append_26 : decode cX6_append 26 = .ok (.putfield 22, 3) := by decide +kernel
theorem dX6_append_29 : decode cX6_append 29 = .ok (.return_, 1) := by decide +kernel
theorem dX6_listChanges_0 : decode cX6_listChanges 0 = .ok (.iload_n 2, 1) := by decide +kernel
theorem dX6_listChanges_1 : decode cX6_listChanges 1 = .ok (.invokestatic 56, 3) := by decide +kernel
theorem dX6_listChanges_4 : decode cX6_listChanges 4 = .ok (.istore_n 3, 1) := by decide +kernel
theorem dX6_listChanges_5 : decode cX6_listChanges 5 = .ok (.iconst 0, 1) := by decide +kernel
theorem dX6_listChanges_6 : decode cX6_listChanges 6 = .ok (.istore 4, 2) := by decide +kernel
theorem dX6_listChanges_8 : decode cX6_listChanges 8 = .ok (.iload 4, 2) := by decide +kernel
theorem dX6_listChanges_10 : decode cX6_listChanges 10 = .ok (.iload_n 2, 1) := by decide +kernel
theorem dX6_listChanges_11 : decode cX6_listChanges 11 = .ok (.if_icmp .ge 48, 3) := by decide +kernel
theorem dX6_listChanges_14 : decode cX6_listChanges 14 = .ok (.iload 4, 2) := by decide +kernel
theorem dX6_listChanges_16 : decode cX6_listChanges 16 = .ok (.iconst 1, 1) := by decide +kernel
theorem dX6_listChanges_17 : decode cX6_listChanges 17 = .ok (.iadd, 1) := by decide +kernel
theorem dX6_listChanges_18 : decode cX6_listChanges 18 = .ok (.istore 5, 2) := by decide +kernel
theorem dX6_listChanges_20 : decode cX6_listChanges 20 = .ok (.iload 5, 2) := by decide +kernel
theorem dX6_listChanges_22 : decode cX6_listChanges 22 = .ok (.iload_n 2, 1) := by decide +kernel
theorem dX6_listChanges_23 : decode cX6_listChanges 23 = .ok (.if_icmp .ge 30, 3) := by decide +kernel
theorem dX6_listChanges_26 : decode cX6_listChanges 26 = .ok (.iload 5, 2) := by decide +kernel
theorem dX6_listChanges_28 : decode cX6_listChanges 28 = .ok (.iload 4, 2) := by decide +kernel
theorem dX6_listChanges_30 : decode cX6_listChanges 30 = .ok (.isub, 1) := by decide +kernel
theorem dX6_listChanges_31 : decode cX6_listChanges 31 = .ok (.iload_n 1, 1) := by decide +kernel
theorem dX6_listChanges_32 : decode cX6_listChanges 32 = .ok (.if_icmp .gt 21, 3) := by decide +kernel
theorem dX6_listChanges_35 : decode cX6_listChanges 35 = .ok (.aload_n 0, 1) := by decide +kernel
theorem dX6_listChanges_36 : decode cX6_listChanges 36 = .ok (.iload_n 3, 1) := by decide +kernel
theorem dX6_listChanges_37 : decode cX6_listChanges 37 = .ok (.iload 4, 2) := by decide +kernel
theorem dX6_listChanges_39 : decode cX6_listChanges 39 = .ok (.iload 5, 2) := by decide +kernel
theorem dX6_listChanges_41 : decode cX6_listChanges 41 = .ok (.invokestatic 69, 3) := by decide +kernel
theorem dX6_listChanges_44 : decode cX6_listChanges 44 = .ok (.invokevirtual 72, 3) := by decide +kernel
theorem dX6_listChanges_47 : decode cX6_listChanges 47 = .ok (.iinc 5 1, 3) := by decide +kernel
theorem dX6_listChanges_50 : decode cX6_listChanges 50 = .ok (.goto (-30), 3) := by decide +kernel
theorem dX6_listChanges_53 : decode cX6_listChanges 53 = .ok (.iinc 4 1, 3) := by decide +kernel
theorem dX6_listChanges_56 : decode cX6_listChanges 56 = .ok (.goto (-48), 3) := by decide +kernel
theorem dX6_listChanges_59 : decode cX6_listChanges 59 = .ok (.return_, 1) := by decide +kernel
theorem dX6_listFlips_0 : decode cX6_listFlips 0 = .ok (.iconst 2, 1) := by decide +kernel
theorem dX6_listFlips_1 : decode cX6_listFlips 1 = .ok (.istore_n 2, 1) := by decide +kernel
theorem dX6_listFlips_2 : decode cX6_listFlips 2 = .ok (.iload_n 2, 1) := by decide +kernel
theorem dX6_listFlips_3 : decode cX6_listFlips 3 = .ok (.iload_n 1, 1) := by decide +kernel
theorem dX6_listFlips_4 : decode cX6_listFlips 4 = .ok (.if_icmp .gt 60, 3) := by decide +kernel
theorem dX6_listFlips_7 : decode cX6_listFlips 7 = .ok (.iconst 0, 1) := by decide +kernel
theorem dX6_listFlips_8 : decode cX6_listFlips 8 = .ok (.istore_n 3, 1) := by decide +kernel
theorem dX6_listFlips_9 : decode cX6_listFlips 9 = .ok (.iconst 0, 1) := by decide +kernel
theorem dX6_listFlips_10 : decode cX6_listFlips 10 = .ok (.istore 4, 2) := by decide +kernel
theorem dX6_listFlips_12 : decode cX6_listFlips 12 = .ok (.iload 4, 2) := by decide +kernel
theorem dX6_listFlips_14 : decode cX6_listFlips 14 = .ok (.iload_n 1, 1) := by decide +kernel
theorem dX6_listFlips_15 : decode cX6_listFlips 15 = .ok (.if_icmp .ge 38, 3) := by decide +kernel
theorem dX6_listFlips_18 : decode cX6_listFlips 18 = .ok (.iload 4, 2) := by decide +kernel
theorem dX6_listFlips_20 : decode cX6_listFlips 20 = .ok (.iload_n 2, 1) := by decide +kernel
theorem dX6_listFlips_21 : decode cX6_listFlips 21 = .ok (.if_icmp .ge 12, 3) := by decide +kernel
theorem dX6_listFlips_24 : decode cX6_listFlips 24 = .ok (.iload_n 2, 1) := by decide +kernel
theorem dX6_listFlips_25 : decode cX6_listFlips 25 = .ok (.iconst 1, 1) := by decide +kernel
theorem dX6_listFlips_26 : decode cX6_listFlips 26 = .ok (.isub, 1) := by decide +kernel
theorem dX6_listFlips_27 : decode cX6_listFlips 27 = .ok (.iload 4, 2) := by decide +kernel
theorem dX6_listFlips_29 : decode cX6_listFlips 29 = .ok (.isub, 1) := by decide +kernel
theorem dX6_listFlips_30 : decode cX6_listFlips 30 = .ok (.goto 5, 3) := by decide +kernel
theorem dX6_listFlips_33 : decode cX6_listFlips 33 = .ok (.iload 4, 2) := by decide +kernel
theorem dX6_listFlips_35 : decode cX6_listFlips 35 = .ok (.istore 5, 2) := by decide +kernel
theorem dX6_listFlips_37 : decode cX6_listFlips 37 = .ok (.iload_n 3, 1) := by decide +kernel
theorem dX6_listFlips_38 : decode cX6_listFlips 38 = .ok (.iload 5, 2) := by decide +kernel
theorem dX6_listFlips_40 : decode cX6_listFlips 40 = .ok (.iconst 4, 1) := by decide +kernel
theorem dX6_listFlips_41 : decode cX6_listFlips 41 = .ok (.iload 4, 2) := by decide +kernel
theorem dX6_listFlips_43 : decode cX6_listFlips 43 = .ok (.imul, 1) := by decide +kernel
theorem dX6_listFlips_44 : decode cX6_listFlips 44 = .ok (.ishl, 1) := by decide +kernel
theorem dX6_listFlips_45 : decode cX6_listFlips 45 = .ok (.ior, 1) := by decide +kernel
theorem dX6_listFlips_46 : decode cX6_listFlips 46 = .ok (.istore_n 3, 1) := by decide +kernel
theorem dX6_listFlips_47 : decode cX6_listFlips 47 = .ok (.iinc 4 1, 3) := by decide +kernel
theorem dX6_listFlips_50 : decode cX6_listFlips 50 = .ok (.goto (-38), 3) := by decide +kernel
theorem dX6_listFlips_53 : decode cX6_listFlips 53 = .ok (.aload_n 0, 1) := by decide +kernel
theorem dX6_listFlips_54 : decode cX6_listFlips 54 = .ok (.iload_n 3, 1) := by decide +kernel
theorem dX6_listFlips_55 : decode cX6_listFlips 55 = .ok (.invokevirtual 72, 3) := by decide +kernel
theorem dX6_listFlips_58 : decode cX6_listFlips 58 = .ok (.iinc 2 1, 3) := by decide +kernel
theorem dX6_listFlips_61 : decode cX6_listFlips 61 = .ok (.goto (-59), 3) := by decide +kernel
theorem dX6_listFlips_64 : decode cX6_listFlips 64 = .ok (.return_, 1) := by decide +kernel
theorem dX6_listBlocks_0 : decode cX6_listBlocks 0 = .ok (.iconst 0, 1) := by decide +kernel
theorem dX6_listBlocks_1 : decode cX6_listBlocks 1 = .ok (.istore_n 2, 1) := by decide +kernel
theorem dX6_listBlocks_2 : decode cX6_listBlocks 2 = .ok (.iload_n 2, 1) := by decide +kernel
theorem dX6_listBlocks_3 : decode cX6_listBlocks 3 = .ok (.iload_n 1, 1) := by decide +kernel
theorem dX6_listBlocks_4 : decode cX6_listBlocks 4 = .ok (.if_icmp .ge 53, 3) := by decide +kernel
theorem dX6_listBlocks_7 : decode cX6_listBlocks 7 = .ok (.iload_n 2, 1) := by decide +kernel
theorem dX6_listBlocks_8 : decode cX6_listBlocks 8 = .ok (.iconst 1, 1) := by decide +kernel
theorem dX6_listBlocks_9 : decode cX6_listBlocks 9 = .ok (.iadd, 1) := by decide +kernel
theorem dX6_listBlocks_10 : decode cX6_listBlocks 10 = .ok (.istore_n 3, 1) := by decide +kernel
theorem dX6_listBlocks_11 : decode cX6_listBlocks 11 = .ok (.iload_n 3, 1) := by decide +kernel
theorem dX6_listBlocks_12 : decode cX6_listBlocks 12 = .ok (.iload_n 1, 1) := by decide +kernel
theorem dX6_listBlocks_13 : decode cX6_listBlocks 13 = .ok (.if_icmp .ge 38, 3) := by decide +kernel
theorem dX6_listBlocks_16 : decode cX6_listBlocks 16 = .ok (.iload_n 3, 1) := by decide +kernel
theorem dX6_listBlocks_17 : decode cX6_listBlocks 17 = .ok (.iconst 1, 1) := by decide +kernel
theorem dX6_listBlocks_18 : decode cX6_listBlocks 18 = .ok (.iadd, 1) := by decide +kernel
theorem dX6_listBlocks_19 : decode cX6_listBlocks 19 = .ok (.istore 4, 2) := by decide +kernel
theorem dX6_listBlocks_21 : decode cX6_listBlocks 21 = .ok (.iload 4, 2) := by decide +kernel
theorem dX6_listBlocks_23 : decode cX6_listBlocks 23 = .ok (.iload_n 1, 1) := by decide +kernel
theorem dX6_listBlocks_24 : decode cX6_listBlocks 24 = .ok (.if_icmp .gt 21, 3) := by decide +kernel
theorem dX6_listBlocks_27 : decode cX6_listBlocks 27 = .ok (.aload_n 0, 1) := by decide +kernel
theorem dX6_listBlocks_28 : decode cX6_listBlocks 28 = .ok (.iload_n 2, 1) := by decide +kernel
theorem dX6_listBlocks_29 : decode cX6_listBlocks 29 = .ok (.iload_n 3, 1) := by decide +kernel
theorem dX6_listBlocks_30 : decode cX6_listBlocks 30 = .ok (.iload 4, 2) := by decide +kernel
theorem dX6_listBlocks_32 : decode cX6_listBlocks 32 = .ok (.iload_n 1, 1) := by decide +kernel
theorem dX6_listBlocks_33 : decode cX6_listBlocks 33 = .ok (.invokestatic 75, 3) := by decide +kernel
theorem dX6_listBlocks_36 : decode cX6_listBlocks 36 = .ok (.invokevirtual 72, 3) := by decide +kernel
theorem dX6_listBlocks_39 : decode cX6_listBlocks 39 = .ok (.iinc 4 1, 3) := by decide +kernel
theorem dX6_listBlocks_42 : decode cX6_listBlocks 42 = .ok (.goto (-21), 3) := by decide +kernel
theorem dX6_listBlocks_45 : decode cX6_listBlocks 45 = .ok (.iinc 3 1, 3) := by decide +kernel
theorem dX6_listBlocks_48 : decode cX6_listBlocks 48 = .ok (.goto (-37), 3) := by decide +kernel
theorem dX6_listBlocks_51 : decode cX6_listBlocks 51 = .ok (.iinc 2 1, 3) := by decide +kernel
theorem dX6_listBlocks_54 : decode cX6_listBlocks 54 = .ok (.goto (-52), 3) := by decide +kernel
theorem dX6_listBlocks_57 : decode cX6_listBlocks 57 = .ok (.return_, 1) := by decide +kernel
theorem dX6_blocksChanged_0 : decode cX6_blocksChanged 0 = .ok (.iconst 0, 1) := by decide +kernel
theorem dX6_blocksChanged_1 : decode cX6_blocksChanged 1 = .ok (.istore 4, 2) := by decide +kernel
theorem dX6_blocksChanged_3 : decode cX6_blocksChanged 3 = .ok (.iconst 0, 1) := by decide +kernel
theorem dX6_blocksChanged_4 : decode cX6_blocksChanged 4 = .ok (.istore 5, 2) := by decide +kernel
theorem dX6_blocksChanged_6 : decode cX6_blocksChanged 6 = .ok (.iload 5, 2) := by decide +kernel
theorem dX6_blocksChanged_8 : decode cX6_blocksChanged 8 = .ok (.iload_n 3, 1) := by decide +kernel
theorem dX6_blocksChanged_9 : decode cX6_blocksChanged 9 = .ok (.if_icmp .ge 64, 3) := by decide +kernel
theorem dX6_blocksChanged_12 : decode cX6_blocksChanged 12 = .ok (.iload 5, 2) := by decide +kernel
theorem dX6_blocksChanged_14 : decode cX6_blocksChanged 14 = .ok (.istore 6, 2) := by decide +kernel
theorem dX6_blocksChanged_16 : decode cX6_blocksChanged 16 = .ok (.iload 5, 2) := by decide +kernel
theorem dX6_blocksChanged_18 : decode cX6_blocksChanged 18 = .ok (.iload_n 0, 1) := by decide +kernel
theorem dX6_blocksChanged_19 : decode cX6_blocksChanged 19 = .ok (.if_icmp .lt 36, 3) := by decide +kernel
theorem dX6_blocksChanged_22 : decode cX6_blocksChanged 22 = .ok (.iload 5, 2) := by decide +kernel
theorem dX6_blocksChanged_24 : decode cX6_blocksChanged 24 = .ok (.iload_n 2, 1) := by decide +kernel
theorem dX6_blocksChanged_25 : decode cX6_blocksChanged 25 = .ok (.if_icmp .ge 30, 3) := by decide +kernel
theorem dX6_blocksChanged_28 : decode cX6_blocksChanged 28 = .ok (.iload 5, 2) := by decide +kernel
theorem dX6_blocksChanged_30 : decode cX6_blocksChanged 30 = .ok (.iload_n 1, 1) := by decide +kernel
theorem dX6_blocksChanged_31 : decode cX6_blocksChanged 31 = .ok (.iadd, 1) := by decide +kernel
theorem dX6_blocksChanged_32 : decode cX6_blocksChanged 32 = .ok (.iload_n 0, 1) := by decide +kernel
theorem dX6_blocksChanged_33 : decode cX6_blocksChanged 33 = .ok (.isub, 1) := by decide +kernel
theorem dX6_blocksChanged_34 : decode cX6_blocksChanged 34 = .ok (.istore 6, 2) := by decide +kernel
theorem dX6_blocksChanged_36 : decode cX6_blocksChanged 36 = .ok (.iload 6, 2) := by decide +kernel
theorem dX6_blocksChanged_38 : decode cX6_blocksChanged 38 = .ok (.iload_n 2, 1) := by decide +kernel
theorem dX6_blocksChanged_39 : decode cX6_blocksChanged 39 = .ok (.if_icmp .ge 8, 3) := by decide +kernel
theorem dX6_blocksChanged_42 : decode cX6_blocksChanged 42 = .ok (.iload 6, 2) := by decide +kernel
theorem dX6_blocksChanged_44 : decode cX6_blocksChanged 44 = .ok (.goto 9, 3) := by decide +kernel
theorem dX6_blocksChanged_47 : decode cX6_blocksChanged 47 = .ok (.iload 6, 2) := by decide +kernel
theorem dX6_blocksChanged_49 : decode cX6_blocksChanged 49 = .ok (.iload_n 2, 1) := by decide +kernel
theorem dX6_blocksChanged_50 : decode cX6_blocksChanged 50 = .ok (.iload_n 0, 1) := by decide +kernel
theorem dX6_blocksChanged_51 : decode cX6_blocksChanged 51 = .ok (.isub, 1) := by decide +kernel
theorem dX6_blocksChanged_52 : decode cX6_blocksChanged 52 = .ok (.isub, 1) := by decide +kernel
theorem dX6_blocksChanged_53 : decode cX6_blocksChanged 53 = .ok (.istore 6, 2) := by decide +kernel
theorem dX6_blocksChanged_55 : decode cX6_blocksChanged 55 = .ok (.iload 4, 2) := by decide +kernel
theorem dX6_blocksChanged_57 : decode cX6_blocksChanged 57 = .ok (.iload 6, 2) := by decide +kernel
theorem dX6_blocksChanged_59 : decode cX6_blocksChanged 59 = .ok (.iconst 4, 1) := by decide +kernel
theorem dX6_blocksChanged_60 : decode cX6_blocksChanged 60 = .ok (.iload 5, 2) := by decide +kernel
theorem dX6_blocksChanged_62 : decode cX6_blocksChanged 62 = .ok (.imul, 1) := by decide +kernel
theorem dX6_blocksChanged_63 : decode cX6_blocksChanged 63 = .ok (.ishl, 1) := by decide +kernel
theorem dX6_blocksChanged_64 : decode cX6_blocksChanged 64 = .ok (.ior, 1) := by decide +kernel
theorem dX6_blocksChanged_65 : decode cX6_blocksChanged 65 = .ok (.istore 4, 2) := by decide +kernel
theorem dX6_blocksChanged_67 : decode cX6_blocksChanged 67 = .ok (.iinc 5 1, 3) := by decide +kernel
theorem dX6_blocksChanged_70 : decode cX6_blocksChanged 70 = .ok (.goto (-64), 3) := by decide +kernel
theorem dX6_blocksChanged_73 : decode cX6_blocksChanged 73 = .ok (.iload 4, 2) := by decide +kernel
theorem dX6_blocksChanged_75 : decode cX6_blocksChanged 75 = .ok (.ireturn, 1) := by decide +kernel
theorem dX7_init_0 : decode cX7_init 0 = .ok (.aload_n 0, 1) := by decide +kernel
theorem dX7_init_1 : decode cX7_init 1 = .ok (.invokespecial 3, 3) := by decide +kernel
theorem dX7_init_4 : decode cX7_init 4 = .ok (.aload_n 0, 1) := by decide +kernel
theorem dX7_init_5 : decode cX7_init 5 = .ok (.sipush 720, 3) := by decide +kernel
theorem dX7_init_8 : decode cX7_init 8 = .ok (.newarray .int, 2) := by decide +kernel
theorem dX7_init_10 : decode cX7_init 10 = .ok (.putfield 9, 3) := by decide +kernel
theorem dX7_init_13 : decode cX7_init 13 = .ok (.aload_n 0, 1) := by decide +kernel
theorem dX7_init_14 : decode cX7_init 14 = .ok (.sipush 720, 3) := by decide +kernel
theorem dX7_init_17 : decode cX7_init 17 = .ok (.newarray .byte, 2) := by decide +kernel
theorem dX7_init_19 : decode cX7_init 19 = .ok (.putfield 15, 3) := by decide +kernel
theorem dX7_init_22 : decode cX7_init 22 = .ok (.aload_n 0, 1) := by decide +kernel
theorem dX7_init_23 : decode cX7_init 23 = .ok (.iconst 0, 1) := by decide +kernel
theorem dX7_init_24 : decode cX7_init 24 = .ok (.putfield 19, 3) := by decide +kernel
theorem dX7_init_27 : decode cX7_init 27 = .ok (.return_, 1) := by decide +kernel
theorem dX7_forget_0 : decode cX7_forget 0 = .ok (.aload_n 0, 1) := by decide +kernel
theorem dX7_forget_1 : decode cX7_forget 1 = .ok (.iconst 0, 1) := by decide +kernel
theorem dX7_forget_2 : decode cX7_forget 2 = .ok (.putfield 19, 3) := by decide +kernel
theorem dX7_forget_5 : decode cX7_forget 5 = .ok (.return_, 1) := by decide +kernel
theorem dX7_rowsOut_0 : decode cX7_rowsOut 0 = .ok (.aload_n 0, 1) := by decide +kernel
theorem dX7_rowsOut_1 : decode cX7_rowsOut 1 = .ok (.aload_n 1, 1) := by decide +kernel
theorem dX7_rowsOut_2 : decode cX7_rowsOut 2 = .ok (.invokevirtual 23, 3) := by decide +kernel
theorem dX7_rowsOut_5 : decode cX7_rowsOut 5 = .ok (.aload_n 0, 1) := by decide +kernel
theorem dX7_rowsOut_6 : decode cX7_rowsOut 6 = .ok (.getfield 19, 3) := by decide +kernel
theorem dX7_rowsOut_9 : decode cX7_rowsOut 9 = .ok (.ireturn, 1) := by decide +kernel
theorem dX7_lowestFor_0 : decode cX7_lowestFor 0 = .ok (.aload_n 0, 1) := by decide +kernel
theorem dX7_lowestFor_1 : decode cX7_lowestFor 1 = .ok (.aload_n 1, 1) := by decide +kernel
theorem dX7_lowestFor_2 : decode cX7_lowestFor 2 = .ok (.invokevirtual 23, 3) := by decide +kernel
theorem dX7_lowestFor_5 : decode cX7_lowestFor 5 = .ok (.aload_n 1, 1) := by decide +kernel
theorem dX7_lowestFor_6 : decode cX7_lowestFor 6 = .ok (.getfield 27, 3) := by decide +kernel
theorem dX7_lowestFor_9 : decode cX7_lowestFor 9 = .ok (.istore_n 3, 1) := by decide +kernel
theorem dX7_lowestFor_10 : decode cX7_lowestFor 10 = .ok (.aload_n 0, 1) := by decide +kernel
theorem dX7_lowestFor_11 : decode cX7_lowestFor 11 = .ok (.getfield 15, 3) := by decide +kernel
theorem dX7_lowestFor_14 : decode cX7_lowestFor 14 = .ok (.iload_n 2, 1) := by decide +kernel
theorem dX7_lowestFor_15 : decode cX7_lowestFor 15 = .ok (.iload_n 3, 1) := by decide +kernel
theorem dX7_lowestFor_16 : decode cX7_lowestFor 16 = .ok (.invokestatic 32, 3) := by decide +kernel
theorem dX7_lowestFor_19 : decode cX7_lowestFor 19 = .ok (.baload, 1) := by decide +kernel
theorem dX7_lowestFor_20 : decode cX7_lowestFor 20 = .ok (.ifCond .ne 5, 3) := by decide +kernel
theorem dX7_lowestFor_23 : decode cX7_lowestFor 23 = .ok (.iconst (-1), 1) := by decide +kernel
theorem dX7_lowestFor_24 : decode cX7_lowestFor 24 = .ok (.ireturn, 1) := by decide +kernel
theorem dX7_lowestFor_25 : decode cX7_lowestFor 25 = .ok (.iconst 0, 1) := by decide +kernel
theorem dX7_lowestFor_26 : decode cX7_lowestFor 26 = .ok (.istore 4, 2) := by decide +kernel
theorem dX7_lowestFor_28 : decode cX7_lowestFor 28 = .ok (.iload_n 2, 1) := by decide +kernel
theorem dX7_lowestFor_29 : decode cX7_lowestFor 29 = .ok (.istore 5, 2) := by decide +kernel
theorem dX7_lowestFor_31 : decode cX7_lowestFor 31 = .ok (.aload_n 1, 1) := by decide +kernel
theorem dX7_lowestFor_32 : decode cX7_lowestFor 32 = .ok (.getfield 38, 3) := by decide +kernel
theorem dX7_lowestFor_35 : decode cX7_lowestFor 35 = .ok (.iconst 1, 1) := by decide +kernel
theorem dX7_lowestFor_36 : decode cX7_lowestFor 36 = .ok (.isub, 1) := by decide +kernel
theorem dX7_lowestFor_37 : decode cX7_lowestFor 37 = .ok (.istore 6, 2) := by decide +kernel
theorem dX7_lowestFor_39 : decode cX7_lowestFor 39 = .ok (.iload 6, 2) := by decide +kernel
theorem dX7_lowestFor_41 : decode cX7_lowestFor 41 = .ok (.ifCond .lt 57, 3) := by decide +kernel
theorem dX7_lowestFor_44 : decode cX7_lowestFor 44 = .ok (.aload_n 0, 1) := by decide +kernel
theorem dX7_lowestFor_45 : decode cX7_lowestFor 45 = .ok (.getfield 15, 3) := by decide +kernel
theorem dX7_lowestFor_48 : decode cX7_lowestFor 48 = .ok (.iload 5, 2) := by decide +kernel
theorem dX7_lowestFor_50 : decode cX7_lowestFor 50 = .ok (.iload_n 3, 1) := by decide +kernel
theorem dX7_lowestFor_51 : decode cX7_lowestFor 51 = .ok (.invokestatic 32, 3) := by decide +kernel
theorem dX7_lowestFor_54 : decode cX7_lowestFor 54 = .ok (.baload, 1) := by decide +kernel
theorem dX7_lowestFor_55 : decode cX7_lowestFor 55 = .ok (.iload 6, 2) := by decide +kernel
theorem dX7_lowestFor_57 : decode cX7_lowestFor 57 = .ok (.iconst 1, 1) := by decide +kernel
theorem dX7_lowestFor_58 : decode cX7_lowestFor 58 = .ok (.iadd, 1) := by decide +kernel
theorem dX7_lowestFor_59 : decode cX7_lowestFor 59 = .ok (.if_icmp .le 33, 3) := by decide +kernel
theorem dX7_lowestFor_62 : decode cX7_lowestFor 62 = .ok (.iload 4, 2) := by decide +kernel
theorem dX7_lowestFor_64 : decode cX7_lowestFor 64 = .ok (.iconst 1, 1) := by decide +kernel
theorem dX7_lowestFor_65 : decode cX7_lowestFor 65 = .ok (.iload 6, 2) := by decide +kernel
theorem dX7_lowestFor_67 : decode cX7_lowestFor 67 = .ok (.ishl, 1) := by decide +kernel
theorem dX7_lowestFor_68 : decode cX7_lowestFor 68 = .ok (.ior, 1) := by decide +kernel
theorem dX7_lowestFor_69 : decode cX7_lowestFor 69 = .ok (.istore 4, 2) := by decide +kernel
theorem dX7_lowestFor_71 : decode cX7_lowestFor 71 = .ok (.iload 5, 2) := by decide +kernel
theorem dX7_lowestFor_73 : decode cX7_lowestFor 73 = .ok (.aload_n 1, 1) := by decide +kernel
theorem dX7_lowestFor_74 : decode cX7_lowestFor 74 = .ok (.getfield 39, 3) := by decide +kernel
theorem dX7_lowestFor_77 : decode cX7_lowestFor 77 = .ok (.iload 6, 2) := by decide +kernel
theorem dX7_lowestFor_79 : decode cX7_lowestFor 79 = .ok (.iaload, 1) := by decide +kernel
theorem dX7_lowestFor_80 : decode cX7_lowestFor 80 = .ok (.aload_n 1, 1) := by decide +kernel
theorem dX7_lowestFor_81 : decode cX7_lowestFor 81 = .ok (.getfield 42, 3) := by decide +kernel
theorem dX7_lowestFor_84 : decode cX7_lowestFor 84 = .ok (.iload 6, 2) := by decide +kernel
theorem dX7_lowestFor_86 : decode cX7_lowestFor 86 = .ok (.iaload, 1) := by decide +kernel
theorem dX7_lowestFor_87 : decode cX7_lowestFor 87 = .ok (.invokestatic 45, 3) := by decide +kernel
theorem dX7_lowestFor_90 : decode cX7_lowestFor 90 = .ok (.istore 5, 2) := by decide +kernel
theorem dX7_lowestFor_92 : decode cX7_lowestFor 92 = .ok (.iinc 6 (-1), 3) := by decide +kernel
theorem dX7_lowestFor_95 : decode cX7_lowestFor 95 = .ok (.goto (-56), 3) := by decide +kernel
theorem dX7_lowestFor_98 : decode cX7_lowestFor 98 = .ok (.iload 4, 2) := by decide +kernel
theorem dX7_lowestFor_100 : decode cX7_lowestFor 100 = .ok (.ireturn, 1) := by decide +kernel
theorem dX7_learn_0 : decode cX7_learn 0 = .ok (.aload_n 0, 1) := by decide +kernel
theorem dX7_learn_1 : decode cX7_learn 1 = .ok (.getfield 19, 3) := by decide +kernel
theorem dX7_learn_4 : decode cX7_learn 4 = .ok (.ifCond .le 4, 3) := by decide +kernel
theorem dX7_learn_7 : decode cX7_learn 7 = .ok (.return_, 1) := by decide +kernel
theorem dX7_learn_8 : decode cX7_learn 8 = .ok (.aload_n 1, 1) := by decide +kernel
theorem dX7_learn_9 : decode cX7_learn 9 = .ok (.getfield 27, 3) := by decide +kernel
theorem dX7_learn_12 : decode cX7_learn 12 = .ok (.istore_n 2, 1) := by decide +kernel
theorem dX7_learn_13 : decode cX7_learn 13 = .ok (.iconst 0, 1) := by decide +kernel
theorem dX7_learn_14 : decode cX7_learn 14 = .ok (.istore_n 3, 1) := by decide +kernel
theorem dX7_learn_15 : decode cX7_learn 15 = .ok (.iload_n 3, 1) := by decide +kernel
theorem dX7_learn_16 : decode cX7_learn 16 = .ok (.sipush 720, 3) := by decide +kernel
theorem dX7_learn_19 : decode cX7_learn 19 = .ok (.if_icmp .ge 16, 3) := by decide +kernel
theorem dX7_learn_22 : decode cX7_learn 22 = .ok (.aload_n 0, 1) := by decide +kernel
theorem dX7_learn_23 : decode cX7_learn 23 = .ok (.getfield 15, 3) := by decide +kernel
theorem dX7_learn_26 : decode cX7_learn 26 = .ok (.iload_n 3, 1) := by decide +kernel
theorem dX7_learn_27 : decode cX7_learn 27 = .ok (.iconst 0, 1) := by decide +kernel
theorem dX7_learn_28 : decode cX7_learn 28 = .ok (.bastore, 1) := by decide +kernel
theorem dX7_learn_29 : decode cX7_learn 29 = .ok (.iinc 3 1, 3) := by decide +kernel
theorem dX7_learn_32 : decode cX7_learn 32 = .ok (.goto (-17), 3) := by decide +kernel
theorem dX7_learn_35 : decode cX7_learn 35 = .ok (.aload_n 0, 1) := by decide +kernel
theorem dX7_learn_36 : decode cX7_learn 36 = .ok (.iload_n 2, 1) := by decide +kernel
theorem dX7_learn_37 : decode cX7_learn 37 = .ok (.invokestatic 49, 3) := by decide +kernel
theorem dX7_learn_40 : decode cX7_learn 40 = .ok (.iload_n 2, 1) := by decide +kernel
theorem dX7_learn_41 : decode cX7_learn 41 = .ok (.iconst 1, 1) := by decide +kernel
theorem dX7_learn_42 : decode cX7_learn 42 = .ok (.invokevirtual 53, 3) := by decide +kernel
theorem dX7_learn_45 : decode cX7_learn 45 = .ok (.iconst 0, 1) := by decide +kernel
theorem dX7_learn_46 : decode cX7_learn 46 = .ok (.istore_n 3, 1) := by decide +kernel
theorem dX7_learn_47 : decode cX7_learn 47 = .ok (.iload_n 3, 1) := by decide +kernel
theorem dX7_learn_48 : decode cX7_learn 48 = .ok (.aload_n 1, 1) := by decide +kernel
theorem dX7_learn_49 : decode cX7_learn 49 = .ok (.getfield 38, 3) := by decide +kernel
theorem dX7_learn_52 : decode cX7_learn 52 = .ok (.if_icmp .ge 76, 3) := by decide +kernel
theorem dX7_learn_55 : decode cX7_learn 55 = .ok (.aload_n 0, 1) := by decide +kernel
theorem dX7_learn_56 : decode cX7_learn 56 = .ok (.getfield 19, 3) := by decide +kernel
theorem dX7_learn_59 : decode cX7_learn 59 = .ok (.iload_n 2, 1) := by decide +kernel
theorem dX7_learn_60 : decode cX7_learn 60 = .ok (.invokestatic 57, 3) := by decide +kernel
theorem dX7_learn_63 : decode cX7_learn 63 = .ok (.if_icmp .ge 65, 3) := by decide +kernel
theorem dX7_learn_66 : decode cX7_learn 66 = .ok (.aload_n 0, 1) := by decide +kernel
theorem dX7_learn_67 : decode cX7_learn 67 = .ok (.getfield 19, 3) := by decide +kernel
theorem dX7_learn_70 : decode cX7_learn 70 = .ok (.istore 4, 2) := by decide +kernel
theorem dX7_learn_72 : decode cX7_learn 72 = .ok (.iconst 0, 1) := by decide +kernel
theorem dX7_learn_73 : decode cX7_learn 73 = .ok (.istore 5, 2) := by decide +kernel
theorem dX7_learn_75 : decode cX7_learn 75 = .ok (.iload 5, 2) := by decide +kernel
theorem dX7_learn_77 : decode cX7_learn 77 = .ok (.iload 4, 2) := by decide +kernel
theorem dX7_learn_79 : decode cX7_learn 79 = .ok (.if_icmp .ge 43, 3) := by decide +kernel
theorem dX7_learn_82 : decode cX7_learn 82 = .ok (.aload_n 0, 1) := by decide +kernel
theorem dX7_learn_83 : decode cX7_learn 83 = .ok (.getfield 9, 3) := by decide +kernel
theorem dX7_learn_86 : decode cX7_learn 86 = .ok (.iload 5, 2) := by decide +kernel
theorem dX7_learn_88 : decode cX7_learn 88 = .ok (.iaload, 1) := by decide +kernel
theorem dX7_learn_89 : decode cX7_learn 89 = .ok (.aload_n 1, 1) := by decide +kernel
theorem dX7_learn_90 : decode cX7_learn 90 = .ok (.getfield 39, 3) := by decide +kernel
theorem dX7_learn_93 : decode cX7_learn 93 = .ok (.iload_n 3, 1) := by decide +kernel
theorem dX7_learn_94 : decode cX7_learn 94 = .ok (.iaload, 1) := by decide +kernel
theorem dX7_learn_95 : decode cX7_learn 95 = .ok (.aload_n 1, 1) := by decide +kernel
theorem dX7_learn_96 : decode cX7_learn 96 = .ok (.getfield 42, 3) := by decide +kernel
theorem dX7_learn_99 : decode cX7_learn 99 = .ok (.iload_n 3, 1) := by decide +kernel
theorem dX7_learn_100 : decode cX7_learn 100 = .ok (.iaload, 1) := by decide +kernel
theorem dX7_learn_101 : decode cX7_learn 101 = .ok (.invokestatic 45, 3) := by decide +kernel
theorem dX7_learn_104 : decode cX7_learn 104 = .ok (.istore 6, 2) := by decide +kernel
theorem dX7_learn_106 : decode cX7_learn 106 = .ok (.aload_n 0, 1) := by decide +kernel
theorem dX7_learn_107 : decode cX7_learn 107 = .ok (.iload 6, 2) := by decide +kernel
theorem dX7_learn_109 : decode cX7_learn 109 = .ok (.iload_n 2, 1) := by decide +kernel
theorem dX7_learn_110 : decode cX7_learn 110 = .ok (.iload_n 3, 1) := by decide +kernel
theorem dX7_learn_111 : decode cX7_learn 111 = .ok (.iconst 2, 1) := by decide +kernel
theorem dX7_learn_112 : decode cX7_learn 112 = .ok (.iadd, 1) := by decide +kernel
theorem dX7_learn_113 : decode cX7_learn 113 = .ok (.invokevirtual 53, 3) := by decide +kernel
theorem dX7_learn_116 : decode cX7_learn 116 = .ok (.iinc 5 1, 3) := by decide +kernel
theorem dX7_learn_119 : decode cX7_learn 119 = .ok (.goto (-44), 3) := by decide +kernel
theorem dX7_learn_122 : decode cX7_learn 122 = .ok (.iinc 3 1, 3) := by decide +kernel
theorem dX7_learn_125 : decode cX7_learn 125 = .ok (.goto (-78), 3) := by decide +kernel
theorem dX7_learn_128 : decode cX7_learn 128 = .ok (.return_, 1) := by decide +kernel
theorem dX7_reach_0 : decode cX7_reach 0 = .ok (.iload_n 1, 1) := by decide +kernel
theorem dX7_reach_1 : decode cX7_reach 1 = .ok (.iload_n 2, 1) := by decide +kernel
theorem dX7_reach_2 : decode cX7_reach 2 = .ok (.invokestatic 32, 3) := by decide +kernel
theorem dX7_reach_5 : decode cX7_reach 5 = .ok (.istore 4, 2) := by decide +kernel
theorem dX7_reach_7 : decode cX7_reach 7 = .ok (.aload_n 0, 1) := by decide +kernel
theorem dX7_reach_8 : decode cX7_reach 8 = .ok (.getfield 15, 3) := by decide +kernel
theorem dX7_reach_11 : decode cX7_reach 11 = .ok (.iload 4, 2) := by decide +kernel
theorem dX7_reach_13 : decode cX7_reach 13 = .ok (.baload, 1) := by decide +kernel
theorem dX7_reach_14 : decode cX7_reach 14 = .ok (.ifCond .ne 44, 3) := by decide +kernel
theorem dX7_reach_17 : decode cX7_reach 17 = .ok (.aload_n 0, 1) := by decide +kernel
theorem dX7_reach_18 : decode cX7_reach 18 = .ok (.getfield 19, 3) := by decide +kernel
theorem dX7_reach_21 : decode cX7_reach 21 = .ok (.aload_n 0, 1) := by decide +kernel
theorem dX7_reach_22 : decode cX7_reach 22 = .ok (.getfield 9, 3) := by decide +kernel
theorem dX7_reach_25 : decode cX7_reach 25 = .ok (.arraylength, 1) := by decide +kernel
theorem dX7_reach_26 : decode cX7_reach 26 = .ok (.if_icmp .ge 32, 3) := by decide +kernel
theorem dX7_reach_29 : decode cX7_reach 29 = .ok (.aload_n 0, 1) := by decide +kernel
theorem dX7_reach_30 : decode cX7_reach 30 = .ok (.getfield 15, 3) := by decide +kernel
theorem dX7_reach_33 : decode cX7_reach 33 = .ok (.iload 4, 2) := by decide +kernel
theorem dX7_reach_35 : decode cX7_reach 35 = .ok (.iload_n 3, 1) := by decide +kernel
theorem dX7_reach_36 : decode cX7_reach 36 = .ok (.i2b, 1) := by decide +kernel
theorem dX7_reach_37 : decode cX7_reach 37 = .ok (.bastore, 1) := by decide +kernel
theorem dX7_reach_38 : decode cX7_reach 38 = .ok (.aload_n 0, 1) := by decide +kernel
theorem dX7_reach_39 : decode cX7_reach 39 = .ok (.getfield 9, 3) := by decide +kernel
theorem dX7_reach_42 : decode cX7_reach 42 = .ok (.aload_n 0, 1) := by decide +kernel
theorem dX7_reach_43 : decode cX7_reach 43 = .ok (.getfield 19, 3) := by decide +kernel
theorem dX7_reach_46 : decode cX7_reach 46 = .ok (.iload_n 1, 1) := by decide +kernel
theorem dX7_reach_47 : decode cX7_reach 47 = .ok (.iastore, 1) := by decide +kernel
theorem dX7_reach_48 : decode cX7_reach 48 = .ok (.aload_n 0, 1) := by decide +kernel
theorem dX7_reach_49 : decode cX7_reach 49 = .ok (.dup, 1) := by decide +kernel
theorem dX7_reach_50 : decode cX7_reach 50 = .ok (.getfield 19, 3) := by decide +kernel
theorem dX7_reach_53 : decode cX7_reach 53 = .ok (.iconst 1, 1) := by decide +kernel
theorem dX7_reach_54 : decode cX7_reach 54 = .ok (.iadd, 1) := by decide +kernel
theorem dX7_reach_55 : decode cX7_reach 55 = .ok (.putfield 19, 3) := by decide +kernel
theorem dX7_reach_58 : decode cX7_reach 58 = .ok (.return_, 1) := by decide +kernel
theorem dX8_init_0 : decode cX8_init 0 = .ok (.aload_n 0, 1) := by decide +kernel
theorem dX8_init_1 : decode cX8_init 1 = .ok (.invokespecial 3, 3) := by decide +kernel
theorem dX8_init_4 : decode cX8_init 4 = .ok (.aload_n 0, 1) := by decide +kernel
theorem dX8_init_5 : decode cX8_init 5 = .ok (.bipush 40, 2) := by decide +kernel
theorem dX8_init_7 : decode cX8_init 7 = .ok (.newarray .char, 2) := by decide +kernel
theorem dX8_init_9 : decode cX8_init 9 = .ok (.putfield 9, 3) := by decide +kernel
theorem dX8_init_12 : decode cX8_init 12 = .ok (.aload_n 0, 1) := by decide +kernel
theorem dX8_init_13 : decode cX8_init 13 = .ok (.iconst 0, 1) := by decide +kernel
theorem dX8_init_14 : decode cX8_init 14 = .ok (.putfield 15, 3) := by decide +kernel
theorem dX8_init_17 : decode cX8_init 17 = .ok (.return_, 1) := by decide +kernel
theorem dX8_signIn_0 : decode cX8_signIn 0 = .ok (.lload_n 0, 1) := by decide +kernel
theorem dX8_signIn_1 : decode cX8_signIn 1 = .ok (.bipush 8, 2) := by decide +kernel
theorem dX8_signIn_3 : decode cX8_signIn 3 = .ok (.iload_n 2, 1) := by decide +kernel
theorem dX8_signIn_4 : decode cX8_signIn 4 = .ok (.imul, 1) := by decide +kernel
theorem dX8_signIn_5 : decode cX8_signIn 5 = .ok (.lushr, 1) := by decide +kernel
theorem dX8_signIn_6 : decode cX8_signIn 6 = .ok (.ldc2_w 19, 3) := by decide +kernel
theorem dX8_signIn_9 : decode cX8_signIn 9 = .ok (.land, 1) := by decide +kernel
theorem dX8_signIn_10 : decode cX8_signIn 10 = .ok (.l2i, 1) := by decide +kernel
theorem dX8_signIn_11 : decode cX8_signIn 11 = .ok (.i2c, 1) := by decide +kernel
theorem dX8_signIn_12 : decode cX8_signIn 12 = .ok (.ireturn, 1) := by decide +kernel
theorem dX8_takes_0 : decode cX8_takes 0 = .ok (.iload_n 0, 1) := by decide +kernel
theorem dX8_takes_1 : decode cX8_takes 1 = .ok (.bipush 48, 2) := by decide +kernel
theorem dX8_takes_3 : decode cX8_takes 3 = .ok (.if_icmp .lt 9, 3) := by decide +kernel
theorem dX8_takes_6 : decode cX8_takes 6 = .ok (.iload_n 0, 1) := by decide +kernel
theorem dX8_takes_7 : decode cX8_takes 7 = .ok (.bipush 53, 2) := by decide +kernel
theorem dX8_takes_9 : decode cX8_takes 9 = .ok (.if_icmp .le 21, 3) := by decide +kernel
theorem dX8_takes_12 : decode cX8_takes 12 = .ok (.iload_n 0, 1) := by decide +kernel
theorem dX8_takes_13 : decode cX8_takes 13 = .ok (.bipush 58, 2) := by decide +kernel
theorem dX8_takes_15 : decode cX8_takes 15 = .ok (.if_icmp .eq 15, 3) := by decide +kernel
theorem dX8_takes_18 : decode cX8_takes 18 = .ok (.iload_n 0, 1) := by decide +kernel
theorem dX8_takes_19 : decode cX8_takes 19 = .ok (.bipush 47, 2) := by decide +kernel
theorem dX8_takes_21 : decode cX8_takes 21 = .ok (.if_icmp .eq 9, 3) := by decide +kernel
theorem dX8_takes_24 : decode cX8_takes 24 = .ok (.iload_n 0, 1) := by decide +kernel
theorem dX8_takes_25 : decode cX8_takes 25 = .ok (.bipush 32, 2) := by decide +kernel
theorem dX8_takes_27 : decode cX8_takes 27 = .ok (.if_icmp .ne 7, 3) := by decide +kernel
theorem dX8_takes_30 : decode cX8_takes 30 = .ok (.iconst 1, 1) := by decide +kernel
theorem dX8_takes_31 : decode cX8_takes 31 = .ok (.goto 4, 3) := by decide +kernel
theorem dX8_takes_34 : decode cX8_takes 34 = .ok (.iconst 0, 1) := by decide +kernel
theorem dX8_takes_35 : decode cX8_takes 35 = .ok (.ireturn, 1) := by decide +kernel
theorem dX8_put_0 : decode cX8_put 0 = .ok (.aload_n 0, 1) := by decide +kernel
theorem dX8_put_1 : decode cX8_put 1 = .ok (.getfield 15, 3) := by decide +kernel
theorem dX8_put_4 : decode cX8_put 4 = .ok (.bipush 40, 2) := by decide +kernel
theorem dX8_put_6 : decode cX8_put 6 = .ok (.if_icmp .ge 23, 3) := by decide +kernel
theorem dX8_put_9 : decode cX8_put 9 = .ok (.aload_n 0, 1) := by decide +kernel
theorem dX8_put_10 : decode cX8_put 10 = .ok (.getfield 9, 3) := by decide +kernel
theorem dX8_put_13 : decode cX8_put 13 = .ok (.aload_n 0, 1) := by decide +kernel
theorem dX8_put_14 : decode cX8_put 14 = .ok (.getfield 15, 3) := by decide +kernel
theorem dX8_put_17 : decode cX8_put 17 = .ok (.iload_n 1, 1) := by decide +kernel
theorem dX8_put_18 : decode cX8_put 18 = .ok (.castore, 1) := by decide +kernel
theorem dX8_put_19 : decode cX8_put 19 = .ok (.aload_n 0, 1) := by decide +kernel
theorem dX8_put_20 : decode cX8_put 20 = .ok (.dup, 1) := by decide +kernel
theorem dX8_put_21 : decode cX8_put 21 = .ok (.getfield 15, 3) := by decide +kernel
theorem dX8_put_24 : decode cX8_put 24 = .ok (.iconst 1, 1) := by decide +kernel
theorem dX8_put_25 : decode cX8_put 25 = .ok (.iadd, 1) := by decide +kernel
theorem dX8_put_26 : decode cX8_put 26 = .ok (.putfield 15, 3) := by decide +kernel
theorem dX8_put_29 : decode cX8_put 29 = .ok (.return_, 1) := by decide +kernel
theorem dX8_empty_0 : decode cX8_empty 0 = .ok (.aload_n 0, 1) := by decide +kernel
theorem dX8_empty_1 : decode cX8_empty 1 = .ok (.iconst 0, 1) := by decide +kernel
theorem dX8_empty_2 : decode cX8_empty 2 = .ok (.putfield 15, 3) := by decide +kernel
theorem dX8_empty_5 : decode cX8_empty 5 = .ok (.return_, 1) := by decide +kernel
theorem dX8_faultFor_0 : decode cX8_faultFor 0 = .ok (.iconst 0, 1) := by decide +kernel
theorem dX8_faultFor_1 : decode cX8_faultFor 1 = .ok (.istore_n 2, 1) := by decide +kernel
theorem dX8_faultFor_2 : decode cX8_faultFor 2 = .ok (.iconst 0, 1) := by decide +kernel
theorem dX8_faultFor_3 : decode cX8_faultFor 3 = .ok (.istore_n 3, 1) := by decide +kernel
theorem dX8_faultFor_4 : decode cX8_faultFor 4 = .ok (.iload_n 3, 1) := by decide +kernel
theorem dX8_faultFor_5 : decode cX8_faultFor 5 = .ok (.aload_n 0, 1) := by decide +kernel
theorem dX8_faultFor_6 : decode cX8_faultFor 6 = .ok (.getfield 15, 3) := by decide +kernel
theorem dX8_faultFor_9 : decode cX8_faultFor 9 = .ok (.if_icmp .ge 108, 3) := by decide +kernel
theorem dX8_faultFor_12 : decode cX8_faultFor 12 = .ok (.aload_n 0, 1) := by decide +kernel
theorem dX8_faultFor_13 : decode cX8_faultFor 13 = .ok (.getfield 9, 3) := by decide +kernel
theorem dX8_faultFor_16 : decode cX8_faultFor 16 = .ok (.iload_n 3, 1) := by decide +kernel
theorem dX8_faultFor_17 : decode cX8_faultFor 17 = .ok (.caload, 1) := by decide +kernel
theorem dX8_faultFor_18 : decode cX8_faultFor 18 = .ok (.istore 4, 2) := by decide +kernel
theorem dX8_faultFor_20 : decode cX8_faultFor 20 = .ok (.iload_n 3, 1) := by decide +kernel
theorem dX8_faultFor_21 : decode cX8_faultFor 21 = .ok (.iconst 4, 1) := by decide +kernel
theorem dX8_faultFor_22 : decode cX8_faultFor 22 = .ok (.irem, 1) := by decide +kernel
theorem dX8_faultFor_23 : decode cX8_faultFor 23 = .ok (.iconst 1, 1) := by decide +kernel
theorem dX8_faultFor_24 : decode cX8_faultFor 24 = .ok (.if_icmp .ne 12, 3) := by decide +kernel
theorem dX8_faultFor_27 : decode cX8_faultFor 27 = .ok (.iload 4, 2) := by decide +kernel
theorem dX8_faultFor_29 : decode cX8_faultFor 29 = .ok (.bipush 58, 2) := by decide +kernel
theorem dX8_faultFor_31 : decode cX8_faultFor 31 = .ok (.if_icmp .eq 80, 3) := by decide +kernel
theorem dX8_faultFor_34 : decode cX8_faultFor 34 = .ok (.iload_n 3, 1) := by decide +kernel
theorem dX8_faultFor_35 : decode cX8_faultFor 35 = .ok (.ireturn, 1) := by decide +kernel
theorem dX8_faultFor_36 : decode cX8_faultFor 36 = .ok (.iload_n 3, 1) := by decide +kernel
theorem dX8_faultFor_37 : decode cX8_faultFor 37 = .ok (.iconst 4, 1) := by decide +kernel
theorem dX8_faultFor_38 : decode cX8_faultFor 38 = .ok (.irem, 1) := by decide +kernel
theorem dX8_faultFor_39 : decode cX8_faultFor 39 = .ok (.iconst 3, 1) := by decide +kernel
theorem dX8_faultFor_40 : decode cX8_faultFor 40 = .ok (.if_icmp .ne 35, 3) := by decide +kernel
theorem dX8_faultFor_43 : decode cX8_faultFor 43 = .ok (.iload 4, 2) := by decide +kernel
theorem dX8_faultFor_45 : decode cX8_faultFor 45 = .ok (.bipush 32, 2) := by decide +kernel
theorem dX8_faultFor_47 : decode cX8_faultFor 47 = .ok (.if_icmp .eq 12, 3) := by decide +kernel
theorem dX8_faultFor_50 : decode cX8_faultFor 50 = .ok (.iload 4, 2) := by decide +kernel
theorem dX8_faultFor_52 : decode cX8_faultFor 52 = .ok (.bipush 47, 2) := by decide +kernel
theorem dX8_faultFor_54 : decode cX8_faultFor 54 = .ok (.if_icmp .eq 5, 3) := by decide +kernel
theorem dX8_faultFor_57 : decode cX8_faultFor 57 = .ok (.iload_n 3, 1) := by decide +kernel
theorem dX8_faultFor_58 : decode cX8_faultFor 58 = .ok (.ireturn, 1) := by decide +kernel
theorem dX8_faultFor_59 : decode cX8_faultFor 59 = .ok (.iload 4, 2) := by decide +kernel
theorem dX8_faultFor_61 : decode cX8_faultFor 61 = .ok (.bipush 47, 2) := by decide +kernel
theorem dX8_faultFor_63 : decode cX8_faultFor 63 = .ok (.if_icmp .ne 7, 3) := by decide +kernel
theorem dX8_faultFor_66 : decode cX8_faultFor 66 = .ok (.iconst 0, 1) := by decide +kernel
theorem dX8_faultFor_67 : decode cX8_faultFor 67 = .ok (.goto 4, 3) := by decide +kernel
theorem dX8_faultFor_70 : decode cX8_faultFor 70 = .ok (.iload_n 2, 1) := by decide +kernel
theorem dX8_faultFor_71 : decode cX8_faultFor 71 = .ok (.istore_n 2, 1) := by decide +kernel
theorem dX8_faultFor_72 : decode cX8_faultFor 72 = .ok (.goto 39, 3) := by decide +kernel
theorem dX8_faultFor_75 : decode cX8_faultFor 75 = .ok (.iload 4, 2) := by decide +kernel
theorem dX8_faultFor_77 : decode cX8_faultFor 77 = .ok (.bipush 48, 2) := by decide +kernel
theorem dX8_faultFor_79 : decode cX8_faultFor 79 = .ok (.isub, 1) := by decide +kernel
theorem dX8_faultFor_80 : decode cX8_faultFor 80 = .ok (.istore 5, 2) := by decide +kernel
theorem dX8_faultFor_82 : decode cX8_faultFor 82 = .ok (.iload 5, 2) := by decide +kernel
theorem dX8_faultFor_84 : decode cX8_faultFor 84 = .ok (.ifCond .lt 18, 3) := by decide +kernel
theorem dX8_faultFor_87 : decode cX8_faultFor 87 = .ok (.iload 5, 2) := by decide +kernel
theorem dX8_faultFor_89 : decode cX8_faultFor 89 = .ok (.iload_n 1, 1) := by decide +kernel
theorem dX8_faultFor_90 : decode cX8_faultFor 90 = .ok (.if_icmp .ge 12, 3) := by decide +kernel
theorem dX8_faultFor_93 : decode cX8_faultFor 93 = .ok (.iload_n 2, 1) := by decide +kernel
theorem dX8_faultFor_94 : decode cX8_faultFor 94 = .ok (.iload 5, 2) := by decide +kernel
theorem dX8_faultFor_96 : decode cX8_faultFor 96 = .ok (.ishr, 1) := by decide +kernel
theorem dX8_faultFor_97 : decode cX8_faultFor 97 = .ok (.iconst 1, 1) := by decide +kernel
theorem dX8_faultFor_98 : decode cX8_faultFor 98 = .ok (.iand, 1) := by decide +kernel
theorem dX8_faultFor_99 : decode cX8_faultFor 99 = .ok (.ifCond .eq 5, 3) := by decide +kernel
theorem dX8_faultFor_102 : decode cX8_faultFor 102 = .ok (.iload_n 3, 1) := by decide +kernel
theorem dX8_faultFor_103 : decode cX8_faultFor 103 = .ok (.ireturn, 1) := by decide +kernel
theorem dX8_faultFor_104 : decode cX8_faultFor 104 = .ok (.iload_n 2, 1) := by decide +kernel
theorem dX8_faultFor_105 : decode cX8_faultFor 105 = .ok (.iconst 1, 1) := by decide +kernel
theorem dX8_faultFor_106 : decode cX8_faultFor 106 = .ok (.iload 5, 2) := by decide +kernel
theorem dX8_faultFor_108 : decode cX8_faultFor 108 = .ok (.ishl, 1) := by decide +kernel
theorem dX8_faultFor_109 : decode cX8_faultFor 109 = .ok (.ior, 1) := by decide +kernel
theorem dX8_faultFor_110 : decode cX8_faultFor 110 = .ok (.istore_n 2, 1) := by decide +kernel
theorem dX8_faultFor_111 : decode cX8_faultFor 111 = .ok (.iinc 3 1, 3) := by decide +kernel
theorem dX8_faultFor_114 : decode cX8_faultFor 114 = .ok (.goto (-110), 3) := by decide +kernel
theorem dX8_faultFor_117 : decode cX8_faultFor 117 = .ok (.aload_n 0, 1) := by decide +kernel
theorem dX8_faultFor_118 : decode cX8_faultFor 118 = .ok (.getfield 15, 3) := by decide +kernel
theorem dX8_faultFor_121 : decode cX8_faultFor 121 = .ok (.iconst 4, 1) := by decide +kernel
theorem dX8_faultFor_122 : decode cX8_faultFor 122 = .ok (.irem, 1) := by decide +kernel
theorem dX8_faultFor_123 : decode cX8_faultFor 123 = .ok (.iconst 3, 1) := by decide +kernel
theorem dX8_faultFor_124 : decode cX8_faultFor 124 = .ok (.if_icmp .ne 7, 3) := by decide +kernel
theorem dX8_faultFor_127 : decode cX8_faultFor 127 = .ok (.iconst (-1), 1) := by decide +kernel
theorem dX8_faultFor_128 : decode cX8_faultFor 128 = .ok (.goto 7, 3) := by decide +kernel
theorem dX8_faultFor_131 : decode cX8_faultFor 131 = .ok (.aload_n 0, 1) := by decide +kernel
theorem dX8_faultFor_132 : decode cX8_faultFor 132 = .ok (.getfield 15, 3) := by decide +kernel
theorem dX8_faultFor_135 : decode cX8_faultFor 135 = .ok (.ireturn, 1) := by decide +kernel
theorem dX8_layOn_0 : decode cX8_layOn 0 = .ok (.iconst 0, 1) := by decide +kernel
theorem dX8_layOn_1 : decode cX8_layOn 1 = .ok (.istore_n 2, 1) := by decide +kernel
theorem dX8_layOn_2 : decode cX8_layOn 2 = .ok (.iload_n 2, 1) := by decide +kernel
theorem dX8_layOn_3 : decode cX8_layOn 3 = .ok (.iconst 2, 1) := by decide +kernel
theorem dX8_layOn_4 : decode cX8_layOn 4 = .ok (.iadd, 1) := by decide +kernel
theorem dX8_layOn_5 : decode cX8_layOn 5 = .ok (.aload_n 0, 1) := by decide +kernel
theorem dX8_layOn_6 : decode cX8_layOn 6 = .ok (.getfield 15, 3) := by decide +kernel
theorem dX8_layOn_9 : decode cX8_layOn 9 = .ok (.if_icmp .ge 33, 3) := by decide +kernel
theorem dX8_layOn_12 : decode cX8_layOn 12 = .ok (.aload_n 1, 1) := by decide +kernel
theorem dX8_layOn_13 : decode cX8_layOn 13 = .ok (.aload_n 0, 1) := by decide +kernel
theorem dX8_layOn_14 : decode cX8_layOn 14 = .ok (.getfield 9, 3) := by decide +kernel
theorem dX8_layOn_17 : decode cX8_layOn 17 = .ok (.iload_n 2, 1) := by decide +kernel
theorem dX8_layOn_18 : decode cX8_layOn 18 = .ok (.caload, 1) := by decide +kernel
theorem dX8_layOn_19 : decode cX8_layOn 19 = .ok (.bipush 48, 2) := by decide +kernel
theorem dX8_layOn_21 : decode cX8_layOn 21 = .ok (.isub, 1) := by decide +kernel
theorem dX8_layOn_22 : decode cX8_layOn 22 = .ok (.aload_n 0, 1) := by decide +kernel
theorem dX8_layOn_23 : decode cX8_layOn 23 = .ok (.getfield 9, 3) := by decide +kernel
theorem dX8_layOn_26 : decode cX8_layOn 26 = .ok (.iload_n 2, 1) := by decide +kernel
theorem dX8_layOn_27 : decode cX8_layOn 27 = .ok (.iconst 2, 1) := by decide +kernel
theorem dX8_layOn_28 : decode cX8_layOn 28 = .ok (.iadd, 1) := by decide +kernel
theorem dX8_layOn_29 : decode cX8_layOn 29 = .ok (.caload, 1) := by decide +kernel
theorem dX8_layOn_30 : decode cX8_layOn 30 = .ok (.bipush 48, 2) := by decide +kernel
theorem dX8_layOn_32 : decode cX8_layOn 32 = .ok (.isub, 1) := by decide +kernel
theorem dX8_layOn_33 : decode cX8_layOn 33 = .ok (.invokevirtual 21, 3) := by decide +kernel
theorem dX8_layOn_36 : decode cX8_layOn 36 = .ok (.iinc 2 4, 3) := by decide +kernel
theorem dX8_layOn_39 : decode cX8_layOn 39 = .ok (.goto (-37), 3) := by decide +kernel
theorem dX8_layOn_42 : decode cX8_layOn 42 = .ok (.return_, 1) := by decide +kernel
theorem dX9_init_0 : decode cX9_init 0 = .ok (.aload_n 0, 1) := by decide +kernel
theorem dX9_init_1 : decode cX9_init 1 = .ok (.invokespecial 3, 3) := by decide +kernel
theorem dX9_init_4 : decode cX9_init 4 = .ok (.aload_n 0, 1) := by decide +kernel
theorem dX9_init_5 : decode cX9_init 5 = .ok (.iconst 2, 1) := by decide +kernel
theorem dX9_init_6 : decode cX9_init 6 = .ok (.putfield 9, 3) := by decide +kernel
theorem dX9_init_9 : decode cX9_init 9 = .ok (.aload_n 0, 1) := by decide +kernel
theorem dX9_init_10 : decode cX9_init 10 = .ok (.iconst 0, 1) := by decide +kernel
theorem dX9_init_11 : decode cX9_init 11 = .ok (.putfield 15, 3) := by decide +kernel
theorem dX9_init_14 : decode cX9_init 14 = .ok (.aload_n 0, 1) := by decide +kernel
theorem dX9_init_15 : decode cX9_init 15 = .ok (.bipush 24, 2) := by decide +kernel
theorem dX9_init_17 : decode cX9_init 17 = .ok (.newarray .int, 2) := by decide +kernel
theorem dX9_init_19 : decode cX9_init 19 = .ok (.putfield 18, 3) := by decide +kernel
theorem dX9_init_22 : decode cX9_init 22 = .ok (.aload_n 0, 1) := by decide +kernel
theorem dX9_init_23 : decode cX9_init 23 = .ok (.bipush 24, 2) := by decide +kernel
theorem dX9_init_25 : decode cX9_init 25 = .ok (.newarray .int, 2) := by decide +kernel
theorem dX9_init_27 : decode cX9_init 27 = .ok (.putfield 22, 3) := by decide +kernel
theorem dX9_init_30 : decode cX9_init 30 = .ok (.aload_n 0, 1) := by decide +kernel
theorem dX9_init_31 : decode cX9_init 31 = .ok (.bipush 24, 2) := by decide +kernel
theorem dX9_init_33 : decode cX9_init 33 = .ok (.newarray .int, 2) := by decide +kernel
theorem dX9_init_35 : decode cX9_init 35 = .ok (.putfield 25, 3) := by decide +kernel
theorem dX9_init_38 : decode cX9_init 38 = .ok (.aload_n 0, 1) := by decide +kernel
theorem dX9_init_39 : decode cX9_init 39 = .ok (.bipush 6, 2) := by decide +kernel
theorem dX9_init_41 : decode cX9_init 41 = .ok (.newarray .int, 2) := by decide +kernel
theorem dX9_init_43 : decode cX9_init 43 = .ok (.putfield 28, 3) := by decide +kernel
theorem dX9_init_46 : decode cX9_init 46 = .ok (.return_, 1) := by decide +kernel
theorem dX9_begin_0 : decode cX9_begin 0 = .ok (.aload_n 0, 1) := by decide +kernel
theorem dX9_begin_1 : decode cX9_begin 1 = .ok (.iload_n 1, 1) := by decide +kernel
theorem dX9_begin_2 : decode cX9_begin 2 = .ok (.putfield 9, 3) := by decide +kernel
theorem dX9_begin_5 : decode cX9_begin 5 = .ok (.aload_n 0, 1) := by decide +kernel
theorem dX9_begin_6 : decode cX9_begin 6 = .ok (.iconst 0, 1) := by decide +kernel
theorem dX9_begin_7 : decode cX9_begin 7 = .ok (.putfield 15, 3) := by decide +kernel
theorem dX9_begin_10 : decode cX9_begin 10 = .ok (.return_, 1) := by decide +kernel
theorem dX9_append_0 : decode cX9_append 0 = .ok (.aload_n 0, 1) := by decide +kernel
theorem dX9_append_1 : decode cX9_append 1 = .ok (.getfield 15, 3) := by decide +kernel
theorem dX9_append_4 : decode cX9_append 4 = .ok (.bipush 24, 2) := by decide +kernel
theorem dX9_append_6 : decode cX9_append 6 = .ok (.if_icmp .ge 33, 3) := by decide +kernel
theorem dX9_append_9 : decode cX9_append 9 = .ok (.aload_n 0, 1) := by decide +kernel
theorem dX9_append_10 : decode cX9_append 10 = .ok (.getfield 18, 3) := by decide +kernel
theorem dX9_append_13 : decode cX9_append 13 = .ok (.aload_n 0, 1) := by decide +kernel
theorem dX9_append_14 : decode cX9_append 14 = .ok (.getfield 15, 3) := by decide +kernel
theorem dX9_append_17 : decode cX9_append 17 = .ok (.iload_n 1, 1) := by decide +kernel
theorem dX9_append_18 : decode cX9_append 18 = .ok (.iastore, 1) := by decide +kernel
theorem dX9_append_19 : decode cX9_append 19 = .ok (.aload_n 0, 1) := by decide +kernel
theorem dX9_append_20 : decode cX9_append 20 = .ok (.getfield 22, 3) := by decide +kernel
theorem dX9_append_23 : decode cX9_append 23 = .ok (.aload_n 0, 1) := by decide +kernel
theorem dX9_append_24 : decode cX9_append 24 = .ok (.getfield 15, 3) := by decide +kernel
theorem dX9_append_27 : decode cX9_append 27 = .ok (.iload_n 2, 1) := by decide +kernel
theorem dX9_append_28 : decode cX9_append 28 = .ok (.iastore, 1) := by decide +kernel
theorem dX9_append_29 : decode cX9_append 29 = .ok (.aload_n 0, 1) := by decide +kernel
theorem dX9_append_30 : decode cX9_append 30 = .ok (.dup, 1) := by decide +kernel
theorem dX9_append_31 : decode cX9_append 31 = .ok (.getfield 15, 3) := by decide +kernel
theorem dX9_append_34 : decode cX9_append 34 = .ok (.iconst 1, 1) := by decide +kernel
theorem dX9_append_35 : decode cX9_append 35 = .ok (.iadd, 1) := by decide +kernel
theorem dX9_append_36 : decode cX9_append 36 = .ok (.putfield 15, 3) := by decide +kernel
theorem dX9_append_39 : decode cX9_append 39 = .ok (.return_, 1) := by decide +kernel
theorem dX9_dropLast_0 : decode cX9_dropLast 0 = .ok (.aload_n 0, 1) := by decide +kernel
theorem dX9_dropLast_1 : decode cX9_dropLast 1 = .ok (.dup, 1) := by decide +kernel
theorem dX9_dropLast_2 : decode cX9_dropLast 2 = .ok (.getfield 15, 3) := by decide +kernel
theorem dX9_dropLast_5 : decode cX9_dropLast 5 = .ok (.iconst 1, 1) := by decide +kernel
theorem dX9_dropLast_6 : decode cX9_dropLast 6 = .ok (.isub, 1) := by decide +kernel
theorem dX9_dropLast_7 : decode cX9_dropLast 7 = .ok (.putfield 15, 3) := by decide +kernel
theorem dX9_dropLast_10 : decode cX9_dropLast 10 = .ok (.return_, 1) := by decide +kernel
theorem dX9_layBubble_0 : decode cX9_layBubble 0 = .ok (.aload_n 0, 1) := by decide +kernel
theorem dX9_layBubble_1 : decode cX9_layBubble 1 = .ok (.getfield 9, 3) := by decide +kernel
theorem dX9_layBubble_4 : decode cX9_layBubble 4 = .ok (.iconst 1, 1) := by decide +kernel
theorem dX9_layBubble_5 : decode cX9_layBubble 5 = .ok (.isub, 1) := by decide +kernel
theorem dX9_layBubble_6 : decode cX9_layBubble 6 = .ok (.istore_n 1, 1) := by decide +kernel
theorem dX9_layBubble_7 : decode cX9_layBubble 7 = .ok (.iload_n 1, 1) := by decide +kernel
theorem dX9_layBubble_8 : decode cX9_layBubble 8 = .ok (.iconst 1, 1) := by decide +kernel
theorem dX9_layBubble_9 : decode cX9_layBubble 9 = .ok (.if_icmp .lt 30, 3) := by decide +kernel
theorem dX9_layBubble_12 : decode cX9_layBubble 12 = .ok (.iconst 0, 1) := by decide +kernel
theorem dX9_layBubble_13 : decode cX9_layBubble 13 = .ok (.istore_n 2, 1) := by decide +kernel
theorem dX9_layBubble_14 : decode cX9_layBubble 14 = .ok (.iload_n 2, 1) := by decide +kernel
theorem dX9_layBubble_15 : decode cX9_layBubble 15 = .ok (.iload_n 1, 1) := by decide +kernel
theorem dX9_layBubble_16 : decode cX9_layBubble 16 = .ok (.if_icmp .ge 17, 3) := by decide +kernel
theorem dX9_layBubble_19 : decode cX9_layBubble 19 = .ok (.aload_n 0, 1) := by decide +kernel
theorem dX9_layBubble_20 : decode cX9_layBubble 20 = .ok (.iload_n 2, 1) := by decide +kernel
theorem dX9_layBubble_21 : decode cX9_layBubble 21 = .ok (.iload_n 2, 1) := by decide +kernel
theorem dX9_layBubble_22 : decode cX9_layBubble 22 = .ok (.iconst 1, 1) := by decide +kernel
theorem dX9_layBubble_23 : decode cX9_layBubble 23 = .ok (.iadd, 1) := by decide +kernel
theorem dX9_layBubble_24 : decode cX9_layBubble 24 = .ok (.invokevirtual 31, 3) := by decide +kernel
theorem dX9_layBubble_27 : decode cX9_layBubble 27 = .ok (.iinc 2 1, 3) := by decide +kernel
theorem dX9_layBubble_30 : decode cX9_layBubble 30 = .ok (.goto (-16), 3) := by decide +kernel
theorem dX9_layBubble_33 : decode cX9_layBubble 33 = .ok (.iinc 1 (-1), 3) := by decide +kernel
theorem dX9_layBubble_36 : decode cX9_layBubble 36 = .ok (.goto (-29), 3) := by decide +kernel
theorem dX9_layBubble_39 : decode cX9_layBubble 39 = .ok (.return_, 1) := by decide +kernel
theorem dX9_layBrick_0 : decode cX9_layBrick 0 = .ok (.iconst 0, 1) := by decide +kernel
theorem dX9_layBrick_1 : decode cX9_layBrick 1 = .ok (.istore_n 1, 1) := by decide +kernel
theorem dX9_layBrick_2 : decode cX9_layBrick 2 = .ok (.iload_n 1, 1) := by decide +kernel
theorem dX9_layBrick_3 : decode cX9_layBrick 3 = .ok (.aload_n 0, 1) := by decide +kernel
theorem dX9_layBrick_4 : decode cX9_layBrick 4 = .ok (.getfield 9, 3) := by decide +kernel
theorem dX9_layBrick_7 : decode cX9_layBrick 7 = .ok (.if_icmp .ge 37, 3) := by decide +kernel
theorem dX9_layBrick_10 : decode cX9_layBrick 10 = .ok (.iload_n 1, 1) := by decide +kernel
theorem dX9_layBrick_11 : decode cX9_layBrick 11 = .ok (.iconst 2, 1) := by decide +kernel
theorem dX9_layBrick_12 : decode cX9_layBrick 12 = .ok (.irem, 1) := by decide +kernel
theorem dX9_layBrick_13 : decode cX9_layBrick 13 = .ok (.istore_n 2, 1) := by decide +kernel
theorem dX9_layBrick_14 : decode cX9_layBrick 14 = .ok (.iload_n 2, 1) := by decide +kernel
theorem dX9_layBrick_15 : decode cX9_layBrick 15 = .ok (.iconst 1, 1) := by decide +kernel
theorem dX9_layBrick_16 : decode cX9_layBrick 16 = .ok (.iadd, 1) := by decide +kernel
theorem dX9_layBrick_17 : decode cX9_layBrick 17 = .ok (.aload_n 0, 1) := by decide +kernel
theorem dX9_layBrick_18 : decode cX9_layBrick 18 = .ok (.getfield 9, 3) := by decide +kernel
theorem dX9_layBrick_21 : decode cX9_layBrick 21 = .ok (.if_icmp .ge 17, 3) := by decide +kernel
theorem dX9_layBrick_24 : decode cX9_layBrick 24 = .ok (.aload_n 0, 1) := by decide +kernel
theorem dX9_layBrick_25 : decode cX9_layBrick 25 = .ok (.iload_n 2, 1) := by decide +kernel
theorem dX9_layBrick_26 : decode cX9_layBrick 26 = .ok (.iload_n 2, 1) := by decide +kernel
theorem dX9_layBrick_27 : decode cX9_layBrick 27 = .ok (.iconst 1, 1) := by decide +kernel
theorem dX9_layBrick_28 : decode cX9_layBrick 28 = .ok (.iadd, 1) := by decide +kernel
theorem dX9_layBrick_29 : decode cX9_layBrick 29 = .ok (.invokevirtual 31, 3) := by decide +kernel
theorem dX9_layBrick_32 : decode cX9_layBrick 32 = .ok (.iinc 2 2, 3) := by decide +kernel
theorem dX9_layBrick_35 : decode cX9_layBrick 35 = .ok (.goto (-21), 3) := by decide +kernel
theorem dX9_layBrick_38 : decode cX9_layBrick 38 = .ok (.iinc 1 1, 3) := by decide +kernel
theorem dX9_layBrick_41 : decode cX9_layBrick 41 = .ok (.goto (-39), 3) := by decide +kernel
theorem dX9_layBrick_44 : decode cX9_layBrick 44 = .ok (.return_, 1) := by decide +kernel
theorem dX9_layMerge_0 : decode cX9_layMerge 0 = .ok (.iconst 1, 1) := by decide +kernel
theorem dX9_layMerge_1 : decode cX9_layMerge 1 = .ok (.istore_n 1, 1) := by decide +kernel
theorem dX9_layMerge_2 : decode cX9_layMerge 2 = .ok (.iconst 2, 1) := by decide +kernel
theorem dX9_layMerge_3 : decode cX9_layMerge 3 = .ok (.iload_n 1, 1) := by decide +kernel
theorem dX9_layMerge_4 : decode cX9_layMerge 4 = .ok (.imul, 1) := by decide +kernel
theorem dX9_layMerge_5 : decode cX9_layMerge 5 = .ok (.aload_n 0, 1) := by decide +kernel
theorem dX9_layMerge_6 : decode cX9_layMerge 6 = .ok (.getfield 9, 3) := by decide +kernel
theorem dX9_layMerge_9 : decode cX9_layMerge 9 = .ok (.if_icmp .ge 10, 3) := by decide +kernel
theorem dX9_layMerge_12 : decode cX9_layMerge 12 = .ok (.iload_n 1, 1) := by decide +kernel
theorem dX9_layMerge_13 : decode cX9_layMerge 13 = .ok (.iconst 2, 1) := by decide +kernel
theorem dX9_layMerge_14 : decode cX9_layMerge 14 = .ok (.imul, 1) := by decide +kernel
theorem dX9_layMerge_15 : decode cX9_layMerge 15 = .ok (.istore_n 1, 1) := by decide +kernel
theorem dX9_layMerge_16 : decode cX9_layMerge 16 = .ok (.goto (-14), 3) := by decide +kernel
theorem dX9_layMerge_19 : decode cX9_layMerge 19 = .ok (.iload_n 1, 1) := by decide +kernel
theorem dX9_layMerge_20 : decode cX9_layMerge 20 = .ok (.istore_n 2, 1) := by decide +kernel
theorem dX9_layMerge_21 : decode cX9_layMerge 21 = .ok (.iload_n 2, 1) := by decide +kernel
theorem dX9_layMerge_22 : decode cX9_layMerge 22 = .ok (.iconst 1, 1) := by decide +kernel
theorem dX9_layMerge_23 : decode cX9_layMerge 23 = .ok (.if_icmp .lt 40, 3) := by decide +kernel
theorem dX9_layMerge_26 : decode cX9_layMerge 26 = .ok (.aload_n 0, 1) := by decide +kernel
theorem dX9_layMerge_27 : decode cX9_layMerge 27 = .ok (.iload_n 2, 1) := by decide +kernel
theorem dX9_layMerge_28 : decode cX9_layMerge 28 = .ok (.iconst 0, 1) := by decide +kernel
theorem dX9_layMerge_29 : decode cX9_layMerge 29 = .ok (.iload_n 2, 1) := by decide +kernel
theorem dX9_layMerge_30 : decode cX9_layMerge 30 = .ok (.invokevirtual 35, 3) := by decide +kernel
theorem dX9_layMerge_33 : decode cX9_layMerge 33 = .ok (.iload_n 1, 1) := by decide +kernel
theorem dX9_layMerge_34 : decode cX9_layMerge 34 = .ok (.istore_n 3, 1) := by decide +kernel
theorem dX9_layMerge_35 : decode cX9_layMerge 35 = .ok (.iload_n 3, 1) := by decide +kernel
theorem dX9_layMerge_36 : decode cX9_layMerge 36 = .ok (.iload_n 2, 1) := by decide +kernel
theorem dX9_layMerge_37 : decode cX9_layMerge 37 = .ok (.if_icmp .le 19, 3) := by decide +kernel
theorem dX9_layMerge_40 : decode cX9_layMerge 40 = .ok (.aload_n 0, 1) := by decide +kernel
theorem dX9_layMerge_41 : decode cX9_layMerge 41 = .ok (.iload_n 2, 1) := by decide +kernel
theorem dX9_layMerge_42 : decode cX9_layMerge 42 = .ok (.iload_n 2, 1) := by decide +kernel
theorem dX9_layMerge_43 : decode cX9_layMerge 43 = .ok (.iload_n 3, 1) := by decide +kernel
theorem dX9_layMerge_44 : decode cX9_layMerge 44 = .ok (.iload_n 2, 1) := by decide +kernel
theorem dX9_layMerge_45 : decode cX9_layMerge 45 = .ok (.isub, 1) := by decide +kernel
theorem dX9_layMerge_46 : decode cX9_layMerge 46 = .ok (.invokevirtual 35, 3) := by decide +kernel
theorem dX9_layMerge_49 : decode cX9_layMerge 49 = .ok (.iload_n 3, 1) := by decide +kernel
theorem dX9_layMerge_50 : decode cX9_layMerge 50 = .ok (.iconst 2, 1) := by decide +kernel
theorem dX9_layMerge_51 : decode cX9_layMerge 51 = .ok (.idiv, 1) := by decide +kernel
theorem dX9_layMerge_52 : decode cX9_layMerge 52 = .ok (.istore_n 3, 1) := by decide +kernel
theorem dX9_layMerge_53 : decode cX9_layMerge 53 = .ok (.goto (-18), 3) := by decide +kernel
theorem dX9_layMerge_56 : decode cX9_layMerge 56 = .ok (.iload_n 2, 1) := by decide +kernel
theorem dX9_layMerge_57 : decode cX9_layMerge 57 = .ok (.iconst 2, 1) := by decide +kernel
theorem dX9_layMerge_58 : decode cX9_layMerge 58 = .ok (.idiv, 1) := by decide +kernel
theorem dX9_layMerge_59 : decode cX9_layMerge 59 = .ok (.istore_n 2, 1) := by decide +kernel
theorem dX9_layMerge_60 : decode cX9_layMerge 60 = .ok (.goto (-39), 3) := by decide +kernel
theorem dX9_layMerge_63 : decode cX9_layMerge 63 = .ok (.return_, 1) := by decide +kernel
theorem dX9_layAcross_0 : decode cX9_layAcross 0 = .ok (.iconst 0, 1) := by decide +kernel
theorem dX9_layAcross_1 : decode cX9_layAcross 1 = .ok (.istore 4, 2) := by decide +kernel
theorem dX9_layAcross_3 : decode cX9_layAcross 3 = .ok (.iload 4, 2) := by decide +kernel
theorem dX9_layAcross_5 : decode cX9_layAcross 5 = .ok (.iload_n 3, 1) := by decide +kernel
theorem dX9_layAcross_6 : decode cX9_layAcross 6 = .ok (.iadd, 1) := by decide +kernel
theorem dX9_layAcross_7 : decode cX9_layAcross 7 = .ok (.aload_n 0, 1) := by decide +kernel
theorem dX9_layAcross_8 : decode cX9_layAcross 8 = .ok (.getfield 9, 3) := by decide +kernel
theorem dX9_layAcross_11 : decode cX9_layAcross 11 = .ok (.if_icmp .ge 27, 3) := by decide +kernel
theorem dX9_layAcross_14 : decode cX9_layAcross 14 = .ok (.iload 4, 2) := by decide +kernel
theorem dX9_layAcross_16 : decode cX9_layAcross 16 = .ok (.iload_n 1, 1) := by decide +kernel
theorem dX9_layAcross_17 : decode cX9_layAcross 17 = .ok (.iand, 1) := by decide +kernel
theorem dX9_layAcross_18 : decode cX9_layAcross 18 = .ok (.iload_n 2, 1) := by decide +kernel
theorem dX9_layAcross_19 : decode cX9_layAcross 19 = .ok (.if_icmp .ne 13, 3) := by decide +kernel
theorem dX9_layAcross_22 : decode cX9_layAcross 22 = .ok (.aload_n 0, 1) := by decide +kernel
theorem dX9_layAcross_23 : decode cX9_layAcross 23 = .ok (.iload 4, 2) := by decide +kernel
theorem dX9_layAcross_25 : decode cX9_layAcross 25 = .ok (.iload 4, 2) := by decide +kernel
theorem dX9_layAcross_27 : decode cX9_layAcross 27 = .ok (.iload_n 3, 1) := by decide +kernel
theorem dX9_layAcross_28 : decode cX9_layAcross 28 = .ok (.iadd, 1) := by decide +kernel
theorem dX9_layAcross_29 : decode cX9_layAcross 29 = .ok (.invokevirtual 31, 3) := by decide +kernel
theorem dX9_layAcross_32 : decode cX9_layAcross 32 = .ok (.iinc 4 1, 3) := by decide +kernel
theorem dX9_layAcross_35 : decode cX9_layAcross 35 = .ok (.goto (-32), 3) := by decide +kernel
theorem dX9_layAcross_38 : decode cX9_layAcross 38 = .ok (.return_, 1) := by decide +kernel
theorem dX9_turnUpsideDown_0 : decode cX9_turnUpsideDown 0 = .ok (.iconst 0, 1) := by decide +kernel
theorem dX9_turnUpsideDown_1 : decode cX9_turnUpsideDown 1 = .ok (.istore_n 1, 1) := by decide +kernel
theorem dX9_turnUpsideDown_2 : decode cX9_turnUpsideDown 2 = .ok (.iload_n 1, 1) := by decide +kernel
theorem dX9_turnUpsideDown_3 : decode cX9_turnUpsideDown 3 = .ok (.aload_n 0, 1) := by decide +kernel
theorem dX9_turnUpsideDown_4 : decode cX9_turnUpsideDown 4 = .ok (.getfield 15, 3) := by decide +kernel
theorem dX9_turnUpsideDown_7 : decode cX9_turnUpsideDown 7 = .ok (.if_icmp .ge 49, 3) := by decide +kernel
theorem dX9_turnUpsideDown_10 : decode cX9_turnUpsideDown 10 = .ok (.aload_n 0, 1) := by decide +kernel
theorem dX9_turnUpsideDown_11 : decode cX9_turnUpsideDown 11 = .ok (.getfield 18, 3) := by decide +kernel
theorem dX9_turnUpsideDown_14 : decode cX9_turnUpsideDown 14 = .ok (.iload_n 1, 1) := by decide +kernel
theorem dX9_turnUpsideDown_15 : decode cX9_turnUpsideDown 15 = .ok (.iaload, 1) := by decide +kernel
theorem dX9_turnUpsideDown_16 : decode cX9_turnUpsideDown 16 = .ok (.istore_n 2, 1) := by decide +kernel
theorem dX9_turnUpsideDown_17 : decode cX9_turnUpsideDown 17 = .ok (.aload_n 0, 1) := by decide +kernel
theorem dX9_turnUpsideDown_18 : decode cX9_turnUpsideDown 18 = .ok (.getfield 18, 3) := by decide +kernel
theorem dX9_turnUpsideDown_21 : decode cX9_turnUpsideDown 21 = .ok (.iload_n 1, 1) := by decide +kernel
theorem dX9_turnUpsideDown_22 : decode cX9_turnUpsideDown 22 = .ok (.aload_n 0, 1) := by decide +kernel
theorem dX9_turnUpsideDown_23 : decode cX9_turnUpsideDown 23 = .ok (.getfield 9, 3) := by decide +kernel
theorem dX9_turnUpsideDown_26 : decode cX9_turnUpsideDown 26 = .ok (.iconst 1, 1) := by decide +kernel
theorem dX9_turnUpsideDown_27 : decode cX9_turnUpsideDown 27 = .ok (.isub, 1) := by decide +kernel
theorem dX9_turnUpsideDown_28 : decode cX9_turnUpsideDown 28 = .ok (.aload_n 0, 1) := by decide +kernel
theorem dX9_turnUpsideDown_29 : decode cX9_turnUpsideDown 29 = .ok (.getfield 22, 3) := by decide +kernel
theorem dX9_turnUpsideDown_32 : decode cX9_turnUpsideDown 32 = .ok (.iload_n 1, 1) := by decide +kernel
theorem dX9_turnUpsideDown_33 : decode cX9_turnUpsideDown 33 = .ok (.iaload, 1) := by decide +kernel
theorem dX9_turnUpsideDown_34 : decode cX9_turnUpsideDown 34 = .ok (.isub, 1) := by decide +kernel
theorem dX9_turnUpsideDown_35 : decode cX9_turnUpsideDown 35 = .ok (.iastore, 1) := by decide +kernel
theorem dX9_turnUpsideDown_36 : decode cX9_turnUpsideDown 36 = .ok (.aload_n 0, 1) := by decide +kernel
theorem dX9_turnUpsideDown_37 : decode cX9_turnUpsideDown 37 = .ok (.getfield 22, 3) := by decide +kernel
theorem dX9_turnUpsideDown_40 : decode cX9_turnUpsideDown 40 = .ok (.iload_n 1, 1) := by decide +kernel
theorem dX9_turnUpsideDown_41 : decode cX9_turnUpsideDown 41 = .ok (.aload_n 0, 1) := by decide +kernel
theorem dX9_turnUpsideDown_42 : decode cX9_turnUpsideDown 42 = .ok (.getfield 9, 3) := by decide +kernel
theorem dX9_turnUpsideDown_45 : decode cX9_turnUpsideDown 45 = .ok (.iconst 1, 1) := by decide +kernel
theorem dX9_turnUpsideDown_46 : decode cX9_turnUpsideDown 46 = .ok (.isub, 1) := by decide +kernel
theorem dX9_turnUpsideDown_47 : decode cX9_turnUpsideDown 47 = .ok (.iload_n 2, 1) := by decide +kernel
theorem dX9_turnUpsideDown_48 : decode cX9_turnUpsideDown 48 = .ok (.isub, 1) := by decide +kernel
theorem dX9_turnUpsideDown_49 : decode cX9_turnUpsideDown 49 = .ok (.iastore, 1) := by decide +kernel
theorem dX9_turnUpsideDown_50 : decode cX9_turnUpsideDown 50 = .ok (.iinc 1 1, 3) := by decide +kernel
theorem dX9_turnUpsideDown_53 : decode cX9_turnUpsideDown 53 = .ok (.goto (-51), 3) := by decide +kernel
theorem dX9_turnUpsideDown_56 : decode cX9_turnUpsideDown 56 = .ok (.return_, 1) := by decide +kernel
theorem dX9_straighten_0 : decode cX9_straighten 0 = .ok (.iconst 0, 1) := by decide +kernel
theorem dX9_straighten_1 : decode cX9_straighten 1 = .ok (.istore_n 1, 1) := by decide +kernel
theorem dX9_straighten_2 : decode cX9_straighten 2 = .ok (.iconst 0, 1) := by decide +kernel
theorem dX9_straighten_3 : decode cX9_straighten 3 = .ok (.istore_n 2, 1) := by decide +kernel
theorem dX9_straighten_4 : decode cX9_straighten 4 = .ok (.iload_n 2, 1) := by decide +kernel
theorem dX9_straighten_5 : decode cX9_straighten 5 = .ok (.aload_n 0, 1) := by decide +kernel
theorem dX9_straighten_6 : decode cX9_straighten 6 = .ok (.getfield 15, 3) := by decide +kernel
theorem dX9_straighten_9 : decode cX9_straighten 9 = .ok (.if_icmp .ge 37, 3) := by decide +kernel
theorem dX9_straighten_12 : decode cX9_straighten 12 = .ok (.aload_n 0, 1) := by decide +kernel
theorem dX9_straighten_13 : decode cX9_straighten 13 = .ok (.iload_n 2, 1) := by decide +kernel
theorem dX9_straighten_14 : decode cX9_straighten 14 = .ok (.invokevirtual 39, 3) := by decide +kernel
theorem dX9_straighten_17 : decode cX9_straighten 17 = .ok (.ifCond .eq 23, 3) := by decide +kernel
theorem dX9_straighten_20 : decode cX9_straighten 20 = .ok (.aload_n 0, 1) := by decide +kernel
theorem dX9_straighten_21 : decode cX9_straighten 21 = .ok (.aload_n 0, 1) := by decide +kernel
theorem dX9_straighten_22 : decode cX9_straighten 22 = .ok (.getfield 18, 3) := by decide +kernel
theorem dX9_straighten_25 : decode cX9_straighten 25 = .ok (.iload_n 2, 1) := by decide +kernel
theorem dX9_straighten_26 : decode cX9_straighten 26 = .ok (.iaload, 1) := by decide +kernel
theorem dX9_straighten_27 : decode cX9_straighten 27 = .ok (.aload_n 0, 1) := by decide +kernel
theorem dX9_straighten_28 : decode cX9_straighten 28 = .ok (.getfield 22, 3) := by decide +kernel
theorem dX9_straighten_31 : decode cX9_straighten 31 = .ok (.iload_n 2, 1) := by decide +kernel
theorem dX9_straighten_32 : decode cX9_straighten 32 = .ok (.iaload, 1) := by decide +kernel
theorem dX9_straighten_33 : decode cX9_straighten 33 = .ok (.iload_n 2, 1) := by decide +kernel
theorem dX9_straighten_34 : decode cX9_straighten 34 = .ok (.invokevirtual 43, 3) := by decide +kernel
theorem dX9_straighten_37 : decode cX9_straighten 37 = .ok (.iinc 1 1, 3) := by decide +kernel
theorem dX9_straighten_40 : decode cX9_straighten 40 = .ok (.iinc 2 1, 3) := by decide +kernel
theorem dX9_straighten_43 : decode cX9_straighten 43 = .ok (.goto (-39), 3) := by decide +kernel
theorem dX9_straighten_46 : decode cX9_straighten 46 = .ok (.iload_n 1, 1) := by decide +kernel
theorem dX9_straighten_47 : decode cX9_straighten 47 = .ok (.ireturn, 1) := by decide +kernel
theorem dX9_changeNames_0 : decode cX9_changeNames 0 = .ok (.iload_n 3, 1) := by decide +kernel
theorem dX9_changeNames_1 : decode cX9_changeNames 1 = .ok (.istore 4, 2) := by decide +kernel
theorem dX9_changeNames_3 : decode cX9_changeNames 3 = .ok (.iload 4, 2) := by decide +kernel
theorem dX9_changeNames_5 : decode cX9_changeNames 5 = .ok (.aload_n 0, 1) := by decide +kernel
theorem dX9_changeNames_6 : decode cX9_changeNames 6 = .ok (.getfield 15, 3) := by decide +kernel
theorem dX9_changeNames_9 : decode cX9_changeNames 9 = .ok (.if_icmp .ge 47, 3) := by decide +kernel
theorem dX9_changeNames_12 : decode cX9_changeNames 12 = .ok (.aload_n 0, 1) := by decide +kernel
theorem dX9_changeNames_13 : decode cX9_changeNames 13 = .ok (.getfield 18, 3) := by decide +kernel
theorem dX9_changeNames_16 : decode cX9_changeNames 16 = .ok (.iload 4, 2) := by decide +kernel
theorem dX9_changeNames_18 : decode cX9_changeNames 18 = .ok (.aload_n 0, 1) := by decide +kernel
theorem dX9_changeNames_19 : decode cX9_changeNames 19 = .ok (.getfield 18, 3) := by decide +kernel
theorem dX9_changeNames_22 : decode cX9_changeNames 22 = .ok (.iload 4, 2) := by decide +kernel
theorem dX9_changeNames_24 : decode cX9_changeNames 24 = .ok (.iaload, 1) := by decide +kernel
theorem dX9_changeNames_25 : decode cX9_changeNames 25 = .ok (.iload_n 1, 1) := by decide +kernel
theorem dX9_changeNames_26 : decode cX9_changeNames 26 = .ok (.iload_n 2, 1) := by decide +kernel
theorem dX9_changeNames_27 : decode cX9_changeNames 27 = .ok (.invokestatic 46, 3) := by decide +kernel
theorem dX9_changeNames_30 : decode cX9_changeNames 30 = .ok (.iastore, 1) := by decide +kernel
theorem dX9_changeNames_31 : decode cX9_changeNames 31 = .ok (.aload_n 0, 1) := by decide +kernel
theorem dX9_changeNames_32 : decode cX9_changeNames 32 = .ok (.getfield 22, 3) := by decide +kernel
theorem dX9_changeNames_35 : decode cX9_changeNames 35 = .ok (.iload 4, 2) := by decide +kernel
theorem dX9_changeNames_37 : decode cX9_changeNames 37 = .ok (.aload_n 0, 1) := by decide +kernel
theorem dX9_changeNames_38 : decode cX9_changeNames 38 = .ok (.getfield 22, 3) := by decide +kernel
theorem dX9_changeNames_41 : decode cX9_changeNames 41 = .ok (.iload 4, 2) := by decide +kernel
theorem dX9_changeNames_43 : decode cX9_changeNames 43 = .ok (.iaload, 1) := by decide +kernel
theorem dX9_changeNames_44 : decode cX9_changeNames 44 = .ok (.iload_n 1, 1) := by decide +kernel
theorem dX9_changeNames_45 : decode cX9_changeNames 45 = .ok (.iload_n 2, 1) := by decide +kernel
theorem dX9_changeNames_46 : decode cX9_changeNames 46 = .ok (.invokestatic 46, 3) := by decide +kernel
theorem dX9_changeNames_49 : decode cX9_changeNames 49 = .ok (.iastore, 1) := by decide +kernel
theorem dX9_changeNames_50 : decode cX9_changeNames 50 = .ok (.iinc 4 1, 3) := by decide +kernel
theorem dX9_changeNames_53 : decode cX9_changeNames 53 = .ok (.goto (-50), 3) := by decide +kernel
theorem dX9_changeNames_56 : decode cX9_changeNames 56 = .ok (.return_, 1) := by decide +kernel
theorem dX9_renamed_0 : decode cX9_renamed 0 = .ok (.iload_n 0, 1) := by decide +kernel
theorem dX9_renamed_1 : decode cX9_renamed 1 = .ok (.iload_n 1, 1) := by decide +kernel
theorem dX9_renamed_2 : decode cX9_renamed 2 = .ok (.if_icmp .ne 5, 3) := by decide +kernel
theorem dX9_renamed_5 : decode cX9_renamed 5 = .ok (.iload_n 2, 1) := by decide +kernel
theorem dX9_renamed_6 : decode cX9_renamed 6 = .ok (.ireturn, 1) := by decide +kernel
theorem dX9_renamed_7 : decode cX9_renamed 7 = .ok (.iload_n 0, 1) := by decide +kernel
theorem dX9_renamed_8 : decode cX9_renamed 8 = .ok (.iload_n 2, 1) := by decide +kernel
theorem dX9_renamed_9 : decode cX9_renamed 9 = .ok (.if_icmp .ne 7, 3) := by decide +kernel
theorem dX9_renamed_12 : decode cX9_renamed 12 = .ok (.iload_n 1, 1) := by decide +kernel
theorem dX9_renamed_13 : decode cX9_renamed 13 = .ok (.goto 4, 3) := by decide +kernel
theorem dX9_renamed_16 : decode cX9_renamed 16 = .ok (.iload_n 0, 1) := by decide +kernel
theorem dX9_renamed_17 : decode cX9_renamed 17 = .ok (.ireturn, 1) := by decide +kernel
theorem dX9_isCrooked_0 : decode cX9_isCrooked 0 = .ok (.aload_n 0, 1) := by decide +kernel
theorem dX9_isCrooked_1 : decode cX9_isCrooked 1 = .ok (.getfield 18, 3) := by decide +kernel
theorem dX9_isCrooked_4 : decode cX9_isCrooked 4 = .ok (.iload_n 1, 1) := by decide +kernel
theorem dX9_isCrooked_5 : decode cX9_isCrooked 5 = .ok (.iaload, 1) := by decide +kernel
theorem dX9_isCrooked_6 : decode cX9_isCrooked 6 = .ok (.aload_n 0, 1) := by decide +kernel
theorem dX9_isCrooked_7 : decode cX9_isCrooked 7 = .ok (.getfield 22, 3) := by decide +kernel
theorem dX9_isCrooked_10 : decode cX9_isCrooked 10 = .ok (.iload_n 1, 1) := by decide +kernel
theorem dX9_isCrooked_11 : decode cX9_isCrooked 11 = .ok (.iaload, 1) := by decide +kernel
theorem dX9_isCrooked_12 : decode cX9_isCrooked 12 = .ok (.if_icmp .le 7, 3) := by decide +kernel
theorem dX9_isCrooked_15 : decode cX9_isCrooked 15 = .ok (.iconst 1, 1) := by decide +kernel
theorem dX9_isCrooked_16 : decode cX9_isCrooked 16 = .ok (.goto 4, 3) := by decide +kernel
theorem dX9_isCrooked_19 : decode cX9_isCrooked 19 = .ok (.iconst 0, 1) := by decide +kernel
theorem dX9_isCrooked_20 : decode cX9_isCrooked 20 = .ok (.ireturn, 1) := by decide +kernel
theorem dX9_crookedCount_0 : decode cX9_crookedCount 0 = .ok (.iconst 0, 1) := by decide +kernel
theorem dX9_crookedCount_1 : decode cX9_crookedCount 1 = .ok (.istore_n 1, 1) := by decide +kernel
theorem dX9_crookedCount_2 : decode cX9_crookedCount 2 = .ok (.iconst 0, 1) := by decide +kernel
theorem dX9_crookedCount_3 : decode cX9_crookedCount 3 = .ok (.istore_n 2, 1) := by decide +kernel
theorem dX9_crookedCount_4 : decode cX9_crookedCount 4 = .ok (.iload_n 2, 1) := by decide +kernel
theorem dX9_crookedCount_5 : decode cX9_crookedCount 5 = .ok (.aload_n 0, 1) := by decide +kernel
theorem dX9_crookedCount_6 : decode cX9_crookedCount 6 = .ok (.getfield 15, 3) := by decide +kernel
theorem dX9_crookedCount_9 : decode cX9_crookedCount 9 = .ok (.if_icmp .ge 20, 3) := by decide +kernel
theorem dX9_crookedCount_12 : decode cX9_crookedCount 12 = .ok (.aload_n 0, 1) := by decide +kernel
theorem dX9_crookedCount_13 : decode cX9_crookedCount 13 = .ok (.iload_n 2, 1) := by decide +kernel
theorem dX9_crookedCount_14 : decode cX9_crookedCount 14 = .ok (.invokevirtual 39, 3) := by decide +kernel
theorem dX9_crookedCount_17 : decode cX9_crookedCount 17 = .ok (.ifCond .eq 6, 3) := by decide +kernel
theorem dX9_crookedCount_20 : decode cX9_crookedCount 20 = .ok (.iinc 1 1, 3) := by decide +kernel
theorem dX9_crookedCount_23 : decode cX9_crookedCount 23 = .ok (.iinc 2 1, 3) := by decide +kernel
theorem dX9_crookedCount_26 : decode cX9_crookedCount 26 = .ok (.goto (-22), 3) := by decide +kernel
theorem dX9_crookedCount_29 : decode cX9_crookedCount 29 = .ok (.iload_n 1, 1) := by decide +kernel
theorem dX9_crookedCount_30 : decode cX9_crookedCount 30 = .ok (.ireturn, 1) := by decide +kernel
theorem dX9_sent_0 : decode cX9_sent 0 = .ok (.iload_n 1, 1) := by decide +kernel
theorem dX9_sent_1 : decode cX9_sent 1 = .ok (.istore_n 2, 1) := by decide +kernel
theorem dX9_sent_2 : decode cX9_sent 2 = .ok (.iconst 0, 1) := by decide +kernel
theorem dX9_sent_3 : decode cX9_sent 3 = .ok (.istore_n 3, 1) := by decide +kernel
theorem dX9_sent_4 : decode cX9_sent 4 = .ok (.iload_n 3, 1) := by decide +kernel
theorem dX9_sent_5 : decode cX9_sent 5 = .ok (.aload_n 0, 1) := by decide +kernel
theorem dX9_sent_6 : decode cX9_sent 6 = .ok (.getfield 15, 3) := by decide +kernel
theorem dX9_sent_9 : decode cX9_sent 9 = .ok (.if_icmp .ge 49, 3) := by decide +kernel
theorem dX9_sent_12 : decode cX9_sent 12 = .ok (.iload_n 2, 1) := by decide +kernel
theorem dX9_sent_13 : decode cX9_sent 13 = .ok (.aload_n 0, 1) := by decide +kernel
theorem dX9_sent_14 : decode cX9_sent 14 = .ok (.getfield 18, 3) := by decide +kernel
theorem dX9_sent_17 : decode cX9_sent 17 = .ok (.iload_n 3, 1) := by decide +kernel
theorem dX9_sent_18 : decode cX9_sent 18 = .ok (.iaload, 1) := by decide +kernel
theorem dX9_sent_19 : decode cX9_sent 19 = .ok (.invokestatic 50, 3) := by decide +kernel
theorem dX9_sent_22 : decode cX9_sent 22 = .ok (.iload_n 2, 1) := by decide +kernel
theorem dX9_sent_23 : decode cX9_sent 23 = .ok (.aload_n 0, 1) := by decide +kernel
theorem dX9_sent_24 : decode cX9_sent 24 = .ok (.getfield 22, 3) := by decide +kernel
theorem dX9_sent_27 : decode cX9_sent 27 = .ok (.iload_n 3, 1) := by decide +kernel
theorem dX9_sent_28 : decode cX9_sent 28 = .ok (.iaload, 1) := by decide +kernel
theorem dX9_sent_29 : decode cX9_sent 29 = .ok (.invokestatic 50, 3) := by decide +kernel
theorem dX9_sent_32 : decode cX9_sent 32 = .ok (.if_icmp .le 20, 3) := by decide +kernel
theorem dX9_sent_35 : decode cX9_sent 35 = .ok (.iload_n 2, 1) := by decide +kernel
theorem dX9_sent_36 : decode cX9_sent 36 = .ok (.aload_n 0, 1) := by decide +kernel
theorem dX9_sent_37 : decode cX9_sent 37 = .ok (.getfield 18, 3) := by decide +kernel
theorem dX9_sent_40 : decode cX9_sent 40 = .ok (.iload_n 3, 1) := by decide +kernel
theorem dX9_sent_41 : decode cX9_sent 41 = .ok (.iaload, 1) := by decide +kernel
theorem dX9_sent_42 : decode cX9_sent 42 = .ok (.aload_n 0, 1) := by decide +kernel
theorem dX9_sent_43 : decode cX9_sent 43 = .ok (.getfield 22, 3) := by decide +kernel
theorem dX9_sent_46 : decode cX9_sent 46 = .ok (.iload_n 3, 1) := by decide +kernel
theorem dX9_sent_47 : decode cX9_sent 47 = .ok (.iaload, 1) := by decide +kernel
theorem dX9_sent_48 : decode cX9_sent 48 = .ok (.invokestatic 56, 3) := by decide +kernel
theorem dX9_sent_51 : decode cX9_sent 51 = .ok (.istore_n 2, 1) := by decide +kernel
theorem dX9_sent_52 : decode cX9_sent 52 = .ok (.iinc 3 1, 3) := by decide +kernel
theorem dX9_sent_55 : decode cX9_sent 55 = .ok (.goto (-51), 3) := by decide +kernel
theorem dX9_sent_58 : decode cX9_sent 58 = .ok (.iload_n 2, 1) := by decide +kernel
theorem dX9_sent_59 : decode cX9_sent 59 = .ok (.ireturn, 1) := by decide +kernel
theorem dX9_layerCount_0 : decode cX9_layerCount 0 = .ok (.iconst 0, 1) := by decide +kernel
theorem dX9_layerCount_1 : decode cX9_layerCount 1 = .ok (.istore_n 1, 1) := by decide +kernel
theorem dX9_layerCount_2 : decode cX9_layerCount 2 = .ok (.iconst 0, 1) := by decide +kernel
theorem dX9_layerCount_3 : decode cX9_layerCount 3 = .ok (.istore_n 2, 1) := by decide +kernel
theorem dX9_layerCount_4 : decode cX9_layerCount 4 = .ok (.iload_n 2, 1) := by decide +kernel
theorem dX9_layerCount_5 : decode cX9_layerCount 5 = .ok (.aload_n 0, 1) := by decide +kernel
theorem dX9_layerCount_6 : decode cX9_layerCount 6 = .ok (.getfield 9, 3) := by decide +kernel
theorem dX9_layerCount_9 : decode cX9_layerCount 9 = .ok (.if_icmp .ge 16, 3) := by decide +kernel
theorem dX9_layerCount_12 : decode cX9_layerCount 12 = .ok (.aload_n 0, 1) := by decide +kernel
theorem dX9_layerCount_13 : decode cX9_layerCount 13 = .ok (.getfield 28, 3) := by decide +kernel
theorem dX9_layerCount_16 : decode cX9_layerCount 16 = .ok (.iload_n 2, 1) := by decide +kernel
theorem dX9_layerCount_17 : decode cX9_layerCount 17 = .ok (.iconst 0, 1) := by decide +kernel
theorem dX9_layerCount_18 : decode cX9_layerCount 18 = .ok (.iastore, 1) := by decide +kernel
theorem dX9_layerCount_19 : decode cX9_layerCount 19 = .ok (.iinc 2 1, 3) := by decide +kernel
theorem dX9_layerCount_22 : decode cX9_layerCount 22 = .ok (.goto (-18), 3) := by decide +kernel
theorem dX9_layerCount_25 : decode cX9_layerCount 25 = .ok (.iconst 0, 1) := by decide +kernel
theorem dX9_layerCount_26 : decode cX9_layerCount 26 = .ok (.istore_n 2, 1) := by decide +kernel
theorem dX9_layerCount_27 : decode cX9_layerCount 27 = .ok (.iload_n 2, 1) := by decide +kernel
theorem dX9_layerCount_28 : decode cX9_layerCount 28 = .ok (.aload_n 0, 1) := by decide +kernel
theorem dX9_layerCount_29 : decode cX9_layerCount 29 = .ok (.getfield 15, 3) := by decide +kernel
theorem dX9_layerCount_32 : decode cX9_layerCount 32 = .ok (.if_icmp .ge 78, 3) := by decide +kernel
theorem dX9_layerCount_35 : decode cX9_layerCount 35 = .ok (.aload_n 0, 1) := by decide +kernel
theorem dX9_layerCount_36 : decode cX9_layerCount 36 = .ok (.getfield 28, 3) := by decide +kernel
theorem dX9_layerCount_39 : decode cX9_layerCount 39 = .ok (.aload_n 0, 1) := by decide +kernel
theorem dX9_layerCount_40 : decode cX9_layerCount 40 = .ok (.getfield 18, 3) := by decide +kernel
theorem dX9_layerCount_43 : decode cX9_layerCount 43 = .ok (.iload_n 2, 1) := by decide +kernel
theorem dX9_layerCount_44 : decode cX9_layerCount 44 = .ok (.iaload, 1) := by decide +kernel
theorem dX9_layerCount_45 : decode cX9_layerCount 45 = .ok (.iaload, 1) := by decide +kernel
theorem dX9_layerCount_46 : decode cX9_layerCount 46 = .ok (.aload_n 0, 1) := by decide +kernel
theorem dX9_layerCount_47 : decode cX9_layerCount 47 = .ok (.getfield 28, 3) := by decide +kernel
theorem dX9_layerCount_50 : decode cX9_layerCount 50 = .ok (.aload_n 0, 1) := by decide +kernel
theorem dX9_layerCount_51 : decode cX9_layerCount 51 = .ok (.getfield 22, 3) := by decide +kernel
theorem dX9_layerCount_54 : decode cX9_layerCount 54 = .ok (.iload_n 2, 1) := by decide +kernel
theorem dX9_layerCount_55 : decode cX9_layerCount 55 = .ok (.iaload, 1) := by decide +kernel
theorem dX9_layerCount_56 : decode cX9_layerCount 56 = .ok (.iaload, 1) := by decide +kernel
theorem dX9_layerCount_57 : decode cX9_layerCount 57 = .ok (.invokestatic 59, 3) := by decide +kernel
theorem dX9_layerCount_60 : decode cX9_layerCount 60 = .ok (.istore_n 3, 1) := by decide +kernel
theorem dX9_layerCount_61 : decode cX9_layerCount 61 = .ok (.aload_n 0, 1) := by decide +kernel
theorem dX9_layerCount_62 : decode cX9_layerCount 62 = .ok (.getfield 25, 3) := by decide +kernel
theorem dX9_layerCount_65 : decode cX9_layerCount 65 = .ok (.iload_n 2, 1) := by decide +kernel
theorem dX9_layerCount_66 : decode cX9_layerCount 66 = .ok (.iload_n 3, 1) := by decide +kernel
theorem dX9_layerCount_67 : decode cX9_layerCount 67 = .ok (.iastore, 1) := by decide +kernel
theorem dX9_layerCount_68 : decode cX9_layerCount 68 = .ok (.aload_n 0, 1) := by decide +kernel
theorem dX9_layerCount_69 : decode cX9_layerCount 69 = .ok (.getfield 28, 3) := by decide +kernel
theorem dX9_layerCount_72 : decode cX9_layerCount 72 = .ok (.aload_n 0, 1) := by decide +kernel
theorem dX9_layerCount_73 : decode cX9_layerCount 73 = .ok (.getfield 18, 3) := by decide +kernel
theorem dX9_layerCount_76 : decode cX9_layerCount 76 = .ok (.iload_n 2, 1) := by decide +kernel
theorem dX9_layerCount_77 : decode cX9_layerCount 77 = .ok (.iaload, 1) := by decide +kernel
theorem dX9_layerCount_78 : decode cX9_layerCount 78 = .ok (.iload_n 3, 1) := by decide +kernel
theorem dX9_layerCount_79 : decode cX9_layerCount 79 = .ok (.iconst 1, 1) := by decide +kernel
theorem dX9_layerCount_80 : decode cX9_layerCount 80 = .ok (.iadd, 1) := by decide +kernel
theorem dX9_layerCount_81 : decode cX9_layerCount 81 = .ok (.iastore, 1) := by decide +kernel
theorem dX9_layerCount_82 : decode cX9_layerCount 82 = .ok (.aload_n 0, 1) := by decide +kernel
theorem dX9_layerCount_83 : decode cX9_layerCount 83 = .ok (.getfield 28, 3) := by decide +kernel
theorem dX9_layerCount_86 : decode cX9_layerCount 86 = .ok (.aload_n 0, 1) := by decide +kernel
theorem dX9_layerCount_87 : decode cX9_layerCount 87 = .ok (.getfield 22, 3) := by decide +kernel
theorem dX9_layerCount_90 : decode cX9_layerCount 90 = .ok (.iload_n 2, 1) := by decide +kernel
theorem dX9_layerCount_91 : decode cX9_layerCount 91 = .ok (.iaload, 1) := by decide +kernel
theorem dX9_layerCount_92 : decode cX9_layerCount 92 = .ok (.iload_n 3, 1) := by decide +kernel
theorem dX9_layerCount_93 : decode cX9_layerCount 93 = .ok (.iconst 1, 1) := by decide +kernel
theorem dX9_layerCount_94 : decode cX9_layerCount 94 = .ok (.iadd, 1) := by decide +kernel
theorem dX9_layerCount_95 : decode cX9_layerCount 95 = .ok (.iastore, 1) := by decide +kernel
theorem dX9_layerCount_96 : decode cX9_layerCount 96 = .ok (.iload_n 1, 1) := by decide +kernel
theorem dX9_layerCount_97 : decode cX9_layerCount 97 = .ok (.iload_n 3, 1) := by decide +kernel
theorem dX9_layerCount_98 : decode cX9_layerCount 98 = .ok (.iconst 1, 1) := by decide +kernel
theorem dX9_layerCount_99 : decode cX9_layerCount 99 = .ok (.iadd, 1) := by decide +kernel
theorem dX9_layerCount_100 : decode cX9_layerCount 100 = .ok (.invokestatic 59, 3) := by decide +kernel
theorem dX9_layerCount_103 : decode cX9_layerCount 103 = .ok (.istore_n 1, 1) := by decide +kernel
theorem dX9_layerCount_104 : decode cX9_layerCount 104 = .ok (.iinc 2 1, 3) := by decide +kernel
theorem dX9_layerCount_107 : decode cX9_layerCount 107 = .ok (.goto (-80), 3) := by decide +kernel
theorem dX9_layerCount_110 : decode cX9_layerCount 110 = .ok (.iload_n 1, 1) := by decide +kernel
theorem dX9_layerCount_111 : decode cX9_layerCount 111 = .ok (.ireturn, 1) := by decide +kernel
theorem dX9_layerOf_0 : decode cX9_layerOf 0 = .ok (.aload_n 0, 1) := by decide +kernel
theorem dX9_layerOf_1 : decode cX9_layerOf 1 = .ok (.invokevirtual 64, 3) := by decide +kernel
theorem dX9_layerOf_4 : decode cX9_layerOf 4 = .ok (.pop, 1) := by decide +kernel
theorem dX9_layerOf_5 : decode cX9_layerOf 5 = .ok (.aload_n 0, 1) := by decide +kernel
theorem dX9_layerOf_6 : decode cX9_layerOf 6 = .ok (.getfield 25, 3) := by decide +kernel
theorem dX9_layerOf_9 : decode cX9_layerOf 9 = .ok (.iload_n 1, 1) := by decide +kernel
theorem dX9_layerOf_10 : decode cX9_layerOf 10 = .ok (.iaload, 1) := by decide +kernel
theorem dX9_layerOf_11 : decode cX9_layerOf 11 = .ok (.ireturn, 1) := by decide +kernel
theorem dX9_textLength_0 : decode cX9_textLength 0 = .ok (.aload_n 0, 1) := by decide +kernel
theorem dX9_textLength_1 : decode cX9_textLength 1 = .ok (.getfield 15, 3) := by decide +kernel
theorem dX9_textLength_4 : decode cX9_textLength 4 = .ok (.ifCond .ne 7, 3) := by decide +kernel
theorem dX9_textLength_7 : decode cX9_textLength 7 = .ok (.iconst 0, 1) := by decide +kernel
theorem dX9_textLength_8 : decode cX9_textLength 8 = .ok (.goto 11, 3) := by decide +kernel
theorem dX9_textLength_11 : decode cX9_textLength 11 = .ok (.iconst 4, 1) := by decide +kernel
theorem dX9_textLength_12 : decode cX9_textLength 12 = .ok (.aload_n 0, 1) := by decide +kernel
theorem dX9_textLength_13 : decode cX9_textLength 13 = .ok (.getfield 15, 3) := by decide +kernel
theorem dX9_textLength_16 : decode cX9_textLength 16 = .ok (.imul, 1) := by decide +kernel
theorem dX9_textLength_17 : decode cX9_textLength 17 = .ok (.iconst 1, 1) := by decide +kernel
theorem dX9_textLength_18 : decode cX9_textLength 18 = .ok (.isub, 1) := by decide +kernel
theorem dX9_textLength_19 : decode cX9_textLength 19 = .ok (.ireturn, 1) := by decide +kernel
theorem dX9_signAt_0 : decode cX9_signAt 0 = .ok (.iload_n 1, 1) := by decide +kernel
theorem dX9_signAt_1 : decode cX9_signAt 1 = .ok (.aload_n 0, 1) := by decide +kernel
theorem dX9_signAt_2 : decode cX9_signAt 2 = .ok (.invokevirtual 68, 3) := by decide +kernel
theorem dX9_signAt_5 : decode cX9_signAt 5 = .ok (.if_icmp .lt 6, 3) := by decide +kernel
theorem dX9_signAt_8 : decode cX9_signAt 8 = .ok (.bipush 32, 2) := by decide +kernel
theorem dX9_signAt_10 : decode cX9_signAt 10 = .ok (.ireturn, 1) := by decide +kernel
theorem dX9_signAt_11 : decode cX9_signAt 11 = .ok (.aload_n 0, 1) := by decide +kernel
theorem dX9_signAt_12 : decode cX9_signAt 12 = .ok (.invokevirtual 64, 3) := by decide +kernel
theorem dX9_signAt_15 : decode cX9_signAt 15 = .ok (.pop, 1) := by decide +kernel
theorem dX9_signAt_16 : decode cX9_signAt 16 = .ok (.aload_n 0, 1) := by decide +kernel
theorem dX9_signAt_17 : decode cX9_signAt 17 = .ok (.iload_n 1, 1) := by decide +kernel
theorem dX9_signAt_18 : decode cX9_signAt 18 = .ok (.iconst 4, 1) := by decide +kernel
theorem dX9_signAt_19 : decode cX9_signAt 19 = .ok (.idiv, 1) := by decide +kernel
theorem dX9_signAt_20 : decode cX9_signAt 20 = .ok (.invokevirtual 71, 3) := by decide +kernel
theorem dX9_signAt_23 : decode cX9_signAt 23 = .ok (.istore_n 2, 1) := by decide +kernel
theorem dX9_signAt_24 : decode cX9_signAt 24 = .ok (.iload_n 1, 1) := by decide +kernel
theorem dX9_signAt_25 : decode cX9_signAt 25 = .ok (.iconst 4, 1) := by decide +kernel
theorem dX9_signAt_26 : decode cX9_signAt 26 = .ok (.irem, 1) := by decide +kernel
theorem dX9_signAt_27 : decode cX9_signAt 27 = .ok (.tableswitch 50 0 2 #[25, 36, 39], 25) := by decide +kernel
theorem dX9_signAt_52 : decode cX9_signAt 52 = .ok (.bipush 48, 2) := by decide +kernel
theorem dX9_signAt_54 : decode cX9_signAt 54 = .ok (.aload_n 0, 1) := by decide +kernel
theorem dX9_signAt_55 : decode cX9_signAt 55 = .ok (.getfield 18, 3) := by decide +kernel
theorem dX9_signAt_58 : decode cX9_signAt 58 = .ok (.iload_n 2, 1) := by decide +kernel
theorem dX9_signAt_59 : decode cX9_signAt 59 = .ok (.iaload, 1) := by decide +kernel
theorem dX9_signAt_60 : decode cX9_signAt 60 = .ok (.iadd, 1) := by decide +kernel
theorem dX9_signAt_61 : decode cX9_signAt 61 = .ok (.i2c, 1) := by decide +kernel
theorem dX9_signAt_62 : decode cX9_signAt 62 = .ok (.ireturn, 1) := by decide +kernel
theorem dX9_signAt_63 : decode cX9_signAt 63 = .ok (.bipush 58, 2) := by decide +kernel
theorem dX9_signAt_65 : decode cX9_signAt 65 = .ok (.ireturn, 1) := by decide +kernel
theorem dX9_signAt_66 : decode cX9_signAt 66 = .ok (.bipush 48, 2) := by decide +kernel
theorem dX9_signAt_68 : decode cX9_signAt 68 = .ok (.aload_n 0, 1) := by decide +kernel
theorem dX9_signAt_69 : decode cX9_signAt 69 = .ok (.getfield 22, 3) := by decide +kernel
theorem dX9_signAt_72 : decode cX9_signAt 72 = .ok (.iload_n 2, 1) := by decide +kernel
theorem dX9_signAt_73 : decode cX9_signAt 73 = .ok (.iaload, 1) := by decide +kernel
theorem dX9_signAt_74 : decode cX9_signAt 74 = .ok (.iadd, 1) := by decide +kernel
theorem dX9_signAt_75 : decode cX9_signAt 75 = .ok (.i2c, 1) := by decide +kernel
theorem dX9_signAt_76 : decode cX9_signAt 76 = .ok (.ireturn, 1) := by decide +kernel
theorem dX9_signAt_77 : decode cX9_signAt 77 = .ok (.aload_n 0, 1) := by decide +kernel
theorem dX9_signAt_78 : decode cX9_signAt 78 = .ok (.getfield 25, 3) := by decide +kernel
theorem dX9_signAt_81 : decode cX9_signAt 81 = .ok (.iload_n 2, 1) := by decide +kernel
theorem dX9_signAt_82 : decode cX9_signAt 82 = .ok (.iaload, 1) := by decide +kernel
theorem dX9_signAt_83 : decode cX9_signAt 83 = .ok (.aload_n 0, 1) := by decide +kernel
theorem dX9_signAt_84 : decode cX9_signAt 84 = .ok (.getfield 25, 3) := by decide +kernel
theorem dX9_signAt_87 : decode cX9_signAt 87 = .ok (.aload_n 0, 1) := by decide +kernel
theorem dX9_signAt_88 : decode cX9_signAt 88 = .ok (.iload_n 1, 1) := by decide +kernel
theorem dX9_signAt_89 : decode cX9_signAt 89 = .ok (.iconst 4, 1) := by decide +kernel
theorem dX9_signAt_90 : decode cX9_signAt 90 = .ok (.idiv, 1) := by decide +kernel
theorem dX9_signAt_91 : decode cX9_signAt 91 = .ok (.iconst 1, 1) := by decide +kernel
theorem dX9_signAt_92 : decode cX9_signAt 92 = .ok (.iadd, 1) := by decide +kernel
theorem dX9_signAt_93 : decode cX9_signAt 93 = .ok (.invokevirtual 71, 3) := by decide +kernel
theorem dX9_signAt_96 : decode cX9_signAt 96 = .ok (.iaload, 1) := by decide +kernel
theorem dX9_signAt_97 : decode cX9_signAt 97 = .ok (.if_icmp .ne 8, 3) := by decide +kernel
theorem dX9_signAt_100 : decode cX9_signAt 100 = .ok (.bipush 32, 2) := by decide +kernel
theorem dX9_signAt_102 : decode cX9_signAt 102 = .ok (.goto 5, 3) := by decide +kernel
theorem dX9_signAt_105 : decode cX9_signAt 105 = .ok (.bipush 47, 2) := by decide +kernel
theorem dX9_signAt_107 : decode cX9_signAt 107 = .ok (.ireturn, 1) := by decide +kernel
theorem dX9_inTextAt_0 : decode cX9_inTextAt 0 = .ok (.iconst 0, 1) := by decide +kernel
theorem dX9_inTextAt_1 : decode cX9_inTextAt 1 = .ok (.istore_n 2, 1) := by decide +kernel
theorem dX9_inTextAt_2 : decode cX9_inTextAt 2 = .ok (.iload_n 2, 1) := by decide +kernel
theorem dX9_inTextAt_3 : decode cX9_inTextAt 3 = .ok (.aload_n 0, 1) := by decide +kernel
theorem dX9_inTextAt_4 : decode cX9_inTextAt 4 = .ok (.getfield 15, 3) := by decide +kernel
theorem dX9_inTextAt_7 : decode cX9_inTextAt 7 = .ok (.if_icmp .ge 53, 3) := by decide +kernel
theorem dX9_inTextAt_10 : decode cX9_inTextAt 10 = .ok (.iconst 0, 1) := by decide +kernel
theorem dX9_inTextAt_11 : decode cX9_inTextAt 11 = .ok (.istore_n 3, 1) := by decide +kernel
theorem dX9_inTextAt_12 : decode cX9_inTextAt 12 = .ok (.iconst 0, 1) := by decide +kernel
theorem dX9_inTextAt_13 : decode cX9_inTextAt 13 = .ok (.istore 4, 2) := by decide +kernel
theorem dX9_inTextAt_15 : decode cX9_inTextAt 15 = .ok (.iload 4, 2) := by decide +kernel
theorem dX9_inTextAt_17 : decode cX9_inTextAt 17 = .ok (.aload_n 0, 1) := by decide +kernel
theorem dX9_inTextAt_18 : decode cX9_inTextAt 18 = .ok (.getfield 15, 3) := by decide +kernel
theorem dX9_inTextAt_21 : decode cX9_inTextAt 21 = .ok (.if_icmp .ge 26, 3) := by decide +kernel
theorem dX9_inTextAt_24 : decode cX9_inTextAt 24 = .ok (.aload_n 0, 1) := by decide +kernel
theorem dX9_inTextAt_25 : decode cX9_inTextAt 25 = .ok (.iload 4, 2) := by decide +kernel
theorem dX9_inTextAt_27 : decode cX9_inTextAt 27 = .ok (.invokevirtual 75, 3) := by decide +kernel
theorem dX9_inTextAt_30 : decode cX9_inTextAt 30 = .ok (.aload_n 0, 1) := by decide +kernel
theorem dX9_inTextAt_31 : decode cX9_inTextAt 31 = .ok (.iload_n 2, 1) := by decide +kernel
theorem dX9_inTextAt_32 : decode cX9_inTextAt 32 = .ok (.invokevirtual 75, 3) := by decide +kernel
theorem dX9_inTextAt_35 : decode cX9_inTextAt 35 = .ok (.if_icmp .ge 6, 3) := by decide +kernel
theorem dX9_inTextAt_38 : decode cX9_inTextAt 38 = .ok (.iinc 3 1, 3) := by decide +kernel
theorem dX9_inTextAt_41 : decode cX9_inTextAt 41 = .ok (.iinc 4 1, 3) := by decide +kernel
theorem dX9_inTextAt_44 : decode cX9_inTextAt 44 = .ok (.goto (-29), 3) := by decide +kernel
theorem dX9_inTextAt_47 : decode cX9_inTextAt 47 = .ok (.iload_n 3, 1) := by decide +kernel
theorem dX9_inTextAt_48 : decode cX9_inTextAt 48 = .ok (.iload_n 1, 1) := by decide +kernel
theorem dX9_inTextAt_49 : decode cX9_inTextAt 49 = .ok (.if_icmp .ne 5, 3) := by decide +kernel
theorem dX9_inTextAt_52 : decode cX9_inTextAt 52 = .ok (.iload_n 2, 1) := by decide +kernel
theorem dX9_inTextAt_53 : decode cX9_inTextAt 53 = .ok (.ireturn, 1) := by decide +kernel
theorem dX9_inTextAt_54 : decode cX9_inTextAt 54 = .ok (.iinc 2 1, 3) := by decide +kernel
theorem dX9_inTextAt_57 : decode cX9_inTextAt 57 = .ok (.goto (-55), 3) := by decide +kernel
theorem dX9_inTextAt_60 : decode cX9_inTextAt 60 = .ok (.iconst 0, 1) := by decide +kernel
theorem dX9_inTextAt_61 : decode cX9_inTextAt 61 = .ok (.ireturn, 1) := by decide +kernel
theorem dX9_placeKey_0 : decode cX9_placeKey 0 = .ok (.bipush 6, 2) := by decide +kernel
theorem dX9_placeKey_2 : decode cX9_placeKey 2 = .ok (.aload_n 0, 1) := by decide +kernel
theorem dX9_placeKey_3 : decode cX9_placeKey 3 = .ok (.getfield 25, 3) := by decide +kernel
theorem dX9_placeKey_6 : decode cX9_placeKey 6 = .ok (.iload_n 1, 1) := by decide +kernel
theorem dX9_placeKey_7 : decode cX9_placeKey 7 = .ok (.iaload, 1) := by decide +kernel
theorem dX9_placeKey_8 : decode cX9_placeKey 8 = .ok (.imul, 1) := by decide +kernel
theorem dX9_placeKey_9 : decode cX9_placeKey 9 = .ok (.aload_n 0, 1) := by decide +kernel
theorem dX9_placeKey_10 : decode cX9_placeKey 10 = .ok (.getfield 18, 3) := by decide +kernel
theorem dX9_placeKey_13 : decode cX9_placeKey 13 = .ok (.iload_n 1, 1) := by decide +kernel
theorem dX9_placeKey_14 : decode cX9_placeKey 14 = .ok (.iaload, 1) := by decide +kernel
theorem dX9_placeKey_15 : decode cX9_placeKey 15 = .ok (.aload_n 0, 1) := by decide +kernel
theorem dX9_placeKey_16 : decode cX9_placeKey 16 = .ok (.getfield 22, 3) := by decide +kernel
theorem dX9_placeKey_19 : decode cX9_placeKey 19 = .ok (.iload_n 1, 1) := by decide +kernel
theorem dX9_placeKey_20 : decode cX9_placeKey 20 = .ok (.iaload, 1) := by decide +kernel
theorem dX9_placeKey_21 : decode cX9_placeKey 21 = .ok (.invokestatic 78, 3) := by decide +kernel
theorem dX9_placeKey_24 : decode cX9_placeKey 24 = .ok (.iadd, 1) := by decide +kernel
theorem dX9_placeKey_25 : decode cX9_placeKey 25 = .ok (.ireturn, 1) := by decide +kernel
theorem dX10_init_0 : decode cX10_init 0 = .ok (.aload_n 0, 1) := by decide +kernel
theorem dX10_init_1 : decode cX10_init 1 = .ok (.invokespecial 1, 3) := by decide +kernel
theorem dX10_init_4 : decode cX10_init 4 = .ok (.aload_n 0, 1) := by decide +kernel
theorem dX10_init_5 : decode cX10_init 5 = .ok (.new 7, 3) := by decide +kernel
theorem dX10_init_8 : decode cX10_init 8 = .ok (.dup, 1) := by decide +kernel
theorem dX10_init_9 : decode cX10_init 9 = .ok (.invokespecial 9, 3) := by decide +kernel
theorem dX10_init_12 : decode cX10_init 12 = .ok (.putfield 10, 3) := by decide +kernel
theorem dX10_init_15 : decode cX10_init 15 = .ok (.aload_n 0, 1) := by decide +kernel
theorem dX10_init_16 : decode cX10_init 16 = .ok (.new 7, 3) := by decide +kernel
theorem dX10_init_19 : decode cX10_init 19 = .ok (.dup, 1) := by decide +kernel
theorem dX10_init_20 : decode cX10_init 20 = .ok (.invokespecial 9, 3) := by decide +kernel
theorem dX10_init_23 : decode cX10_init 23 = .ok (.putfield 16, 3) := by decide +kernel
theorem dX10_init_26 : decode cX10_init 26 = .ok (.aload_n 0, 1) := by decide +kernel
theorem dX10_init_27 : decode cX10_init 27 = .ok (.new 19, 3) := by decide +kernel
theorem dX10_init_30 : decode cX10_init 30 = .ok (.dup, 1) := by decide +kernel
theorem dX10_init_31 : decode cX10_init 31 = .ok (.invokespecial 21, 3) := by decide +kernel
theorem dX10_init_34 : decode cX10_init 34 = .ok (.putfield 22, 3) := by decide +kernel
theorem dX10_init_37 : decode cX10_init 37 = .ok (.aload_n 0, 1) := by decide +kernel
theorem dX10_init_38 : decode cX10_init 38 = .ok (.new 26, 3) := by decide +kernel
theorem dX10_init_41 : decode cX10_init 41 = .ok (.dup, 1) := by decide +kernel
theorem dX10_init_42 : decode cX10_init 42 = .ok (.invokespecial 28, 3) := by decide +kernel
theorem dX10_init_45 : decode cX10_init 45 = .ok (.putfield 29, 3) := by decide +kernel
theorem dX10_init_48 : decode cX10_init 48 = .ok (.aload_n 0, 1) := by decide +kernel
theorem dX10_init_49 : decode cX10_init 49 = .ok (.new 33, 3) := by decide +kernel
theorem dX10_init_52 : decode cX10_init 52 = .ok (.dup, 1) := by decide +kernel
theorem dX10_init_53 : decode cX10_init 53 = .ok (.invokespecial 35, 3) := by decide +kernel
theorem dX10_init_56 : decode cX10_init 56 = .ok (.putfield 36, 3) := by decide +kernel
theorem dX10_init_59 : decode cX10_init 59 = .ok (.aload_n 0, 1) := by decide +kernel
theorem dX10_init_60 : decode cX10_init 60 = .ok (.new 40, 3) := by decide +kernel
theorem dX10_init_63 : decode cX10_init 63 = .ok (.dup, 1) := by decide +kernel
theorem dX10_init_64 : decode cX10_init 64 = .ok (.invokespecial 42, 3) := by decide +kernel
theorem dX10_init_67 : decode cX10_init 67 = .ok (.putfield 43, 3) := by decide +kernel
theorem dX10_init_70 : decode cX10_init 70 = .ok (.aload_n 0, 1) := by decide +kernel
theorem dX10_init_71 : decode cX10_init 71 = .ok (.new 47, 3) := by decide +kernel
theorem dX10_init_74 : decode cX10_init 74 = .ok (.dup, 1) := by decide +kernel
theorem dX10_init_75 : decode cX10_init 75 = .ok (.invokespecial 49, 3) := by decide +kernel
theorem dX10_init_78 : decode cX10_init 78 = .ok (.putfield 50, 3) := by decide +kernel
theorem dX10_init_81 : decode cX10_init 81 = .ok (.aload_n 0, 1) := by decide +kernel
theorem dX10_init_82 : decode cX10_init 82 = .ok (.new 54, 3) := by decide +kernel
theorem dX10_init_85 : decode cX10_init 85 = .ok (.dup, 1) := by decide +kernel
theorem dX10_init_86 : decode cX10_init 86 = .ok (.invokespecial 56, 3) := by decide +kernel
theorem dX10_init_89 : decode cX10_init 89 = .ok (.putfield 57, 3) := by decide +kernel
theorem dX10_init_92 : decode cX10_init 92 = .ok (.aload_n 0, 1) := by decide +kernel
theorem dX10_init_93 : decode cX10_init 93 = .ok (.new 61, 3) := by decide +kernel
theorem dX10_init_96 : decode cX10_init 96 = .ok (.dup, 1) := by decide +kernel
theorem dX10_init_97 : decode cX10_init 97 = .ok (.invokespecial 63, 3) := by decide +kernel
theorem dX10_init_100 : decode cX10_init 100 = .ok (.putfield 64, 3) := by decide +kernel
theorem dX10_init_103 : decode cX10_init 103 = .ok (.return_, 1) := by decide +kernel
theorem dX10_network_0 : decode cX10_network 0 = .ok (.iload_n 1, 1) := by decide +kernel
theorem dX10_network_1 : decode cX10_network 1 = .ok (.iconst 2, 1) := by decide +kernel
theorem dX10_network_2 : decode cX10_network 2 = .ok (.if_icmp .lt 9, 3) := by decide +kernel
theorem dX10_network_5 : decode cX10_network 5 = .ok (.iload_n 1, 1) := by decide +kernel
theorem dX10_network_6 : decode cX10_network 6 = .ok (.bipush 6, 2) := by decide +kernel
theorem dX10_network_8 : decode cX10_network 8 = .ok (.if_icmp .le 13, 3) := by decide +kernel
theorem dX10_network_11 : decode cX10_network 11 = .ok (.new 68, 3) := by decide +kernel
theorem dX10_network_14 : decode cX10_network 14 = .ok (.dup, 1) := by decide +kernel
theorem dX10_network_15 : decode cX10_network 15 = .ok (.ldc 70, 2) := by decide +kernel
theorem dX10_network_17 : decode cX10_network 17 = .ok (.invokespecial 72, 3) := by decide +kernel
theorem dX10_network_20 : decode cX10_network 20 = .ok (.athrow, 1) := by decide +kernel
theorem dX10_network_21 : decode cX10_network 21 = .ok (.aload_n 0, 1) := by decide +kernel
theorem dX10_network_22 : decode cX10_network 22 = .ok (.getfield 10, 3) := by decide +kernel
theorem dX10_network_25 : decode cX10_network 25 = .ok (.getfield 75, 3) := by decide +kernel
theorem dX10_network_28 : decode cX10_network 28 = .ok (.istore_n 2, 1) := by decide +kernel
theorem dX10_network_29 : decode cX10_network 29 = .ok (.aload_n 0, 1) := by decide +kernel
theorem dX10_network_30 : decode cX10_network 30 = .ok (.getfield 10, 3) := by decide +kernel
theorem dX10_network_33 : decode cX10_network 33 = .ok (.iload_n 1, 1) := by decide +kernel
theorem dX10_network_34 : decode cX10_network 34 = .ok (.invokevirtual 79, 3) := by decide +kernel
theorem dX10_network_37 : decode cX10_network 37 = .ok (.aload_n 0, 1) := by decide +kernel
theorem dX10_network_38 : decode cX10_network 38 = .ok (.getfield 64, 3) := by decide +kernel
theorem dX10_network_41 : decode cX10_network 41 = .ok (.invokevirtual 83, 3) := by decide +kernel
theorem dX10_network_44 : decode cX10_network 44 = .ok (.aload_n 0, 1) := by decide +kernel
theorem dX10_network_45 : decode cX10_network 45 = .ok (.invokevirtual 86, 3) := by decide +kernel
theorem dX10_network_48 : decode cX10_network 48 = .ok (.iload_n 2, 1) := by decide +kernel
theorem dX10_network_49 : decode cX10_network 49 = .ok (.ireturn, 1) := by decide +kernel
theorem dX10_add_0 : decode cX10_add 0 = .ok (.aload_n 0, 1) := by decide +kernel
theorem dX10_add_1 : decode cX10_add 1 = .ok (.iload_n 1, 1) := by decide +kernel
theorem dX10_add_2 : decode cX10_add 2 = .ok (.iload_n 2, 1) := by decide +kernel
theorem dX10_add_3 : decode cX10_add 3 = .ok (.invokevirtual 89, 3) := by decide +kernel
theorem dX10_add_6 : decode cX10_add 6 = .ok (.aload_n 0, 1) := by decide +kernel
theorem dX10_add_7 : decode cX10_add 7 = .ok (.iconst 1, 1) := by decide +kernel
theorem dX10_add_8 : decode cX10_add 8 = .ok (.invokevirtual 93, 3) := by decide +kernel
theorem dX10_add_11 : decode cX10_add 11 = .ok (.aload_n 0, 1) := by decide +kernel
theorem dX10_add_12 : decode cX10_add 12 = .ok (.getfield 10, 3) := by decide +kernel
theorem dX10_add_15 : decode cX10_add 15 = .ok (.iload_n 1, 1) := by decide +kernel
theorem dX10_add_16 : decode cX10_add 16 = .ok (.iload_n 2, 1) := by decide +kernel
theorem dX10_add_17 : decode cX10_add 17 = .ok (.invokevirtual 96, 3) := by decide +kernel
theorem dX10_add_20 : decode cX10_add 20 = .ok (.aload_n 0, 1) := by decide +kernel
theorem dX10_add_21 : decode cX10_add 21 = .ok (.invokevirtual 86, 3) := by decide +kernel
theorem dX10_add_24 : decode cX10_add 24 = .ok (.aload_n 0, 1) := by decide +kernel
theorem dX10_add_25 : decode cX10_add 25 = .ok (.getfield 10, 3) := by decide +kernel
theorem dX10_add_28 : decode cX10_add 28 = .ok (.getfield 75, 3) := by decide +kernel
theorem dX10_add_31 : decode cX10_add 31 = .ok (.iconst 1, 1) := by decide +kernel
theorem dX10_add_32 : decode cX10_add 32 = .ok (.isub, 1) := by decide +kernel
theorem dX10_add_33 : decode cX10_add 33 = .ok (.ireturn, 1) := by decide +kernel
theorem dX10_take_0 : decode cX10_take 0 = .ok (.aload_n 0, 1) := by decide +kernel
theorem dX10_take_1 : decode cX10_take 1 = .ok (.getfield 10, 3) := by decide +kernel
theorem dX10_take_4 : decode cX10_take 4 = .ok (.getfield 75, 3) := by decide +kernel
theorem dX10_take_7 : decode cX10_take 7 = .ok (.ifCond .ne 13, 3) := by decide +kernel
theorem dX10_take_10 : decode cX10_take 10 = .ok (.new 99, 3) := by decide +kernel
theorem dX10_take_13 : decode cX10_take 13 = .ok (.dup, 1) := by decide +kernel
theorem dX10_take_14 : decode cX10_take 14 = .ok (.ldc 101, 2) := by decide +kernel
theorem dX10_take_16 : decode cX10_take 16 = .ok (.invokespecial 103, 3) := by decide +kernel
theorem dX10_take_19 : decode cX10_take 19 = .ok (.athrow, 1) := by decide +kernel
theorem dX10_take_20 : decode cX10_take 20 = .ok (.aload_n 0, 1) := by decide +kernel
theorem dX10_take_21 : decode cX10_take 21 = .ok (.getfield 10, 3) := by decide +kernel
theorem dX10_take_24 : decode cX10_take 24 = .ok (.invokevirtual 104, 3) := by decide +kernel
theorem dX10_take_27 : decode cX10_take 27 = .ok (.aload_n 0, 1) := by decide +kernel
theorem dX10_take_28 : decode cX10_take 28 = .ok (.invokevirtual 86, 3) := by decide +kernel
theorem dX10_take_31 : decode cX10_take 31 = .ok (.aload_n 0, 1) := by decide +kernel
theorem dX10_take_32 : decode cX10_take 32 = .ok (.getfield 10, 3) := by decide +kernel
theorem dX10_take_35 : decode cX10_take 35 = .ok (.getfield 75, 3) := by decide +kernel
theorem dX10_take_38 : decode cX10_take 38 = .ok (.ireturn, 1) := by decide +kernel
theorem dX10_make_0 : decode cX10_make 0 = .ok (.iload_n 1, 1) := by decide +kernel
theorem dX10_make_1 : decode cX10_make 1 = .ok (.ifCond .lt 8, 3) := by decide +kernel
theorem dX10_make_4 : decode cX10_make 4 = .ok (.iload_n 1, 1) := by decide +kernel
theorem dX10_make_5 : decode cX10_make 5 = .ok (.iconst 2, 1) := by decide +kernel
theorem dX10_make_6 : decode cX10_make 6 = .ok (.if_icmp .le 13, 3) := by decide +kernel
theorem dX10_make_9 : decode cX10_make 9 = .ok (.new 68, 3) := by decide +kernel
theorem dX10_make_12 : decode cX10_make 12 = .ok (.dup, 1) := by decide +kernel
theorem dX10_make_13 : decode cX10_make 13 = .ok (.ldc 107, 2) := by decide +kernel
theorem dX10_make_15 : decode cX10_make 15 = .ok (.invokespecial 72, 3) := by decide +kernel
theorem dX10_make_18 : decode cX10_make 18 = .ok (.athrow, 1) := by decide +kernel
theorem dX10_make_19 : decode cX10_make 19 = .ok (.aload_n 0, 1) := by decide +kernel
theorem dX10_make_20 : decode cX10_make 20 = .ok (.getfield 16, 3) := by decide +kernel
theorem dX10_make_23 : decode cX10_make 23 = .ok (.aload_n 0, 1) := by decide +kernel
theorem dX10_make_24 : decode cX10_make 24 = .ok (.getfield 10, 3) := by decide +kernel
theorem dX10_make_27 : decode cX10_make 27 = .ok (.getfield 109, 3) := by decide +kernel
theorem dX10_make_30 : decode cX10_make 30 = .ok (.invokevirtual 79, 3) := by decide +kernel
theorem dX10_make_33 : decode cX10_make 33 = .ok (.iload_n 1, 1) := by decide +kernel
theorem dX10_make_34 : decode cX10_make 34 = .ok (.lookupswitch 46 #[(0, 26), (1, 36)], 26) := by decide +kernel
theorem dX10_make_60 : decode cX10_make 60 = .ok (.aload_n 0, 1) := by decide +kernel
theorem dX10_make_61 : decode cX10_make 61 = .ok (.getfield 16, 3) := by decide +kernel
theorem dX10_make_64 : decode cX10_make 64 = .ok (.invokevirtual 112, 3) := by decide +kernel
theorem dX10_make_67 : decode cX10_make 67 = .ok (.goto 20, 3) := by decide +kernel
theorem dX10_make_70 : decode cX10_make 70 = .ok (.aload_n 0, 1) := by decide +kernel
theorem dX10_make_71 : decode cX10_make 71 = .ok (.getfield 16, 3) := by decide +kernel
theorem dX10_make_74 : decode cX10_make 74 = .ok (.invokevirtual 115, 3) := by decide +kernel
theorem dX10_make_77 : decode cX10_make 77 = .ok (.goto 10, 3) := by decide +kernel
theorem dX10_make_80 : decode cX10_make 80 = .ok (.aload_n 0, 1) := by decide +kernel
theorem dX10_make_81 : decode cX10_make 81 = .ok (.getfield 16, 3) := by decide +kernel
theorem dX10_make_84 : decode cX10_make 84 = .ok (.invokevirtual 118, 3) := by decide +kernel
theorem dX10_make_87 : decode cX10_make 87 = .ok (.aload_n 0, 1) := by decide +kernel
theorem dX10_make_88 : decode cX10_make 88 = .ok (.invokevirtual 121, 3) := by decide +kernel
theorem dX10_make_91 : decode cX10_make 91 = .ok (.ireturn, 1) := by decide +kernel
theorem dX10_mirror_0 : decode cX10_mirror 0 = .ok (.aload_n 0, 1) := by decide +kernel
theorem dX10_mirror_1 : decode cX10_mirror 1 = .ok (.getfield 10, 3) := by decide +kernel
theorem dX10_mirror_4 : decode cX10_mirror 4 = .ok (.invokevirtual 125, 3) := by decide +kernel
theorem dX10_mirror_7 : decode cX10_mirror 7 = .ok (.aload_n 0, 1) := by decide +kernel
theorem dX10_mirror_8 : decode cX10_mirror 8 = .ok (.invokevirtual 86, 3) := by decide +kernel
theorem dX10_mirror_11 : decode cX10_mirror 11 = .ok (.return_, 1) := by decide +kernel
theorem dX10_untangle_0 : decode cX10_untangle 0 = .ok (.aload_n 0, 1) := by decide +kernel
theorem dX10_untangle_1 : decode cX10_untangle 1 = .ok (.getfield 10, 3) := by decide +kernel
theorem dX10_untangle_4 : decode cX10_untangle 4 = .ok (.invokevirtual 128, 3) := by decide +kernel
theorem dX10_untangle_7 : decode cX10_untangle 7 = .ok (.istore_n 1, 1) := by decide +kernel
theorem dX10_untangle_8 : decode cX10_untangle 8 = .ok (.aload_n 0, 1) := by decide +kernel
theorem dX10_untangle_9 : decode cX10_untangle 9 = .ok (.invokevirtual 86, 3) := by decide +kernel
theorem dX10_untangle_12 : decode cX10_untangle 12 = .ok (.iload_n 1, 1) := by decide +kernel
theorem dX10_untangle_13 : decode cX10_untangle 13 = .ok (.ireturn, 1) := by decide +kernel
theorem dX10_prune_0 : decode cX10_prune 0 = .ok (.aload_n 0, 1) := by decide +kernel
theorem dX10_prune_1 : decode cX10_prune 1 = .ok (.getfield 29, 3) := by decide +kernel
theorem dX10_prune_4 : decode cX10_prune 4 = .ok (.aload_n 0, 1) := by decide +kernel
theorem dX10_prune_5 : decode cX10_prune 5 = .ok (.getfield 10, 3) := by decide +kernel
theorem dX10_prune_8 : decode cX10_prune 8 = .ok (.invokevirtual 131, 3) := by decide +kernel
theorem dX10_prune_11 : decode cX10_prune 11 = .ok (.istore_n 1, 1) := by decide +kernel
theorem dX10_prune_12 : decode cX10_prune 12 = .ok (.aload_n 0, 1) := by decide +kernel
theorem dX10_prune_13 : decode cX10_prune 13 = .ok (.invokevirtual 86, 3) := by decide +kernel
theorem dX10_prune_16 : decode cX10_prune 16 = .ok (.iload_n 1, 1) := by decide +kernel
theorem dX10_prune_17 : decode cX10_prune 17 = .ok (.ireturn, 1) := by decide +kernel
theorem dX10_told_0 : decode cX10_told 0 = .ok (.iload_n 1, 1) := by decide +kernel
theorem dX10_told_1 : decode cX10_told 1 = .ok (.tableswitch 91 0 5 #[39, 47, 55, 63, 75, 83], 39) := by decide +kernel
theorem dX10_told_40 : decode cX10_told 40 = .ok (.aload_n 0, 1) := by decide +kernel
theorem dX10_told_41 : decode cX10_told 41 = .ok (.getfield 10, 3) := by decide +kernel
theorem dX10_told_44 : decode cX10_told 44 = .ok (.getfield 109, 3) := by decide +kernel
theorem dX10_told_47 : decode cX10_told 47 = .ok (.ireturn, 1) := by decide +kernel
theorem dX10_told_48 : decode cX10_told 48 = .ok (.aload_n 0, 1) := by decide +kernel
theorem dX10_told_49 : decode cX10_told 49 = .ok (.getfield 10, 3) := by decide +kernel
theorem dX10_told_52 : decode cX10_told 52 = .ok (.getfield 75, 3) := by decide +kernel
theorem dX10_told_55 : decode cX10_told 55 = .ok (.ireturn, 1) := by decide +kernel
theorem dX10_told_56 : decode cX10_told 56 = .ok (.aload_n 0, 1) := by decide +kernel
theorem dX10_told_57 : decode cX10_told 57 = .ok (.getfield 10, 3) := by decide +kernel
theorem dX10_told_60 : decode cX10_told 60 = .ok (.invokevirtual 135, 3) := by decide +kernel
theorem dX10_told_63 : decode cX10_told 63 = .ok (.ireturn, 1) := by decide +kernel
theorem dX10_told_64 : decode cX10_told 64 = .ok (.aload_n 0, 1) := by decide +kernel
theorem dX10_told_65 : decode cX10_told 65 = .ok (.getfield 29, 3) := by decide +kernel
theorem dX10_told_68 : decode cX10_told 68 = .ok (.aload_n 0, 1) := by decide +kernel
theorem dX10_told_69 : decode cX10_told 69 = .ok (.getfield 10, 3) := by decide +kernel
theorem dX10_told_72 : decode cX10_told 72 = .ok (.invokevirtual 138, 3) := by decide +kernel
theorem dX10_told_75 : decode cX10_told 75 = .ok (.ireturn, 1) := by decide +kernel
theorem dX10_told_76 : decode cX10_told 76 = .ok (.aload_n 0, 1) := by decide +kernel
theorem dX10_told_77 : decode cX10_told 77 = .ok (.getfield 10, 3) := by decide +kernel
theorem dX10_told_80 : decode cX10_told 80 = .ok (.invokevirtual 141, 3) := by decide +kernel
theorem dX10_told_83 : decode cX10_told 83 = .ok (.ireturn, 1) := by decide +kernel
theorem dX10_told_84 : decode cX10_told 84 = .ok (.aload_n 0, 1) := by decide +kernel
theorem dX10_told_85 : decode cX10_told 85 = .ok (.getfield 10, 3) := by decide +kernel
theorem dX10_told_88 : decode cX10_told 88 = .ok (.invokevirtual 144, 3) := by decide +kernel
theorem dX10_told_91 : decode cX10_told 91 = .ok (.ireturn, 1) := by decide +kernel
theorem dX10_told_92 : decode cX10_told 92 = .ok (.new 68, 3) := by decide +kernel
theorem dX10_told_95 : decode cX10_told 95 = .ok (.dup, 1) := by decide +kernel
theorem dX10_told_96 : decode cX10_told 96 = .ok (.ldc 147, 2) := by decide +kernel
theorem dX10_told_98 : decode cX10_told 98 = .ok (.invokespecial 72, 3) := by decide +kernel
theorem dX10_told_101 : decode cX10_told 101 = .ok (.athrow, 1) := by decide +kernel
theorem dX10_comparator_0 : decode cX10_comparator 0 = .ok (.aload_n 0, 1) := by decide +kernel
theorem dX10_comparator_1 : decode cX10_comparator 1 = .ok (.iload_n 1, 1) := by decide +kernel
theorem dX10_comparator_2 : decode cX10_comparator 2 = .ok (.invokevirtual 149, 3) := by decide +kernel
theorem dX10_comparator_5 : decode cX10_comparator 5 = .ok (.iload_n 2, 1) := by decide +kernel
theorem dX10_comparator_6 : decode cX10_comparator 6 = .ok (.tableswitch 75 0 3 #[30, 40, 50, 59], 30) := by decide +kernel
theorem dX10_comparator_36 : decode cX10_comparator 36 = .ok (.aload_n 0, 1) := by decide +kernel
theorem dX10_comparator_37 : decode cX10_comparator 37 = .ok (.getfield 10, 3) := by decide +kernel
theorem dX10_comparator_40 : decode cX10_comparator 40 = .ok (.getfield 152, 3) := by decide +kernel
theorem dX10_comparator_43 : decode cX10_comparator 43 = .ok (.iload_n 1, 1) := by decide +kernel
theorem dX10_comparator_44 : decode cX10_comparator 44 = .ok (.iaload, 1) := by decide +kernel
theorem dX10_comparator_45 : decode cX10_comparator 45 = .ok (.ireturn, 1) := by decide +kernel
theorem dX10_comparator_46 : decode cX10_comparator 46 = .ok (.aload_n 0, 1) := by decide +kernel
theorem dX10_comparator_47 : decode cX10_comparator 47 = .ok (.getfield 10, 3) := by decide +kernel
theorem dX10_comparator_50 : decode cX10_comparator 50 = .ok (.getfield 156, 3) := by decide +kernel
theorem dX10_comparator_53 : decode cX10_comparator 53 = .ok (.iload_n 1, 1) := by decide +kernel
theorem dX10_comparator_54 : decode cX10_comparator 54 = .ok (.iaload, 1) := by decide +kernel
theorem dX10_comparator_55 : decode cX10_comparator 55 = .ok (.ireturn, 1) := by decide +kernel
theorem dX10_comparator_56 : decode cX10_comparator 56 = .ok (.aload_n 0, 1) := by decide +kernel
theorem dX10_comparator_57 : decode cX10_comparator 57 = .ok (.getfield 10, 3) := by decide +kernel
theorem dX10_comparator_60 : decode cX10_comparator 60 = .ok (.iload_n 1, 1) := by decide +kernel
theorem dX10_comparator_61 : decode cX10_comparator 61 = .ok (.invokevirtual 159, 3) := by decide +kernel
theorem dX10_comparator_64 : decode cX10_comparator 64 = .ok (.ireturn, 1) := by decide +kernel
theorem dX10_comparator_65 : decode cX10_comparator 65 = .ok (.aload_n 0, 1) := by decide +kernel
theorem dX10_comparator_66 : decode cX10_comparator 66 = .ok (.getfield 29, 3) := by decide +kernel
theorem dX10_comparator_69 : decode cX10_comparator 69 = .ok (.aload_n 0, 1) := by decide +kernel
theorem dX10_comparator_70 : decode cX10_comparator 70 = .ok (.getfield 10, 3) := by decide +kernel
theorem dX10_comparator_73 : decode cX10_comparator 73 = .ok (.iload_n 1, 1) := by decide +kernel
theorem dX10_comparator_74 : decode cX10_comparator 74 = .ok (.invokevirtual 163, 3) := by decide +kernel
theorem dX10_comparator_77 : decode cX10_comparator 77 = .ok (.invokestatic 167, 3) := by decide +kernel
theorem dX10_comparator_80 : decode cX10_comparator 80 = .ok (.ireturn, 1) := by decide +kernel
theorem dX10_comparator_81 : decode cX10_comparator 81 = .ok (.new 68, 3) := by decide +kernel
theorem dX10_comparator_84 : decode cX10_comparator 84 = .ok (.dup, 1) := by decide +kernel
theorem dX10_comparator_85 : decode cX10_comparator 85 = .ok (.ldc 173, 2) := by decide +kernel
theorem dX10_comparator_87 : decode cX10_comparator 87 = .ok (.invokespecial 72, 3) := by decide +kernel
theorem dX10_comparator_90 : decode cX10_comparator 90 = .ok (.athrow, 1) := by decide +kernel
theorem dX10_textAt_0 : decode cX10_textAt 0 = .ok (.iload_n 1, 1) := by decide +kernel
theorem dX10_textAt_1 : decode cX10_textAt 1 = .ok (.invokestatic 175, 3) := by decide +kernel
theorem dX10_textAt_4 : decode cX10_textAt 4 = .ok (.aload_n 0, 1) := by decide +kernel
theorem dX10_textAt_5 : decode cX10_textAt 5 = .ok (.getfield 10, 3) := by decide +kernel
theorem dX10_textAt_8 : decode cX10_textAt 8 = .ok (.iload_n 1, 1) := by decide +kernel
theorem dX10_textAt_9 : decode cX10_textAt 9 = .ok (.invokevirtual 178, 3) := by decide +kernel
theorem dX10_textAt_12 : decode cX10_textAt 12 = .ok (.ireturn, 1) := by decide +kernel
theorem dX10_type_0 : decode cX10_type 0 = .ok (.iload_n 3, 1) := by decide +kernel
theorem dX10_type_1 : decode cX10_type 1 = .ok (.iconst 1, 1) := by decide +kernel
theorem dX10_type_2 : decode cX10_type 2 = .ok (.if_icmp .lt 9, 3) := by decide +kernel
theorem dX10_type_5 : decode cX10_type 5 = .ok (.iload_n 3, 1) := by decide +kernel
theorem dX10_type_6 : decode cX10_type 6 = .ok (.bipush 8, 2) := by decide +kernel
theorem dX10_type_8 : decode cX10_type 8 = .ok (.if_icmp .le 13, 3) := by decide +kernel
theorem dX10_type_11 : decode cX10_type 11 = .ok (.new 68, 3) := by decide +kernel
theorem dX10_type_14 : decode cX10_type 14 = .ok (.dup, 1) := by decide +kernel
theorem dX10_type_15 : decode cX10_type 15 = .ok (.ldc 182, 2) := by decide +kernel
theorem dX10_type_17 : decode cX10_type 17 = .ok (.invokespecial 72, 3) := by decide +kernel
theorem dX10_type_20 : decode cX10_type 20 = .ok (.athrow, 1) := by decide +kernel
theorem dX10_type_21 : decode cX10_type 21 = .ok (.iconst 0, 1) := by decide +kernel
theorem dX10_type_22 : decode cX10_type 22 = .ok (.istore 4, 2) := by decide +kernel
theorem dX10_type_24 : decode cX10_type 24 = .ok (.iload 4, 2) := by decide +kernel
theorem dX10_type_26 : decode cX10_type 26 = .ok (.iload_n 3, 1) := by decide +kernel
theorem dX10_type_27 : decode cX10_type 27 = .ok (.if_icmp .ge 31, 3) := by decide +kernel
theorem dX10_type_30 : decode cX10_type 30 = .ok (.lload_n 1, 1) := by decide +kernel
theorem dX10_type_31 : decode cX10_type 31 = .ok (.iload 4, 2) := by decide +kernel
theorem dX10_type_33 : decode cX10_type 33 = .ok (.invokestatic 184, 3) := by decide +kernel
theorem dX10_type_36 : decode cX10_type 36 = .ok (.invokestatic 188, 3) := by decide +kernel
theorem dX10_type_39 : decode cX10_type 39 = .ok (.ifCond .ne 13, 3) := by decide +kernel
theorem dX10_type_42 : decode cX10_type 42 = .ok (.new 68, 3) := by decide +kernel
theorem dX10_type_45 : decode cX10_type 45 = .ok (.dup, 1) := by decide +kernel
theorem dX10_type_46 : decode cX10_type 46 = .ok (.ldc 192, 2) := by decide +kernel
theorem dX10_type_48 : decode cX10_type 48 = .ok (.invokespecial 72, 3) := by decide +kernel
theorem dX10_type_51 : decode cX10_type 51 = .ok (.athrow, 1) := by decide +kernel
theorem dX10_type_52 : decode cX10_type 52 = .ok (.iinc 4 1, 3) := by decide +kernel
theorem dX10_type_55 : decode cX10_type 55 = .ok (.goto (-31), 3) := by decide +kernel
theorem dX10_type_58 : decode cX10_type 58 = .ok (.aload_n 0, 1) := by decide +kernel
theorem dX10_type_59 : decode cX10_type 59 = .ok (.getfield 22, 3) := by decide +kernel
theorem dX10_type_62 : decode cX10_type 62 = .ok (.getfield 194, 3) := by decide +kernel
theorem dX10_type_65 : decode cX10_type 65 = .ok (.bipush 40, 2) := by decide +kernel
theorem dX10_type_67 : decode cX10_type 67 = .ok (.iload_n 3, 1) := by decide +kernel
theorem dX10_type_68 : decode cX10_type 68 = .ok (.isub, 1) := by decide +kernel
theorem dX10_type_69 : decode cX10_type 69 = .ok (.if_icmp .le 13, 3) := by decide +kernel
theorem dX10_type_72 : decode cX10_type 72 = .ok (.new 99, 3) := by decide +kernel
theorem dX10_type_75 : decode cX10_type 75 = .ok (.dup, 1) := by decide +kernel
theorem dX10_type_76 : decode cX10_type 76 = .ok (.ldc 197, 2) := by decide +kernel
theorem dX10_type_78 : decode cX10_type 78 = .ok (.invokespecial 103, 3) := by decide +kernel
theorem dX10_type_81 : decode cX10_type 81 = .ok (.athrow, 1) := by decide +kernel
theorem dX10_type_82 : decode cX10_type 82 = .ok (.iconst 0, 1) := by decide +kernel
theorem dX10_type_83 : decode cX10_type 83 = .ok (.istore 4, 2) := by decide +kernel
theorem dX10_type_85 : decode cX10_type 85 = .ok (.iload 4, 2) := by decide +kernel
theorem dX10_type_87 : decode cX10_type 87 = .ok (.iload_n 3, 1) := by decide +kernel
theorem dX10_type_88 : decode cX10_type 88 = .ok (.if_icmp .ge 22, 3) := by decide +kernel
theorem dX10_type_91 : decode cX10_type 91 = .ok (.aload_n 0, 1) := by decide +kernel
theorem dX10_type_92 : decode cX10_type 92 = .ok (.getfield 22, 3) := by decide +kernel
theorem dX10_type_95 : decode cX10_type 95 = .ok (.lload_n 1, 1) := by decide +kernel
theorem dX10_type_96 : decode cX10_type 96 = .ok (.iload 4, 2) := by decide +kernel
theorem dX10_type_98 : decode cX10_type 98 = .ok (.invokestatic 184, 3) := by decide +kernel
theorem dX10_type_101 : decode cX10_type 101 = .ok (.invokevirtual 199, 3) := by decide +kernel
theorem dX10_type_104 : decode cX10_type 104 = .ok (.iinc 4 1, 3) := by decide +kernel
theorem dX10_type_107 : decode cX10_type 107 = .ok (.goto (-22), 3) := by decide +kernel
theorem dX10_type_110 : decode cX10_type 110 = .ok (.aload_n 0, 1) := by decide +kernel
theorem dX10_type_111 : decode cX10_type 111 = .ok (.getfield 22, 3) := by decide +kernel
theorem dX10_type_114 : decode cX10_type 114 = .ok (.getfield 194, 3) := by decide +kernel
theorem dX10_type_117 : decode cX10_type 117 = .ok (.ireturn, 1) := by decide +kernel
theorem dX10_wipe_0 : decode cX10_wipe 0 = .ok (.aload_n 0, 1) := by decide +kernel
theorem dX10_wipe_1 : decode cX10_wipe 1 = .ok (.getfield 22, 3) := by decide +kernel
theorem dX10_wipe_4 : decode cX10_wipe 4 = .ok (.getfield 194, 3) := by decide +kernel
theorem dX10_wipe_7 : decode cX10_wipe 7 = .ok (.istore_n 1, 1) := by decide +kernel
theorem dX10_wipe_8 : decode cX10_wipe 8 = .ok (.aload_n 0, 1) := by decide +kernel
theorem dX10_wipe_9 : decode cX10_wipe 9 = .ok (.getfield 22, 3) := by decide +kernel
theorem dX10_wipe_12 : decode cX10_wipe 12 = .ok (.invokevirtual 203, 3) := by decide +kernel
theorem dX10_wipe_15 : decode cX10_wipe 15 = .ok (.iload_n 1, 1) := by decide +kernel
theorem dX10_wipe_16 : decode cX10_wipe 16 = .ok (.ireturn, 1) := by decide +kernel
theorem dX10_fault_0 : decode cX10_fault 0 = .ok (.aload_n 0, 1) := by decide +kernel
theorem dX10_fault_1 : decode cX10_fault 1 = .ok (.getfield 22, 3) := by decide +kernel
theorem dX10_fault_4 : decode cX10_fault 4 = .ok (.aload_n 0, 1) := by decide +kernel
theorem dX10_fault_5 : decode cX10_fault 5 = .ok (.getfield 10, 3) := by decide +kernel
theorem dX10_fault_8 : decode cX10_fault 8 = .ok (.getfield 109, 3) := by decide +kernel
theorem dX10_fault_11 : decode cX10_fault 11 = .ok (.invokevirtual 206, 3) := by decide +kernel
theorem dX10_fault_14 : decode cX10_fault 14 = .ok (.ireturn, 1) := by decide +kernel
theorem dX10_build_0 : decode cX10_build 0 = .ok (.aload_n 0, 1) := by decide +kernel
theorem dX10_build_1 : decode cX10_build 1 = .ok (.getfield 22, 3) := by decide +kernel
theorem dX10_build_4 : decode cX10_build 4 = .ok (.aload_n 0, 1) := by decide +kernel
theorem dX10_build_5 : decode cX10_build 5 = .ok (.getfield 10, 3) := by decide +kernel
theorem dX10_build_8 : decode cX10_build 8 = .ok (.getfield 109, 3) := by decide +kernel
theorem dX10_build_11 : decode cX10_build 11 = .ok (.invokevirtual 206, 3) := by decide +kernel
theorem dX10_build_14 : decode cX10_build 14 = .ok (.iconst (-1), 1) := by decide +kernel
theorem dX10_build_15 : decode cX10_build 15 = .ok (.if_icmp .eq 13, 3) := by decide +kernel
theorem dX10_build_18 : decode cX10_build 18 = .ok (.new 68, 3) := by decide +kernel
theorem dX10_build_21 : decode cX10_build 21 = .ok (.dup, 1) := by decide +kernel
theorem dX10_build_22 : decode cX10_build 22 = .ok (.ldc 209, 2) := by decide +kernel
theorem dX10_build_24 : decode cX10_build 24 = .ok (.invokespecial 72, 3) := by decide +kernel
theorem dX10_build_27 : decode cX10_build 27 = .ok (.athrow, 1) := by decide +kernel
theorem dX10_build_28 : decode cX10_build 28 = .ok (.aload_n 0, 1) := by decide +kernel
theorem dX10_build_29 : decode cX10_build 29 = .ok (.getfield 16, 3) := by decide +kernel
theorem dX10_build_32 : decode cX10_build 32 = .ok (.aload_n 0, 1) := by decide +kernel
theorem dX10_build_33 : decode cX10_build 33 = .ok (.getfield 10, 3) := by decide +kernel
theorem dX10_build_36 : decode cX10_build 36 = .ok (.getfield 109, 3) := by decide +kernel
theorem dX10_build_39 : decode cX10_build 39 = .ok (.invokevirtual 79, 3) := by decide +kernel
theorem dX10_build_42 : decode cX10_build 42 = .ok (.aload_n 0, 1) := by decide +kernel
theorem dX10_build_43 : decode cX10_build 43 = .ok (.getfield 22, 3) := by decide +kernel
theorem dX10_build_46 : decode cX10_build 46 = .ok (.aload_n 0, 1) := by decide +kernel
theorem dX10_build_47 : decode cX10_build 47 = .ok (.getfield 16, 3) := by decide +kernel
theorem dX10_build_50 : decode cX10_build 50 = .ok (.invokevirtual 211, 3) := by decide +kernel
theorem dX10_build_53 : decode cX10_build 53 = .ok (.aload_n 0, 1) := by decide +kernel
theorem dX10_build_54 : decode cX10_build 54 = .ok (.invokevirtual 121, 3) := by decide +kernel
theorem dX10_build_57 : decode cX10_build 57 = .ok (.istore_n 1, 1) := by decide +kernel
theorem dX10_build_58 : decode cX10_build 58 = .ok (.aload_n 0, 1) := by decide +kernel
theorem dX10_build_59 : decode cX10_build 59 = .ok (.getfield 22, 3) := by decide +kernel
theorem dX10_build_62 : decode cX10_build 62 = .ok (.invokevirtual 203, 3) := by decide +kernel
theorem dX10_build_65 : decode cX10_build 65 = .ok (.iload_n 1, 1) := by decide +kernel
theorem dX10_build_66 : decode cX10_build 66 = .ok (.ireturn, 1) := by decide +kernel
theorem dX10_run_0 : decode cX10_run 0 = .ok (.aload_n 0, 1) := by decide +kernel
theorem dX10_run_1 : decode cX10_run 1 = .ok (.iload_n 1, 1) := by decide +kernel
theorem dX10_run_2 : decode cX10_run 2 = .ok (.invokevirtual 215, 3) := by decide +kernel
theorem dX10_run_5 : decode cX10_run 5 = .ok (.istore_n 2, 1) := by decide +kernel
theorem dX10_run_6 : decode cX10_run 6 = .ok (.aload_n 0, 1) := by decide +kernel
theorem dX10_run_7 : decode cX10_run 7 = .ok (.getfield 10, 3) := by decide +kernel
theorem dX10_run_10 : decode cX10_run 10 = .ok (.iload_n 2, 1) := by decide +kernel
theorem dX10_run_11 : decode cX10_run 11 = .ok (.invokevirtual 218, 3) := by decide +kernel
theorem dX10_run_14 : decode cX10_run 14 = .ok (.aload_n 0, 1) := by decide +kernel
theorem dX10_run_15 : decode cX10_run 15 = .ok (.getfield 10, 3) := by decide +kernel
theorem dX10_run_18 : decode cX10_run 18 = .ok (.getfield 109, 3) := by decide +kernel
theorem dX10_run_21 : decode cX10_run 21 = .ok (.invokestatic 221, 3) := by decide +kernel
theorem dX10_run_24 : decode cX10_run 24 = .ok (.ireturn, 1) := by decide +kernel
theorem dX10_outputs_0 : decode cX10_outputs 0 = .ok (.aload_n 0, 1) := by decide +kernel
theorem dX10_outputs_1 : decode cX10_outputs 1 = .ok (.getfield 29, 3) := by decide +kernel
theorem dX10_outputs_4 : decode cX10_outputs 4 = .ok (.aload_n 0, 1) := by decide +kernel
theorem dX10_outputs_5 : decode cX10_outputs 5 = .ok (.getfield 10, 3) := by decide +kernel
theorem dX10_outputs_8 : decode cX10_outputs 8 = .ok (.invokevirtual 227, 3) := by decide +kernel
theorem dX10_outputs_11 : decode cX10_outputs 11 = .ok (.lreturn, 1) := by decide +kernel
theorem dX10_sorts_0 : decode cX10_sorts 0 = .ok (.aload_n 0, 1) := by decide +kernel
theorem dX10_sorts_1 : decode cX10_sorts 1 = .ok (.getfield 29, 3) := by decide +kernel
theorem dX10_sorts_4 : decode cX10_sorts 4 = .ok (.aload_n 0, 1) := by decide +kernel
theorem dX10_sorts_5 : decode cX10_sorts 5 = .ok (.getfield 10, 3) := by decide +kernel
theorem dX10_sorts_8 : decode cX10_sorts 8 = .ok (.invokevirtual 231, 3) := by decide +kernel
theorem dX10_sorts_11 : decode cX10_sorts 11 = .ok (.lconst 0, 1) := by decide +kernel
theorem dX10_sorts_12 : decode cX10_sorts 12 = .ok (.lcmp, 1) := by decide +kernel
theorem dX10_sorts_13 : decode cX10_sorts 13 = .ok (.ifCond .ne 7, 3) := by decide +kernel
theorem dX10_sorts_16 : decode cX10_sorts 16 = .ok (.iconst 1, 1) := by decide +kernel
theorem dX10_sorts_17 : decode cX10_sorts 17 = .ok (.goto 4, 3) := by decide +kernel
theorem dX10_sorts_20 : decode cX10_sorts 20 = .ok (.iconst 0, 1) := by decide +kernel
theorem dX10_sorts_21 : decode cX10_sorts 21 = .ok (.ireturn, 1) := by decide +kernel
theorem dX10_sorted_0 : decode cX10_sorted 0 = .ok (.aload_n 0, 1) := by decide +kernel
theorem dX10_sorted_1 : decode cX10_sorted 1 = .ok (.getfield 29, 3) := by decide +kernel
theorem dX10_sorted_4 : decode cX10_sorted 4 = .ok (.aload_n 0, 1) := by decide +kernel
theorem dX10_sorted_5 : decode cX10_sorted 5 = .ok (.getfield 10, 3) := by decide +kernel
theorem dX10_sorted_8 : decode cX10_sorted 8 = .ok (.invokevirtual 234, 3) := by decide +kernel
theorem dX10_sorted_11 : decode cX10_sorted 11 = .ok (.ireturn, 1) := by decide +kernel
theorem dX10_wrong_0 : decode cX10_wrong 0 = .ok (.iload_n 1, 1) := by decide +kernel
theorem dX10_wrong_1 : decode cX10_wrong 1 = .ok (.invokestatic 175, 3) := by decide +kernel
theorem dX10_wrong_4 : decode cX10_wrong 4 = .ok (.aload_n 0, 1) := by decide +kernel
theorem dX10_wrong_5 : decode cX10_wrong 5 = .ok (.getfield 29, 3) := by decide +kernel
theorem dX10_wrong_8 : decode cX10_wrong 8 = .ok (.aload_n 0, 1) := by decide +kernel
theorem dX10_wrong_9 : decode cX10_wrong 9 = .ok (.getfield 10, 3) := by decide +kernel
theorem dX10_wrong_12 : decode cX10_wrong 12 = .ok (.invokevirtual 231, 3) := by decide +kernel
theorem dX10_wrong_15 : decode cX10_wrong 15 = .ok (.iload_n 1, 1) := by decide +kernel
theorem dX10_wrong_16 : decode cX10_wrong 16 = .ok (.invokestatic 237, 3) := by decide +kernel
theorem dX10_wrong_19 : decode cX10_wrong 19 = .ok (.ireturn, 1) := by decide +kernel
theorem dX10_finishes_0 : decode cX10_finishes 0 = .ok (.iload_n 1, 1) := by decide +kernel
theorem dX10_finishes_1 : decode cX10_finishes 1 = .ok (.ifCond .lt 8, 3) := by decide +kernel
theorem dX10_finishes_4 : decode cX10_finishes 4 = .ok (.iload_n 1, 1) := by decide +kernel
theorem dX10_finishes_5 : decode cX10_finishes 5 = .ok (.iconst 3, 1) := by decide +kernel
theorem dX10_finishes_6 : decode cX10_finishes 6 = .ok (.if_icmp .le 13, 3) := by decide +kernel
theorem dX10_finishes_9 : decode cX10_finishes 9 = .ok (.new 68, 3) := by decide +kernel
theorem dX10_finishes_12 : decode cX10_finishes 12 = .ok (.dup, 1) := by decide +kernel
theorem dX10_finishes_13 : decode cX10_finishes 13 = .ok (.ldc 241, 2) := by decide +kernel
theorem dX10_finishes_15 : decode cX10_finishes 15 = .ok (.invokespecial 72, 3) := by decide +kernel
theorem dX10_finishes_18 : decode cX10_finishes 18 = .ok (.athrow, 1) := by decide +kernel
theorem dX10_finishes_19 : decode cX10_finishes 19 = .ok (.aload_n 0, 1) := by decide +kernel
theorem dX10_finishes_20 : decode cX10_finishes 20 = .ok (.getfield 29, 3) := by decide +kernel
theorem dX10_finishes_23 : decode cX10_finishes 23 = .ok (.aload_n 0, 1) := by decide +kernel
theorem dX10_finishes_24 : decode cX10_finishes 24 = .ok (.getfield 10, 3) := by decide +kernel
theorem dX10_finishes_27 : decode cX10_finishes 27 = .ok (.iload_n 1, 1) := by decide +kernel
theorem dX10_finishes_28 : decode cX10_finishes 28 = .ok (.invokevirtual 243, 3) := by decide +kernel
theorem dX10_finishes_31 : decode cX10_finishes 31 = .ok (.ireturn, 1) := by decide +kernel
theorem dX10_merges_0 : decode cX10_merges 0 = .ok (.iload_n 1, 1) := by decide +kernel
theorem dX10_merges_1 : decode cX10_merges 1 = .ok (.iconst 1, 1) := by decide +kernel
theorem dX10_merges_2 : decode cX10_merges 2 = .ok (.if_icmp .lt 14, 3) := by decide +kernel
theorem dX10_merges_5 : decode cX10_merges 5 = .ok (.iload_n 1, 1) := by decide +kernel
theorem dX10_merges_6 : decode cX10_merges 6 = .ok (.aload_n 0, 1) := by decide +kernel
theorem dX10_merges_7 : decode cX10_merges 7 = .ok (.getfield 10, 3) := by decide +kernel
theorem dX10_merges_10 : decode cX10_merges 10 = .ok (.getfield 109, 3) := by decide +kernel
theorem dX10_merges_13 : decode cX10_merges 13 = .ok (.if_icmp .lt 13, 3) := by decide +kernel
theorem dX10_merges_16 : decode cX10_merges 16 = .ok (.new 247, 3) := by decide +kernel
theorem dX10_merges_19 : decode cX10_merges 19 = .ok (.dup, 1) := by decide +kernel
theorem dX10_merges_20 : decode cX10_merges 20 = .ok (.ldc 249, 2) := by decide +kernel
theorem dX10_merges_22 : decode cX10_merges 22 = .ok (.invokespecial 251, 3) := by decide +kernel
theorem dX10_merges_25 : decode cX10_merges 25 = .ok (.athrow, 1) := by decide +kernel
theorem dX10_merges_26 : decode cX10_merges 26 = .ok (.aload_n 0, 1) := by decide +kernel
theorem dX10_merges_27 : decode cX10_merges 27 = .ok (.getfield 29, 3) := by decide +kernel
theorem dX10_merges_30 : decode cX10_merges 30 = .ok (.aload_n 0, 1) := by decide +kernel
theorem dX10_merges_31 : decode cX10_merges 31 = .ok (.getfield 10, 3) := by decide +kernel
theorem dX10_merges_34 : decode cX10_merges 34 = .ok (.iload_n 1, 1) := by decide +kernel
theorem dX10_merges_35 : decode cX10_merges 35 = .ok (.invokevirtual 252, 3) := by decide +kernel
theorem dX10_merges_38 : decode cX10_merges 38 = .ok (.ireturn, 1) := by decide +kernel
theorem dX10_chooses_0 : decode cX10_chooses 0 = .ok (.iload_n 1, 1) := by decide +kernel
theorem dX10_chooses_1 : decode cX10_chooses 1 = .ok (.iconst 1, 1) := by decide +kernel
theorem dX10_chooses_2 : decode cX10_chooses 2 = .ok (.if_icmp .lt 14, 3) := by decide +kernel
theorem dX10_chooses_5 : decode cX10_chooses 5 = .ok (.iload_n 1, 1) := by decide +kernel
theorem dX10_chooses_6 : decode cX10_chooses 6 = .ok (.aload_n 0, 1) := by decide +kernel
theorem dX10_chooses_7 : decode cX10_chooses 7 = .ok (.getfield 10, 3) := by decide +kernel
theorem dX10_chooses_10 : decode cX10_chooses 10 = .ok (.getfield 109, 3) := by decide +kernel
theorem dX10_chooses_13 : decode cX10_chooses 13 = .ok (.if_icmp .lt 14, 3) := by decide +kernel
theorem dX10_chooses_16 : decode cX10_chooses 16 = .ok (.new 68, 3) := by decide +kernel
theorem dX10_chooses_19 : decode cX10_chooses 19 = .ok (.dup, 1) := by decide +kernel
theorem dX10_chooses_20 : decode cX10_chooses 20 = .ok (.ldc_w 256, 3) := by decide +kernel
theorem dX10_chooses_23 : decode cX10_chooses 23 = .ok (.invokespecial 72, 3) := by decide +kernel
theorem dX10_chooses_26 : decode cX10_chooses 26 = .ok (.athrow, 1) := by decide +kernel
theorem dX10_chooses_27 : decode cX10_chooses 27 = .ok (.aload_n 0, 1) := by decide +kernel
theorem dX10_chooses_28 : decode cX10_chooses 28 = .ok (.getfield 29, 3) := by decide +kernel
theorem dX10_chooses_31 : decode cX10_chooses 31 = .ok (.aload_n 0, 1) := by decide +kernel
theorem dX10_chooses_32 : decode cX10_chooses 32 = .ok (.getfield 10, 3) := by decide +kernel
theorem dX10_chooses_35 : decode cX10_chooses 35 = .ok (.iload_n 1, 1) := by decide +kernel
theorem dX10_chooses_36 : decode cX10_chooses 36 = .ok (.invokevirtual 258, 3) := by decide +kernel
theorem dX10_chooses_39 : decode cX10_chooses 39 = .ok (.ireturn, 1) := by decide +kernel
theorem dX10_off_0 : decode cX10_off 0 = .ok (.aload_n 0, 1) := by decide +kernel
theorem dX10_off_1 : decode cX10_off 1 = .ok (.getfield 29, 3) := by decide +kernel
theorem dX10_off_4 : decode cX10_off 4 = .ok (.aload_n 0, 1) := by decide +kernel
theorem dX10_off_5 : decode cX10_off 5 = .ok (.getfield 10, 3) := by decide +kernel
theorem dX10_off_8 : decode cX10_off 8 = .ok (.invokevirtual 261, 3) := by decide +kernel
theorem dX10_off_11 : decode cX10_off 11 = .ok (.ireturn, 1) := by decide +kernel
theorem dX10_routes_0 : decode cX10_routes 0 = .ok (.aload_n 0, 1) := by decide +kernel
theorem dX10_routes_1 : decode cX10_routes 1 = .ok (.getfield 43, 3) := by decide +kernel
theorem dX10_routes_4 : decode cX10_routes 4 = .ok (.aload_n 0, 1) := by decide +kernel
theorem dX10_routes_5 : decode cX10_routes 5 = .ok (.getfield 10, 3) := by decide +kernel
theorem dX10_routes_8 : decode cX10_routes 8 = .ok (.invokevirtual 264, 3) := by decide +kernel
theorem dX10_routes_11 : decode cX10_routes 11 = .ok (.ireturn, 1) := by decide +kernel
theorem dX10_setting_0 : decode cX10_setting 0 = .ok (.aload_n 0, 1) := by decide +kernel
theorem dX10_setting_1 : decode cX10_setting 1 = .ok (.iload_n 1, 1) := by decide +kernel
theorem dX10_setting_2 : decode cX10_setting 2 = .ok (.invokevirtual 215, 3) := by decide +kernel
theorem dX10_setting_5 : decode cX10_setting 5 = .ok (.istore_n 2, 1) := by decide +kernel
theorem dX10_setting_6 : decode cX10_setting 6 = .ok (.aload_n 0, 1) := by decide +kernel
theorem dX10_setting_7 : decode cX10_setting 7 = .ok (.getfield 43, 3) := by decide +kernel
theorem dX10_setting_10 : decode cX10_setting 10 = .ok (.aload_n 0, 1) := by decide +kernel
theorem dX10_setting_11 : decode cX10_setting 11 = .ok (.getfield 10, 3) := by decide +kernel
theorem dX10_setting_14 : decode cX10_setting 14 = .ok (.iload_n 2, 1) := by decide +kernel
theorem dX10_setting_15 : decode cX10_setting 15 = .ok (.invokevirtual 266, 3) := by decide +kernel
theorem dX10_setting_18 : decode cX10_setting 18 = .ok (.ireturn, 1) := by decide +kernel
theorem dX10_token_0 : decode cX10_token 0 = .ok (.aload_n 0, 1) := by decide +kernel
theorem dX10_token_1 : decode cX10_token 1 = .ok (.iload_n 1, 1) := by decide +kernel
theorem dX10_token_2 : decode cX10_token 2 = .ok (.invokevirtual 269, 3) := by decide +kernel
theorem dX10_token_5 : decode cX10_token 5 = .ok (.aload_n 0, 1) := by decide +kernel
theorem dX10_token_6 : decode cX10_token 6 = .ok (.getfield 50, 3) := by decide +kernel
theorem dX10_token_9 : decode cX10_token 9 = .ok (.getfield 272, 3) := by decide +kernel
theorem dX10_token_12 : decode cX10_token 12 = .ok (.sipush 1000, 3) := by decide +kernel
theorem dX10_token_15 : decode cX10_token 15 = .ok (.if_icmp .lt 14, 3) := by decide +kernel
theorem dX10_token_18 : decode cX10_token 18 = .ok (.new 99, 3) := by decide +kernel
theorem dX10_token_21 : decode cX10_token 21 = .ok (.dup, 1) := by decide +kernel
theorem dX10_token_22 : decode cX10_token 22 = .ok (.ldc_w 275, 3) := by decide +kernel
theorem dX10_token_25 : decode cX10_token 25 = .ok (.invokespecial 103, 3) := by decide +kernel
theorem dX10_token_28 : decode cX10_token 28 = .ok (.athrow, 1) := by decide +kernel
theorem dX10_token_29 : decode cX10_token 29 = .ok (.aload_n 0, 1) := by decide +kernel
theorem dX10_token_30 : decode cX10_token 30 = .ok (.getfield 50, 3) := by decide +kernel
theorem dX10_token_33 : decode cX10_token 33 = .ok (.aload_n 0, 1) := by decide +kernel
theorem dX10_token_34 : decode cX10_token 34 = .ok (.getfield 10, 3) := by decide +kernel
theorem dX10_token_37 : decode cX10_token 37 = .ok (.iload_n 1, 1) := by decide +kernel
theorem dX10_token_38 : decode cX10_token 38 = .ok (.invokevirtual 277, 3) := by decide +kernel
theorem dX10_token_41 : decode cX10_token 41 = .ok (.ireturn, 1) := by decide +kernel
theorem dX10_came_0 : decode cX10_came 0 = .ok (.aload_n 0, 1) := by decide +kernel
theorem dX10_came_1 : decode cX10_came 1 = .ok (.iload_n 1, 1) := by decide +kernel
theorem dX10_came_2 : decode cX10_came 2 = .ok (.invokevirtual 269, 3) := by decide +kernel
theorem dX10_came_5 : decode cX10_came 5 = .ok (.aload_n 0, 1) := by decide +kernel
theorem dX10_came_6 : decode cX10_came 6 = .ok (.getfield 50, 3) := by decide +kernel
theorem dX10_came_9 : decode cX10_came 9 = .ok (.getfield 280, 3) := by decide +kernel
theorem dX10_came_12 : decode cX10_came 12 = .ok (.iload_n 1, 1) := by decide +kernel
theorem dX10_came_13 : decode cX10_came 13 = .ok (.iaload, 1) := by decide +kernel
theorem dX10_came_14 : decode cX10_came 14 = .ok (.ireturn, 1) := by decide +kernel
theorem dX10_cameAnew_0 : decode cX10_cameAnew 0 = .ok (.aload_n 0, 1) := by decide +kernel
theorem dX10_cameAnew_1 : decode cX10_cameAnew 1 = .ok (.iload_n 1, 1) := by decide +kernel
theorem dX10_cameAnew_2 : decode cX10_cameAnew 2 = .ok (.invokevirtual 269, 3) := by decide +kernel
theorem dX10_cameAnew_5 : decode cX10_cameAnew 5 = .ok (.aload_n 0, 1) := by decide +kernel
theorem dX10_cameAnew_6 : decode cX10_cameAnew 6 = .ok (.getfield 50, 3) := by decide +kernel
theorem dX10_cameAnew_9 : decode cX10_cameAnew 9 = .ok (.aload_n 0, 1) := by decide +kernel
theorem dX10_cameAnew_10 : decode cX10_cameAnew 10 = .ok (.getfield 10, 3) := by decide +kernel
theorem dX10_cameAnew_13 : decode cX10_cameAnew 13 = .ok (.iload_n 1, 1) := by decide +kernel
theorem dX10_cameAnew_14 : decode cX10_cameAnew 14 = .ok (.invokevirtual 283, 3) := by decide +kernel
theorem dX10_cameAnew_17 : decode cX10_cameAnew 17 = .ok (.ireturn, 1) := by decide +kernel
theorem dX10_isStep_0 : decode cX10_isStep 0 = .ok (.aload_n 0, 1) := by decide +kernel
theorem dX10_isStep_1 : decode cX10_isStep 1 = .ok (.getfield 50, 3) := by decide +kernel
theorem dX10_isStep_4 : decode cX10_isStep 4 = .ok (.aload_n 0, 1) := by decide +kernel
theorem dX10_isStep_5 : decode cX10_isStep 5 = .ok (.getfield 10, 3) := by decide +kernel
theorem dX10_isStep_8 : decode cX10_isStep 8 = .ok (.getfield 109, 3) := by decide +kernel
theorem dX10_isStep_11 : decode cX10_isStep 11 = .ok (.invokevirtual 286, 3) := by decide +kernel
theorem dX10_isStep_14 : decode cX10_isStep 14 = .ok (.ireturn, 1) := by decide +kernel
theorem dX10_bad_0 : decode cX10_bad 0 = .ok (.aload_n 0, 1) := by decide +kernel
theorem dX10_bad_1 : decode cX10_bad 1 = .ok (.iload_n 1, 1) := by decide +kernel
theorem dX10_bad_2 : decode cX10_bad 2 = .ok (.invokevirtual 149, 3) := by decide +kernel
theorem dX10_bad_5 : decode cX10_bad 5 = .ok (.iload_n 2, 1) := by decide +kernel
theorem dX10_bad_6 : decode cX10_bad 6 = .ok (.invokestatic 290, 3) := by decide +kernel
theorem dX10_bad_9 : decode cX10_bad 9 = .ok (.aload_n 0, 1) := by decide +kernel
theorem dX10_bad_10 : decode cX10_bad 10 = .ok (.getfield 29, 3) := by decide +kernel
theorem dX10_bad_13 : decode cX10_bad 13 = .ok (.aload_n 0, 1) := by decide +kernel
theorem dX10_bad_14 : decode cX10_bad 14 = .ok (.getfield 10, 3) := by decide +kernel
theorem dX10_bad_17 : decode cX10_bad 17 = .ok (.iload_n 1, 1) := by decide +kernel
theorem dX10_bad_18 : decode cX10_bad 18 = .ok (.iload_n 2, 1) := by decide +kernel
theorem dX10_bad_19 : decode cX10_bad 19 = .ok (.invokevirtual 293, 3) := by decide +kernel
theorem dX10_bad_22 : decode cX10_bad 22 = .ok (.invokestatic 167, 3) := by decide +kernel
theorem dX10_bad_25 : decode cX10_bad 25 = .ok (.ireturn, 1) := by decide +kernel
theorem dX10_tells_0 : decode cX10_tells 0 = .ok (.aload_n 0, 1) := by decide +kernel
theorem dX10_tells_1 : decode cX10_tells 1 = .ok (.iload_n 1, 1) := by decide +kernel
theorem dX10_tells_2 : decode cX10_tells 2 = .ok (.invokevirtual 149, 3) := by decide +kernel
theorem dX10_tells_5 : decode cX10_tells 5 = .ok (.iload_n 2, 1) := by decide +kernel
theorem dX10_tells_6 : decode cX10_tells 6 = .ok (.invokestatic 290, 3) := by decide +kernel
theorem dX10_tells_9 : decode cX10_tells 9 = .ok (.aload_n 0, 1) := by decide +kernel
theorem dX10_tells_10 : decode cX10_tells 10 = .ok (.getfield 29, 3) := by decide +kernel
theorem dX10_tells_13 : decode cX10_tells 13 = .ok (.aload_n 0, 1) := by decide +kernel
theorem dX10_tells_14 : decode cX10_tells 14 = .ok (.getfield 10, 3) := by decide +kernel
theorem dX10_tells_17 : decode cX10_tells 17 = .ok (.iload_n 1, 1) := by decide +kernel
theorem dX10_tells_18 : decode cX10_tells 18 = .ok (.iload_n 2, 1) := by decide +kernel
theorem dX10_tells_19 : decode cX10_tells 19 = .ok (.invokevirtual 297, 3) := by decide +kernel
theorem dX10_tells_22 : decode cX10_tells 22 = .ok (.lreturn, 1) := by decide +kernel
theorem dX10_hidden_0 : decode cX10_hidden 0 = .ok (.aload_n 0, 1) := by decide +kernel
theorem dX10_hidden_1 : decode cX10_hidden 1 = .ok (.getfield 36, 3) := by decide +kernel
theorem dX10_hidden_4 : decode cX10_hidden 4 = .ok (.aload_n 0, 1) := by decide +kernel
theorem dX10_hidden_5 : decode cX10_hidden 5 = .ok (.getfield 29, 3) := by decide +kernel
theorem dX10_hidden_8 : decode cX10_hidden 8 = .ok (.aload_n 0, 1) := by decide +kernel
theorem dX10_hidden_9 : decode cX10_hidden 9 = .ok (.getfield 10, 3) := by decide +kernel
theorem dX10_hidden_12 : decode cX10_hidden 12 = .ok (.lload_n 1, 1) := by decide +kernel
theorem dX10_hidden_13 : decode cX10_hidden 13 = .ok (.invokevirtual 300, 3) := by decide +kernel
theorem dX10_hidden_16 : decode cX10_hidden 16 = .ok (.ireturn, 1) := by decide +kernel
theorem dX10_tests_0 : decode cX10_tests 0 = .ok (.aload_n 0, 1) := by decide +kernel
theorem dX10_tests_1 : decode cX10_tests 1 = .ok (.getfield 36, 3) := by decide +kernel
theorem dX10_tests_4 : decode cX10_tests 4 = .ok (.aload_n 0, 1) := by decide +kernel
theorem dX10_tests_5 : decode cX10_tests 5 = .ok (.getfield 29, 3) := by decide +kernel
theorem dX10_tests_8 : decode cX10_tests 8 = .ok (.aload_n 0, 1) := by decide +kernel
theorem dX10_tests_9 : decode cX10_tests 9 = .ok (.getfield 10, 3) := by decide +kernel
theorem dX10_tests_12 : decode cX10_tests 12 = .ok (.invokevirtual 304, 3) := by decide +kernel
theorem dX10_tests_15 : decode cX10_tests 15 = .ok (.ireturn, 1) := by decide +kernel
theorem dX10_bears_0 : decode cX10_bears 0 = .ok (.aload_n 0, 1) := by decide +kernel
theorem dX10_bears_1 : decode cX10_bears 1 = .ok (.getfield 29, 3) := by decide +kernel
theorem dX10_bears_4 : decode cX10_bears 4 = .ok (.aload_n 0, 1) := by decide +kernel
theorem dX10_bears_5 : decode cX10_bears 5 = .ok (.getfield 10, 3) := by decide +kernel
theorem dX10_bears_8 : decode cX10_bears 8 = .ok (.invokevirtual 231, 3) := by decide +kernel
theorem dX10_bears_11 : decode cX10_bears 11 = .ok (.lconst 0, 1) := by decide +kernel
theorem dX10_bears_12 : decode cX10_bears 12 = .ok (.lcmp, 1) := by decide +kernel
theorem dX10_bears_13 : decode cX10_bears 13 = .ok (.ifCond .eq 5, 3) := by decide +kernel
theorem dX10_bears_16 : decode cX10_bears 16 = .ok (.iconst 0, 1) := by decide +kernel
theorem dX10_bears_17 : decode cX10_bears 17 = .ok (.ireturn, 1) := by decide +kernel
theorem dX10_bears_18 : decode cX10_bears 18 = .ok (.iconst 0, 1) := by decide +kernel
theorem dX10_bears_19 : decode cX10_bears 19 = .ok (.istore_n 1, 1) := by decide +kernel
theorem dX10_bears_20 : decode cX10_bears 20 = .ok (.iload_n 1, 1) := by decide +kernel
theorem dX10_bears_21 : decode cX10_bears 21 = .ok (.aload_n 0, 1) := by decide +kernel
theorem dX10_bears_22 : decode cX10_bears 22 = .ok (.getfield 10, 3) := by decide +kernel
theorem dX10_bears_25 : decode cX10_bears 25 = .ok (.getfield 75, 3) := by decide +kernel
theorem dX10_bears_28 : decode cX10_bears 28 = .ok (.if_icmp .ge 29, 3) := by decide +kernel
theorem dX10_bears_31 : decode cX10_bears 31 = .ok (.aload_n 0, 1) := by decide +kernel
theorem dX10_bears_32 : decode cX10_bears 32 = .ok (.getfield 29, 3) := by decide +kernel
theorem dX10_bears_35 : decode cX10_bears 35 = .ok (.aload_n 0, 1) := by decide +kernel
theorem dX10_bears_36 : decode cX10_bears 36 = .ok (.getfield 10, 3) := by decide +kernel
theorem dX10_bears_39 : decode cX10_bears 39 = .ok (.iload_n 1, 1) := by decide +kernel
theorem dX10_bears_40 : decode cX10_bears 40 = .ok (.iconst 0, 1) := by decide +kernel
theorem dX10_bears_41 : decode cX10_bears 41 = .ok (.invokevirtual 293, 3) := by decide +kernel
theorem dX10_bears_44 : decode cX10_bears 44 = .ok (.lconst 0, 1) := by decide +kernel
theorem dX10_bears_45 : decode cX10_bears 45 = .ok (.lcmp, 1) := by decide +kernel
theorem dX10_bears_46 : decode cX10_bears 46 = .ok (.ifCond .eq 5, 3) := by decide +kernel
theorem dX10_bears_49 : decode cX10_bears 49 = .ok (.iconst 0, 1) := by decide +kernel
theorem dX10_bears_50 : decode cX10_bears 50 = .ok (.ireturn, 1) := by decide +kernel
theorem dX10_bears_51 : decode cX10_bears 51 = .ok (.iinc 1 1, 3) := by decide +kernel
theorem dX10_bears_54 : decode cX10_bears 54 = .ok (.goto (-34), 3) := by decide +kernel
theorem dX10_bears_57 : decode cX10_bears 57 = .ok (.iconst 1, 1) := by decide +kernel
theorem dX10_bears_58 : decode cX10_bears 58 = .ok (.ireturn, 1) := by decide +kernel
theorem dX10_far_0 : decode cX10_far 0 = .ok (.iload_n 1, 1) := by decide +kernel
theorem dX10_far_1 : decode cX10_far 1 = .ok (.invokestatic 308, 3) := by decide +kernel
theorem dX10_far_4 : decode cX10_far 4 = .ok (.aload_n 0, 1) := by decide +kernel
theorem dX10_far_5 : decode cX10_far 5 = .ok (.iload_n 2, 1) := by decide +kernel
theorem dX10_far_6 : decode cX10_far 6 = .ok (.invokevirtual 215, 3) := by decide +kernel
theorem dX10_far_9 : decode cX10_far 9 = .ok (.istore_n 3, 1) := by decide +kernel
theorem dX10_far_10 : decode cX10_far 10 = .ok (.aload_n 0, 1) := by decide +kernel
theorem dX10_far_11 : decode cX10_far 11 = .ok (.getfield 57, 3) := by decide +kernel
theorem dX10_far_14 : decode cX10_far 14 = .ok (.iload_n 1, 1) := by decide +kernel
theorem dX10_far_15 : decode cX10_far 15 = .ok (.iload_n 3, 1) := by decide +kernel
theorem dX10_far_16 : decode cX10_far 16 = .ok (.aload_n 0, 1) := by decide +kernel
theorem dX10_far_17 : decode cX10_far 17 = .ok (.getfield 10, 3) := by decide +kernel
theorem dX10_far_20 : decode cX10_far 20 = .ok (.getfield 109, 3) := by decide +kernel
theorem dX10_far_23 : decode cX10_far 23 = .ok (.invokevirtual 311, 3) := by decide +kernel
theorem dX10_far_26 : decode cX10_far 26 = .ok (.ireturn, 1) := by decide +kernel
theorem dX10_step_0 : decode cX10_step 0 = .ok (.iload_n 1, 1) := by decide +kernel
theorem dX10_step_1 : decode cX10_step 1 = .ok (.invokestatic 308, 3) := by decide +kernel
theorem dX10_step_4 : decode cX10_step 4 = .ok (.aload_n 0, 1) := by decide +kernel
theorem dX10_step_5 : decode cX10_step 5 = .ok (.iload_n 2, 1) := by decide +kernel
theorem dX10_step_6 : decode cX10_step 6 = .ok (.invokevirtual 215, 3) := by decide +kernel
theorem dX10_step_9 : decode cX10_step 9 = .ok (.istore_n 3, 1) := by decide +kernel
theorem dX10_step_10 : decode cX10_step 10 = .ok (.aload_n 0, 1) := by decide +kernel
theorem dX10_step_11 : decode cX10_step 11 = .ok (.getfield 57, 3) := by decide +kernel
theorem dX10_step_14 : decode cX10_step 14 = .ok (.iload_n 1, 1) := by decide +kernel
theorem dX10_step_15 : decode cX10_step 15 = .ok (.iload_n 3, 1) := by decide +kernel
theorem dX10_step_16 : decode cX10_step 16 = .ok (.aload_n 0, 1) := by decide +kernel
theorem dX10_step_17 : decode cX10_step 17 = .ok (.getfield 10, 3) := by decide +kernel
theorem dX10_step_20 : decode cX10_step 20 = .ok (.getfield 109, 3) := by decide +kernel
theorem dX10_step_23 : decode cX10_step 23 = .ok (.invokevirtual 315, 3) := by decide +kernel
theorem dX10_step_26 : decode cX10_step 26 = .ok (.ireturn, 1) := by decide +kernel
theorem dX10_manyFar_0 : decode cX10_manyFar 0 = .ok (.iload_n 1, 1) := by decide +kernel
theorem dX10_manyFar_1 : decode cX10_manyFar 1 = .ok (.invokestatic 308, 3) := by decide +kernel
theorem dX10_manyFar_4 : decode cX10_manyFar 4 = .ok (.iload_n 2, 1) := by decide +kernel
theorem dX10_manyFar_5 : decode cX10_manyFar 5 = .ok (.ifCond .ge 14, 3) := by decide +kernel
theorem dX10_manyFar_8 : decode cX10_manyFar 8 = .ok (.new 68, 3) := by decide +kernel
theorem dX10_manyFar_11 : decode cX10_manyFar 11 = .ok (.dup, 1) := by decide +kernel
theorem dX10_manyFar_12 : decode cX10_manyFar 12 = .ok (.ldc_w 318, 3) := by decide +kernel
theorem dX10_manyFar_15 : decode cX10_manyFar 15 = .ok (.invokespecial 72, 3) := by decide +kernel
theorem dX10_manyFar_18 : decode cX10_manyFar 18 = .ok (.athrow, 1) := by decide +kernel
theorem dX10_manyFar_19 : decode cX10_manyFar 19 = .ok (.aload_n 0, 1) := by decide +kernel
theorem dX10_manyFar_20 : decode cX10_manyFar 20 = .ok (.getfield 57, 3) := by decide +kernel
theorem dX10_manyFar_23 : decode cX10_manyFar 23 = .ok (.iload_n 1, 1) := by decide +kernel
theorem dX10_manyFar_24 : decode cX10_manyFar 24 = .ok (.iload_n 2, 1) := by decide +kernel
theorem dX10_manyFar_25 : decode cX10_manyFar 25 = .ok (.aload_n 0, 1) := by decide +kernel
theorem dX10_manyFar_26 : decode cX10_manyFar 26 = .ok (.getfield 10, 3) := by decide +kernel
theorem dX10_manyFar_29 : decode cX10_manyFar 29 = .ok (.getfield 109, 3) := by decide +kernel
theorem dX10_manyFar_32 : decode cX10_manyFar 32 = .ok (.invokevirtual 320, 3) := by decide +kernel
theorem dX10_manyFar_35 : decode cX10_manyFar 35 = .ok (.ireturn, 1) := by decide +kernel
theorem dX10_ask_0 : decode cX10_ask 0 = .ok (.aload_n 0, 1) := by decide +kernel
theorem dX10_ask_1 : decode cX10_ask 1 = .ok (.iload_n 1, 1) := by decide +kernel
theorem dX10_ask_2 : decode cX10_ask 2 = .ok (.iload_n 2, 1) := by decide +kernel
theorem dX10_ask_3 : decode cX10_ask 3 = .ok (.invokevirtual 89, 3) := by decide +kernel
theorem dX10_ask_6 : decode cX10_ask 6 = .ok (.aload_n 0, 1) := by decide +kernel
theorem dX10_ask_7 : decode cX10_ask 7 = .ok (.getfield 64, 3) := by decide +kernel
theorem dX10_ask_10 : decode cX10_ask 10 = .ok (.iload_n 1, 1) := by decide +kernel
theorem dX10_ask_11 : decode cX10_ask 11 = .ok (.iload_n 2, 1) := by decide +kernel
theorem dX10_ask_12 : decode cX10_ask 12 = .ok (.aload_n 0, 1) := by decide +kernel
theorem dX10_ask_13 : decode cX10_ask 13 = .ok (.getfield 10, 3) := by decide +kernel
theorem dX10_ask_16 : decode cX10_ask 16 = .ok (.getfield 109, 3) := by decide +kernel
theorem dX10_ask_19 : decode cX10_ask 19 = .ok (.invokevirtual 323, 3) := by decide +kernel
theorem dX10_ask_22 : decode cX10_ask 22 = .ok (.ireturn, 1) := by decide +kernel
theorem dX10_left_0 : decode cX10_left 0 = .ok (.aload_n 0, 1) := by decide +kernel
theorem dX10_left_1 : decode cX10_left 1 = .ok (.getfield 64, 3) := by decide +kernel
theorem dX10_left_4 : decode cX10_left 4 = .ok (.aload_n 0, 1) := by decide +kernel
theorem dX10_left_5 : decode cX10_left 5 = .ok (.getfield 10, 3) := by decide +kernel
theorem dX10_left_8 : decode cX10_left 8 = .ok (.getfield 109, 3) := by decide +kernel
theorem dX10_left_11 : decode cX10_left 11 = .ok (.invokevirtual 327, 3) := by decide +kernel
theorem dX10_left_14 : decode cX10_left 14 = .ok (.ireturn, 1) := by decide +kernel
theorem dX10_needed_0 : decode cX10_needed 0 = .ok (.aload_n 0, 1) := by decide +kernel
theorem dX10_needed_1 : decode cX10_needed 1 = .ok (.getfield 10, 3) := by decide +kernel
theorem dX10_needed_4 : decode cX10_needed 4 = .ok (.getfield 109, 3) := by decide +kernel
theorem dX10_needed_7 : decode cX10_needed 7 = .ok (.iconst 4, 1) := by decide +kernel
theorem dX10_needed_8 : decode cX10_needed 8 = .ok (.if_icmp .le 5, 3) := by decide +kernel
theorem dX10_needed_11 : decode cX10_needed 11 = .ok (.iconst (-1), 1) := by decide +kernel
theorem dX10_needed_12 : decode cX10_needed 12 = .ok (.ireturn, 1) := by decide +kernel
theorem dX10_needed_13 : decode cX10_needed 13 = .ok (.aload_n 0, 1) := by decide +kernel
theorem dX10_needed_14 : decode cX10_needed 14 = .ok (.getfield 64, 3) := by decide +kernel
theorem dX10_needed_17 : decode cX10_needed 17 = .ok (.aload_n 0, 1) := by decide +kernel
theorem dX10_needed_18 : decode cX10_needed 18 = .ok (.getfield 10, 3) := by decide +kernel
theorem dX10_needed_21 : decode cX10_needed 21 = .ok (.getfield 109, 3) := by decide +kernel
theorem dX10_needed_24 : decode cX10_needed 24 = .ok (.invokevirtual 330, 3) := by decide +kernel
theorem dX10_needed_27 : decode cX10_needed 27 = .ok (.ireturn, 1) := by decide +kernel
theorem dX10_forgetWhatDependsOnComparators_0 : decode cX10_forgetWhatDependsOnComparators 0 = .ok (.aload_n 0, 1) := by decide +kernel
theorem dX10_forgetWhatDependsOnComparators_1 : decode cX10_forgetWhatDependsOnComparators 1 = .ok (.getfield 50, 3) := by decide +kernel
theorem dX10_forgetWhatDependsOnComparators_4 : decode cX10_forgetWhatDependsOnComparators 4 = .ok (.invokevirtual 333, 3) := by decide +kernel
theorem dX10_forgetWhatDependsOnComparators_7 : decode cX10_forgetWhatDependsOnComparators 7 = .ok (.aload_n 0, 1) := by decide +kernel
theorem dX10_forgetWhatDependsOnComparators_8 : decode cX10_forgetWhatDependsOnComparators 8 = .ok (.getfield 43, 3) := by decide +kernel
theorem dX10_forgetWhatDependsOnComparators_11 : decode cX10_forgetWhatDependsOnComparators 11 = .ok (.invokevirtual 334, 3) := by decide +kernel
theorem dX10_forgetWhatDependsOnComparators_14 : decode cX10_forgetWhatDependsOnComparators 14 = .ok (.return_, 1) := by decide +kernel
theorem dX10_appendPlan_0 : decode cX10_appendPlan 0 = .ok (.aload_n 0, 1) := by decide +kernel
theorem dX10_appendPlan_1 : decode cX10_appendPlan 1 = .ok (.aload_n 0, 1) := by decide +kernel
theorem dX10_appendPlan_2 : decode cX10_appendPlan 2 = .ok (.getfield 16, 3) := by decide +kernel
theorem dX10_appendPlan_5 : decode cX10_appendPlan 5 = .ok (.getfield 75, 3) := by decide +kernel
theorem dX10_appendPlan_8 : decode cX10_appendPlan 8 = .ok (.invokevirtual 93, 3) := by decide +kernel
theorem dX10_appendPlan_11 : decode cX10_appendPlan 11 = .ok (.iconst 0, 1) := by decide +kernel
theorem dX10_appendPlan_12 : decode cX10_appendPlan 12 = .ok (.istore_n 1, 1) := by decide +kernel
theorem dX10_appendPlan_13 : decode cX10_appendPlan 13 = .ok (.iload_n 1, 1) := by decide +kernel
theorem dX10_appendPlan_14 : decode cX10_appendPlan 14 = .ok (.aload_n 0, 1) := by decide +kernel
theorem dX10_appendPlan_15 : decode cX10_appendPlan 15 = .ok (.getfield 16, 3) := by decide +kernel
theorem dX10_appendPlan_18 : decode cX10_appendPlan 18 = .ok (.getfield 75, 3) := by decide +kernel
theorem dX10_appendPlan_21 : decode cX10_appendPlan 21 = .ok (.if_icmp .ge 34, 3) := by decide +kernel
theorem dX10_appendPlan_24 : decode cX10_appendPlan 24 = .ok (.aload_n 0, 1) := by decide +kernel
theorem dX10_appendPlan_25 : decode cX10_appendPlan 25 = .ok (.getfield 10, 3) := by decide +kernel
theorem dX10_appendPlan_28 : decode cX10_appendPlan 28 = .ok (.aload_n 0, 1) := by decide +kernel
theorem dX10_appendPlan_29 : decode cX10_appendPlan 29 = .ok (.getfield 16, 3) := by decide +kernel
theorem dX10_appendPlan_32 : decode cX10_appendPlan 32 = .ok (.getfield 152, 3) := by decide +kernel
theorem dX10_appendPlan_35 : decode cX10_appendPlan 35 = .ok (.iload_n 1, 1) := by decide +kernel
theorem dX10_appendPlan_36 : decode cX10_appendPlan 36 = .ok (.iaload, 1) := by decide +kernel
theorem dX10_appendPlan_37 : decode cX10_appendPlan 37 = .ok (.aload_n 0, 1) := by decide +kernel
theorem dX10_appendPlan_38 : decode cX10_appendPlan 38 = .ok (.getfield 16, 3) := by decide +kernel
theorem dX10_appendPlan_41 : decode cX10_appendPlan 41 = .ok (.getfield 156, 3) := by decide +kernel
theorem dX10_appendPlan_44 : decode cX10_appendPlan 44 = .ok (.iload_n 1, 1) := by decide +kernel
theorem dX10_appendPlan_45 : decode cX10_appendPlan 45 = .ok (.iaload, 1) := by decide +kernel
theorem dX10_appendPlan_46 : decode cX10_appendPlan 46 = .ok (.invokevirtual 96, 3) := by decide +kernel
theorem dX10_appendPlan_49 : decode cX10_appendPlan 49 = .ok (.iinc 1 1, 3) := by decide +kernel
theorem dX10_appendPlan_52 : decode cX10_appendPlan 52 = .ok (.goto (-39), 3) := by decide +kernel
theorem dX10_appendPlan_55 : decode cX10_appendPlan 55 = .ok (.aload_n 0, 1) := by decide +kernel
theorem dX10_appendPlan_56 : decode cX10_appendPlan 56 = .ok (.invokevirtual 86, 3) := by decide +kernel
theorem dX10_appendPlan_59 : decode cX10_appendPlan 59 = .ok (.aload_n 0, 1) := by decide +kernel
theorem dX10_appendPlan_60 : decode cX10_appendPlan 60 = .ok (.getfield 16, 3) := by decide +kernel
theorem dX10_appendPlan_63 : decode cX10_appendPlan 63 = .ok (.getfield 75, 3) := by decide +kernel
theorem dX10_appendPlan_66 : decode cX10_appendPlan 66 = .ok (.ireturn, 1) := by decide +kernel
theorem dX10_checkRoomFor_0 : decode cX10_checkRoomFor 0 = .ok (.aload_n 0, 1) := by decide +kernel
theorem dX10_checkRoomFor_1 : decode cX10_checkRoomFor 1 = .ok (.getfield 10, 3) := by decide +kernel
theorem dX10_checkRoomFor_4 : decode cX10_checkRoomFor 4 = .ok (.getfield 75, 3) := by decide +kernel
theorem dX10_checkRoomFor_7 : decode cX10_checkRoomFor 7 = .ok (.bipush 24, 2) := by decide +kernel
theorem dX10_checkRoomFor_9 : decode cX10_checkRoomFor 9 = .ok (.iload_n 1, 1) := by decide +kernel
theorem dX10_checkRoomFor_10 : decode cX10_checkRoomFor 10 = .ok (.isub, 1) := by decide +kernel
theorem dX10_checkRoomFor_11 : decode cX10_checkRoomFor 11 = .ok (.if_icmp .le 14, 3) := by decide +kernel
theorem dX10_checkRoomFor_14 : decode cX10_checkRoomFor 14 = .ok (.new 99, 3) := by decide +kernel
theorem dX10_checkRoomFor_17 : decode cX10_checkRoomFor 17 = .ok (.dup, 1) := by decide +kernel
theorem dX10_checkRoomFor_18 : decode cX10_checkRoomFor 18 = .ok (.ldc_w 335, 3) := by decide +kernel
theorem dX10_checkRoomFor_21 : decode cX10_checkRoomFor 21 = .ok (.invokespecial 103, 3) := by decide +kernel
theorem dX10_checkRoomFor_24 : decode cX10_checkRoomFor 24 = .ok (.athrow, 1) := by decide +kernel
theorem dX10_checkRoomFor_25 : decode cX10_checkRoomFor 25 = .ok (.return_, 1) := by decide +kernel
theorem dX10_checkWire_0 : decode cX10_checkWire 0 = .ok (.iload_n 1, 1) := by decide +kernel
theorem dX10_checkWire_1 : decode cX10_checkWire 1 = .ok (.ifCond .lt 14, 3) := by decide +kernel
theorem dX10_checkWire_4 : decode cX10_checkWire 4 = .ok (.iload_n 1, 1) := by decide +kernel
theorem dX10_checkWire_5 : decode cX10_checkWire 5 = .ok (.aload_n 0, 1) := by decide +kernel
theorem dX10_checkWire_6 : decode cX10_checkWire 6 = .ok (.getfield 10, 3) := by decide +kernel
theorem dX10_checkWire_9 : decode cX10_checkWire 9 = .ok (.getfield 109, 3) := by decide +kernel
theorem dX10_checkWire_12 : decode cX10_checkWire 12 = .ok (.if_icmp .lt 14, 3) := by decide +kernel
theorem dX10_checkWire_15 : decode cX10_checkWire 15 = .ok (.new 247, 3) := by decide +kernel
theorem dX10_checkWire_18 : decode cX10_checkWire 18 = .ok (.dup, 1) := by decide +kernel
theorem dX10_checkWire_19 : decode cX10_checkWire 19 = .ok (.ldc_w 337, 3) := by decide +kernel
theorem dX10_checkWire_22 : decode cX10_checkWire 22 = .ok (.invokespecial 251, 3) := by decide +kernel
theorem dX10_checkWire_25 : decode cX10_checkWire 25 = .ok (.athrow, 1) := by decide +kernel
theorem dX10_checkWire_26 : decode cX10_checkWire 26 = .ok (.return_, 1) := by decide +kernel
theorem dX10_checkTwoWires_0 : decode cX10_checkTwoWires 0 = .ok (.aload_n 0, 1) := by decide +kernel
theorem dX10_checkTwoWires_1 : decode cX10_checkTwoWires 1 = .ok (.iload_n 1, 1) := by decide +kernel
theorem dX10_checkTwoWires_2 : decode cX10_checkTwoWires 2 = .ok (.invokevirtual 269, 3) := by decide +kernel
theorem dX10_checkTwoWires_5 : decode cX10_checkTwoWires 5 = .ok (.aload_n 0, 1) := by decide +kernel
theorem dX10_checkTwoWires_6 : decode cX10_checkTwoWires 6 = .ok (.iload_n 2, 1) := by decide +kernel
theorem dX10_checkTwoWires_7 : decode cX10_checkTwoWires 7 = .ok (.invokevirtual 269, 3) := by decide +kernel
theorem dX10_checkTwoWires_10 : decode cX10_checkTwoWires 10 = .ok (.iload_n 1, 1) := by decide +kernel
theorem dX10_checkTwoWires_11 : decode cX10_checkTwoWires 11 = .ok (.iload_n 2, 1) := by decide +kernel
theorem dX10_checkTwoWires_12 : decode cX10_checkTwoWires 12 = .ok (.if_icmp .ne 14, 3) := by decide +kernel
theorem dX10_checkTwoWires_15 : decode cX10_checkTwoWires 15 = .ok (.new 68, 3) := by decide +kernel
theorem dX10_checkTwoWires_18 : decode cX10_checkTwoWires 18 = .ok (.dup, 1) := by decide +kernel
theorem dX10_checkTwoWires_19 : decode cX10_checkTwoWires 19 = .ok (.ldc_w 339, 3) := by decide +kernel
theorem dX10_checkTwoWires_22 : decode cX10_checkTwoWires 22 = .ok (.invokespecial 72, 3) := by decide +kernel
theorem dX10_checkTwoWires_25 : decode cX10_checkTwoWires 25 = .ok (.athrow, 1) := by decide +kernel
theorem dX10_checkTwoWires_26 : decode cX10_checkTwoWires 26 = .ok (.return_, 1) := by decide +kernel
theorem dX10_checkComparator_0 : decode cX10_checkComparator 0 = .ok (.iload_n 1, 1) := by decide +kernel
theorem dX10_checkComparator_1 : decode cX10_checkComparator 1 = .ok (.ifCond .lt 14, 3) := by decide +kernel
theorem dX10_checkComparator_4 : decode cX10_checkComparator 4 = .ok (.iload_n 1, 1) := by decide +kernel
theorem dX10_checkComparator_5 : decode cX10_checkComparator 5 = .ok (.aload_n 0, 1) := by decide +kernel
theorem dX10_checkComparator_6 : decode cX10_checkComparator 6 = .ok (.getfield 10, 3) := by decide +kernel
theorem dX10_checkComparator_9 : decode cX10_checkComparator 9 = .ok (.getfield 75, 3) := by decide +kernel
theorem dX10_checkComparator_12 : decode cX10_checkComparator 12 = .ok (.if_icmp .lt 14, 3) := by decide +kernel
theorem dX10_checkComparator_15 : decode cX10_checkComparator 15 = .ok (.new 247, 3) := by decide +kernel
theorem dX10_checkComparator_18 : decode cX10_checkComparator 18 = .ok (.dup, 1) := by decide +kernel
theorem dX10_checkComparator_19 : decode cX10_checkComparator 19 = .ok (.ldc_w 341, 3) := by decide +kernel
theorem dX10_checkComparator_22 : decode cX10_checkComparator 22 = .ok (.invokespecial 251, 3) := by decide +kernel
theorem dX10_checkComparator_25 : decode cX10_checkComparator 25 = .ok (.athrow, 1) := by decide +kernel
theorem dX10_checkComparator_26 : decode cX10_checkComparator 26 = .ok (.return_, 1) := by decide +kernel
theorem dX10_checkPlace_0 : decode cX10_checkPlace 0 = .ok (.iload_n 0, 1) := by decide +kernel
theorem dX10_checkPlace_1 : decode cX10_checkPlace 1 = .ok (.ifCond .ge 14, 3) := by decide +kernel
theorem dX10_checkPlace_4 : decode cX10_checkPlace 4 = .ok (.new 247, 3) := by decide +kernel
theorem dX10_checkPlace_7 : decode cX10_checkPlace 7 = .ok (.dup, 1) := by decide +kernel
theorem dX10_checkPlace_8 : decode cX10_checkPlace 8 = .ok (.ldc_w 343, 3) := by decide +kernel
theorem dX10_checkPlace_11 : decode cX10_checkPlace 11 = .ok (.invokespecial 251, 3) := by decide +kernel
theorem dX10_checkPlace_14 : decode cX10_checkPlace 14 = .ok (.athrow, 1) := by decide +kernel
theorem dX10_checkPlace_15 : decode cX10_checkPlace 15 = .ok (.return_, 1) := by decide +kernel
theorem dX10_checkFault_0 : decode cX10_checkFault 0 = .ok (.iload_n 0, 1) := by decide +kernel
theorem dX10_checkFault_1 : decode cX10_checkFault 1 = .ok (.ifCond .lt 8, 3) := by decide +kernel
theorem dX10_checkFault_4 : decode cX10_checkFault 4 = .ok (.iload_n 0, 1) := by decide +kernel
theorem dX10_checkFault_5 : decode cX10_checkFault 5 = .ok (.iconst 2, 1) := by decide +kernel
theorem dX10_checkFault_6 : decode cX10_checkFault 6 = .ok (.if_icmp .le 14, 3) := by decide +kernel
theorem dX10_checkFault_9 : decode cX10_checkFault 9 = .ok (.new 68, 3) := by decide +kernel
theorem dX10_checkFault_12 : decode cX10_checkFault 12 = .ok (.dup, 1) := by decide +kernel
theorem dX10_checkFault_13 : decode cX10_checkFault 13 = .ok (.ldc_w 345, 3) := by decide +kernel
theorem dX10_checkFault_16 : decode cX10_checkFault 16 = .ok (.invokespecial 72, 3) := by decide +kernel
theorem dX10_checkFault_19 : decode cX10_checkFault 19 = .ok (.athrow, 1) := by decide +kernel
theorem dX10_checkFault_20 : decode cX10_checkFault 20 = .ok (.return_, 1) := by decide +kernel
theorem dX10_checkSteps_0 : decode cX10_checkSteps 0 = .ok (.iload_n 0, 1) := by decide +kernel
theorem dX10_checkSteps_1 : decode cX10_checkSteps 1 = .ok (.ifCond .lt 8, 3) := by decide +kernel
theorem dX10_checkSteps_4 : decode cX10_checkSteps 4 = .ok (.iload_n 0, 1) := by decide +kernel
theorem dX10_checkSteps_5 : decode cX10_checkSteps 5 = .ok (.iconst 3, 1) := by decide +kernel
theorem dX10_checkSteps_6 : decode cX10_checkSteps 6 = .ok (.if_icmp .le 14, 3) := by decide +kernel
theorem dX10_checkSteps_9 : decode cX10_checkSteps 9 = .ok (.new 68, 3) := by decide +kernel
theorem dX10_checkSteps_12 : decode cX10_checkSteps 12 = .ok (.dup, 1) := by decide +kernel
theorem dX10_checkSteps_13 : decode cX10_checkSteps 13 = .ok (.ldc_w 347, 3) := by decide +kernel
theorem dX10_checkSteps_16 : decode cX10_checkSteps 16 = .ok (.invokespecial 72, 3) := by decide +kernel
theorem dX10_checkSteps_19 : decode cX10_checkSteps 19 = .ok (.athrow, 1) := by decide +kernel
theorem dX10_checkSteps_20 : decode cX10_checkSteps 20 = .ok (.return_, 1) := by decide +kernel
theorem dX10_rowOf_0 : decode cX10_rowOf 0 = .ok (.iload_n 1, 1) := by decide +kernel
theorem dX10_rowOf_1 : decode cX10_rowOf 1 = .ok (.aload_n 0, 1) := by decide +kernel
theorem dX10_rowOf_2 : decode cX10_rowOf 2 = .ok (.getfield 10, 3) := by decide +kernel
theorem dX10_rowOf_5 : decode cX10_rowOf 5 = .ok (.getfield 109, 3) := by decide +kernel
theorem dX10_rowOf_8 : decode cX10_rowOf 8 = .ok (.invokestatic 349, 3) := by decide +kernel
theorem dX10_rowOf_11 : decode cX10_rowOf 11 = .ok (.istore_n 2, 1) := by decide +kernel
theorem dX10_rowOf_12 : decode cX10_rowOf 12 = .ok (.iload_n 2, 1) := by decide +kernel
theorem dX10_rowOf_13 : decode cX10_rowOf 13 = .ok (.iconst (-1), 1) := by decide +kernel
theorem dX10_rowOf_14 : decode cX10_rowOf 14 = .ok (.if_icmp .ne 14, 3) := by decide +kernel
theorem dX10_rowOf_17 : decode cX10_rowOf 17 = .ok (.new 68, 3) := by decide +kernel
