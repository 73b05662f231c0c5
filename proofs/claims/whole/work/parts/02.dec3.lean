theorem dX11_make_31 : decode cX11_make 31 = .ok (.goto 4, 3) := by decide +kernel
theorem dX11_make_34 : decode cX11_make 34 = .ok (.iconst 0, 1) := by decide +kernel
theorem dX11_make_35 : decode cX11_make 35 = .ok (.putfield 70, 3) := by decide +kernel
theorem dX11_make_38 : decode cX11_make 38 = .ok (.aload_n 0, 1) := by decide +kernel
theorem dX11_make_39 : decode cX11_make 39 = .ok (.getfield 70, 3) := by decide +kernel
theorem dX11_make_42 : decode cX11_make 42 = .ok (.ifCond .le 5, 3) := by decide +kernel
theorem dX11_make_45 : decode cX11_make 45 = .ok (.iconst 0, 1) := by decide +kernel
theorem dX11_make_46 : decode cX11_make 46 = .ok (.ireturn, 1) := by decide +kernel
theorem dX11_make_47 : decode cX11_make 47 = .ok (.aload_n 0, 1) := by decide +kernel
theorem dX11_make_48 : decode cX11_make 48 = .ok (.invokevirtual 91, 3) := by decide +kernel
theorem dX11_make_51 : decode cX11_make 51 = .ok (.aload_n 0, 1) := by decide +kernel
theorem dX11_make_52 : decode cX11_make 52 = .ok (.iload_n 1, 1) := by decide +kernel
theorem dX11_make_53 : decode cX11_make 53 = .ok (.iconst 0, 1) := by decide +kernel
theorem dX11_make_54 : decode cX11_make 54 = .ok (.invokevirtual 116, 3) := by decide +kernel
theorem dX11_make_57 : decode cX11_make 57 = .ok (.ireturn, 1) := by decide +kernel
theorem dX11_mirror_0 : decode cX11_mirror 0 = .ok (.aload_n 0, 1) := by decide +kernel
theorem dX11_mirror_1 : decode cX11_mirror 1 = .ok (.iconst 0, 1) := by decide +kernel
theorem dX11_mirror_2 : decode cX11_mirror 2 = .ok (.putfield 70, 3) := by decide +kernel
theorem dX11_mirror_5 : decode cX11_mirror 5 = .ok (.iconst 0, 1) := by decide +kernel
theorem dX11_mirror_6 : decode cX11_mirror 6 = .ok (.istore_n 1, 1) := by decide +kernel
theorem dX11_mirror_7 : decode cX11_mirror 7 = .ok (.iload_n 1, 1) := by decide +kernel
theorem dX11_mirror_8 : decode cX11_mirror 8 = .ok (.aload_n 0, 1) := by decide +kernel
theorem dX11_mirror_9 : decode cX11_mirror 9 = .ok (.getfield 81, 3) := by decide +kernel
theorem dX11_mirror_12 : decode cX11_mirror 12 = .ok (.if_icmp .ge 49, 3) := by decide +kernel
theorem dX11_mirror_15 : decode cX11_mirror 15 = .ok (.aload_n 0, 1) := by decide +kernel
theorem dX11_mirror_16 : decode cX11_mirror 16 = .ok (.getfield 7, 3) := by decide +kernel
theorem dX11_mirror_19 : decode cX11_mirror 19 = .ok (.iload_n 1, 1) := by decide +kernel
theorem dX11_mirror_20 : decode cX11_mirror 20 = .ok (.iaload, 1) := by decide +kernel
theorem dX11_mirror_21 : decode cX11_mirror 21 = .ok (.istore_n 2, 1) := by decide +kernel
theorem dX11_mirror_22 : decode cX11_mirror 22 = .ok (.aload_n 0, 1) := by decide +kernel
theorem dX11_mirror_23 : decode cX11_mirror 23 = .ok (.getfield 7, 3) := by decide +kernel
theorem dX11_mirror_26 : decode cX11_mirror 26 = .ok (.iload_n 1, 1) := by decide +kernel
theorem dX11_mirror_27 : decode cX11_mirror 27 = .ok (.aload_n 0, 1) := by decide +kernel
theorem dX11_mirror_28 : decode cX11_mirror 28 = .ok (.getfield 74, 3) := by decide +kernel
theorem dX11_mirror_31 : decode cX11_mirror 31 = .ok (.iconst 1, 1) := by decide +kernel
theorem dX11_mirror_32 : decode cX11_mirror 32 = .ok (.isub, 1) := by decide +kernel
theorem dX11_mirror_33 : decode cX11_mirror 33 = .ok (.aload_n 0, 1) := by decide +kernel
theorem dX11_mirror_34 : decode cX11_mirror 34 = .ok (.getfield 13, 3) := by decide +kernel
theorem dX11_mirror_37 : decode cX11_mirror 37 = .ok (.iload_n 1, 1) := by decide +kernel
theorem dX11_mirror_38 : decode cX11_mirror 38 = .ok (.iaload, 1) := by decide +kernel
theorem dX11_mirror_39 : decode cX11_mirror 39 = .ok (.isub, 1) := by decide +kernel
theorem dX11_mirror_40 : decode cX11_mirror 40 = .ok (.iastore, 1) := by decide +kernel
theorem dX11_mirror_41 : decode cX11_mirror 41 = .ok (.aload_n 0, 1) := by decide +kernel
theorem dX11_mirror_42 : decode cX11_mirror 42 = .ok (.getfield 13, 3) := by decide +kernel
theorem dX11_mirror_45 : decode cX11_mirror 45 = .ok (.iload_n 1, 1) := by decide +kernel
theorem dX11_mirror_46 : decode cX11_mirror 46 = .ok (.aload_n 0, 1) := by decide +kernel
theorem dX11_mirror_47 : decode cX11_mirror 47 = .ok (.getfield 74, 3) := by decide +kernel
theorem dX11_mirror_50 : decode cX11_mirror 50 = .ok (.iconst 1, 1) := by decide +kernel
theorem dX11_mirror_51 : decode cX11_mirror 51 = .ok (.isub, 1) := by decide +kernel
theorem dX11_mirror_52 : decode cX11_mirror 52 = .ok (.iload_n 2, 1) := by decide +kernel
theorem dX11_mirror_53 : decode cX11_mirror 53 = .ok (.isub, 1) := by decide +kernel
theorem dX11_mirror_54 : decode cX11_mirror 54 = .ok (.iastore, 1) := by decide +kernel
theorem dX11_mirror_55 : decode cX11_mirror 55 = .ok (.iinc 1 1, 3) := by decide +kernel
theorem dX11_mirror_58 : decode cX11_mirror 58 = .ok (.goto (-51), 3) := by decide +kernel
theorem dX11_mirror_61 : decode cX11_mirror 61 = .ok (.aload_n 0, 1) := by decide +kernel
theorem dX11_mirror_62 : decode cX11_mirror 62 = .ok (.invokevirtual 91, 3) := by decide +kernel
theorem dX11_mirror_65 : decode cX11_mirror 65 = .ok (.return_, 1) := by decide +kernel
theorem dX11_renamed_0 : decode cX11_renamed 0 = .ok (.iload_n 0, 1) := by decide +kernel
theorem dX11_renamed_1 : decode cX11_renamed 1 = .ok (.iload_n 1, 1) := by decide +kernel
theorem dX11_renamed_2 : decode cX11_renamed 2 = .ok (.if_icmp .ne 7, 3) := by decide +kernel
theorem dX11_renamed_5 : decode cX11_renamed 5 = .ok (.iload_n 2, 1) := by decide +kernel
theorem dX11_renamed_6 : decode cX11_renamed 6 = .ok (.goto 13, 3) := by decide +kernel
theorem dX11_renamed_9 : decode cX11_renamed 9 = .ok (.iload_n 0, 1) := by decide +kernel
theorem dX11_renamed_10 : decode cX11_renamed 10 = .ok (.iload_n 2, 1) := by decide +kernel
theorem dX11_renamed_11 : decode cX11_renamed 11 = .ok (.if_icmp .ne 7, 3) := by decide +kernel
theorem dX11_renamed_14 : decode cX11_renamed 14 = .ok (.iload_n 1, 1) := by decide +kernel
theorem dX11_renamed_15 : decode cX11_renamed 15 = .ok (.goto 4, 3) := by decide +kernel
theorem dX11_renamed_18 : decode cX11_renamed 18 = .ok (.iload_n 0, 1) := by decide +kernel
theorem dX11_renamed_19 : decode cX11_renamed 19 = .ok (.ireturn, 1) := by decide +kernel
theorem dX11_untangle_0 : decode cX11_untangle 0 = .ok (.aload_n 0, 1) := by decide +kernel
theorem dX11_untangle_1 : decode cX11_untangle 1 = .ok (.iconst 0, 1) := by decide +kernel
theorem dX11_untangle_2 : decode cX11_untangle 2 = .ok (.putfield 70, 3) := by decide +kernel
theorem dX11_untangle_5 : decode cX11_untangle 5 = .ok (.iconst 0, 1) := by decide +kernel
theorem dX11_untangle_6 : decode cX11_untangle 6 = .ok (.istore_n 1, 1) := by decide +kernel
theorem dX11_untangle_7 : decode cX11_untangle 7 = .ok (.iconst 0, 1) := by decide +kernel
theorem dX11_untangle_8 : decode cX11_untangle 8 = .ok (.istore_n 2, 1) := by decide +kernel
theorem dX11_untangle_9 : decode cX11_untangle 9 = .ok (.iload_n 2, 1) := by decide +kernel
theorem dX11_untangle_10 : decode cX11_untangle 10 = .ok (.aload_n 0, 1) := by decide +kernel
theorem dX11_untangle_11 : decode cX11_untangle 11 = .ok (.getfield 81, 3) := by decide +kernel
theorem dX11_untangle_14 : decode cX11_untangle 14 = .ok (.if_icmp .ge 91, 3) := by decide +kernel
theorem dX11_untangle_17 : decode cX11_untangle 17 = .ok (.aload_n 0, 1) := by decide +kernel
theorem dX11_untangle_18 : decode cX11_untangle 18 = .ok (.getfield 7, 3) := by decide +kernel
theorem dX11_untangle_21 : decode cX11_untangle 21 = .ok (.iload_n 2, 1) := by decide +kernel
theorem dX11_untangle_22 : decode cX11_untangle 22 = .ok (.iaload, 1) := by decide +kernel
theorem dX11_untangle_23 : decode cX11_untangle 23 = .ok (.istore_n 3, 1) := by decide +kernel
theorem dX11_untangle_24 : decode cX11_untangle 24 = .ok (.aload_n 0, 1) := by decide +kernel
theorem dX11_untangle_25 : decode cX11_untangle 25 = .ok (.getfield 13, 3) := by decide +kernel
theorem dX11_untangle_28 : decode cX11_untangle 28 = .ok (.iload_n 2, 1) := by decide +kernel
theorem dX11_untangle_29 : decode cX11_untangle 29 = .ok (.iaload, 1) := by decide +kernel
theorem dX11_untangle_30 : decode cX11_untangle 30 = .ok (.istore 4, 2) := by decide +kernel
theorem dX11_untangle_32 : decode cX11_untangle 32 = .ok (.iload_n 3, 1) := by decide +kernel
theorem dX11_untangle_33 : decode cX11_untangle 33 = .ok (.iload 4, 2) := by decide +kernel
theorem dX11_untangle_35 : decode cX11_untangle 35 = .ok (.if_icmp .le 64, 3) := by decide +kernel
theorem dX11_untangle_38 : decode cX11_untangle 38 = .ok (.iinc 1 1, 3) := by decide +kernel
theorem dX11_untangle_41 : decode cX11_untangle 41 = .ok (.iload_n 2, 1) := by decide +kernel
theorem dX11_untangle_42 : decode cX11_untangle 42 = .ok (.istore 5, 2) := by decide +kernel
theorem dX11_untangle_44 : decode cX11_untangle 44 = .ok (.iload 5, 2) := by decide +kernel
theorem dX11_untangle_46 : decode cX11_untangle 46 = .ok (.aload_n 0, 1) := by decide +kernel
theorem dX11_untangle_47 : decode cX11_untangle 47 = .ok (.getfield 81, 3) := by decide +kernel
theorem dX11_untangle_50 : decode cX11_untangle 50 = .ok (.if_icmp .ge 49, 3) := by decide +kernel
theorem dX11_untangle_53 : decode cX11_untangle 53 = .ok (.aload_n 0, 1) := by decide +kernel
theorem dX11_untangle_54 : decode cX11_untangle 54 = .ok (.getfield 7, 3) := by decide +kernel
theorem dX11_untangle_57 : decode cX11_untangle 57 = .ok (.iload 5, 2) := by decide +kernel
theorem dX11_untangle_59 : decode cX11_untangle 59 = .ok (.aload_n 0, 1) := by decide +kernel
theorem dX11_untangle_60 : decode cX11_untangle 60 = .ok (.getfield 7, 3) := by decide +kernel
theorem dX11_untangle_63 : decode cX11_untangle 63 = .ok (.iload 5, 2) := by decide +kernel
theorem dX11_untangle_65 : decode cX11_untangle 65 = .ok (.iaload, 1) := by decide +kernel
theorem dX11_untangle_66 : decode cX11_untangle 66 = .ok (.iload_n 3, 1) := by decide +kernel
theorem dX11_untangle_67 : decode cX11_untangle 67 = .ok (.iload 4, 2) := by decide +kernel
theorem dX11_untangle_69 : decode cX11_untangle 69 = .ok (.invokestatic 120, 3) := by decide +kernel
theorem dX11_untangle_72 : decode cX11_untangle 72 = .ok (.iastore, 1) := by decide +kernel
theorem dX11_untangle_73 : decode cX11_untangle 73 = .ok (.aload_n 0, 1) := by decide +kernel
theorem dX11_untangle_74 : decode cX11_untangle 74 = .ok (.getfield 13, 3) := by decide +kernel
theorem dX11_untangle_77 : decode cX11_untangle 77 = .ok (.iload 5, 2) := by decide +kernel
theorem dX11_untangle_79 : decode cX11_untangle 79 = .ok (.aload_n 0, 1) := by decide +kernel
theorem dX11_untangle_80 : decode cX11_untangle 80 = .ok (.getfield 13, 3) := by decide +kernel
theorem dX11_untangle_83 : decode cX11_untangle 83 = .ok (.iload 5, 2) := by decide +kernel
theorem dX11_untangle_85 : decode cX11_untangle 85 = .ok (.iaload, 1) := by decide +kernel
theorem dX11_untangle_86 : decode cX11_untangle 86 = .ok (.iload_n 3, 1) := by decide +kernel
theorem dX11_untangle_87 : decode cX11_untangle 87 = .ok (.iload 4, 2) := by decide +kernel
theorem dX11_untangle_89 : decode cX11_untangle 89 = .ok (.invokestatic 120, 3) := by decide +kernel
theorem dX11_untangle_92 : decode cX11_untangle 92 = .ok (.iastore, 1) := by decide +kernel
theorem dX11_untangle_93 : decode cX11_untangle 93 = .ok (.iinc 5 1, 3) := by decide +kernel
theorem dX11_untangle_96 : decode cX11_untangle 96 = .ok (.goto (-52), 3) := by decide +kernel
theorem dX11_untangle_99 : decode cX11_untangle 99 = .ok (.iinc 2 1, 3) := by decide +kernel
theorem dX11_untangle_102 : decode cX11_untangle 102 = .ok (.goto (-93), 3) := by decide +kernel
theorem dX11_untangle_105 : decode cX11_untangle 105 = .ok (.aload_n 0, 1) := by decide +kernel
theorem dX11_untangle_106 : decode cX11_untangle 106 = .ok (.invokevirtual 91, 3) := by decide +kernel
theorem dX11_untangle_109 : decode cX11_untangle 109 = .ok (.iload_n 1, 1) := by decide +kernel
theorem dX11_untangle_110 : decode cX11_untangle 110 = .ok (.ireturn, 1) := by decide +kernel
theorem dX11_often_0 : decode cX11_often 0 = .ok (.iconst 0, 1) := by decide +kernel
theorem dX11_often_1 : decode cX11_often 1 = .ok (.istore_n 2, 1) := by decide +kernel
theorem dX11_often_2 : decode cX11_often 2 = .ok (.iconst 0, 1) := by decide +kernel
theorem dX11_often_3 : decode cX11_often 3 = .ok (.istore_n 3, 1) := by decide +kernel
theorem dX11_often_4 : decode cX11_often 4 = .ok (.iload_n 3, 1) := by decide +kernel
theorem dX11_often_5 : decode cX11_often 5 = .ok (.iconst 1, 1) := by decide +kernel
theorem dX11_often_6 : decode cX11_often 6 = .ok (.aload_n 0, 1) := by decide +kernel
theorem dX11_often_7 : decode cX11_often 7 = .ok (.getfield 74, 3) := by decide +kernel
theorem dX11_often_10 : decode cX11_often 10 = .ok (.ishl, 1) := by decide +kernel
theorem dX11_often_11 : decode cX11_often 11 = .ok (.if_icmp .ge 56, 3) := by decide +kernel
theorem dX11_often_14 : decode cX11_often 14 = .ok (.aload_n 0, 1) := by decide +kernel
theorem dX11_often_15 : decode cX11_often 15 = .ok (.iload_n 3, 1) := by decide +kernel
theorem dX11_often_16 : decode cX11_often 16 = .ok (.iload_n 1, 1) := by decide +kernel
theorem dX11_often_17 : decode cX11_often 17 = .ok (.iconst (-1), 1) := by decide +kernel
theorem dX11_often_18 : decode cX11_often 18 = .ok (.iconst 0, 1) := by decide +kernel
theorem dX11_often_19 : decode cX11_often 19 = .ok (.invokevirtual 124, 3) := by decide +kernel
theorem dX11_often_22 : decode cX11_often 22 = .ok (.istore 4, 2) := by decide +kernel
theorem dX11_often_24 : decode cX11_often 24 = .ok (.iload_n 2, 1) := by decide +kernel
theorem dX11_often_25 : decode cX11_often 25 = .ok (.iload 4, 2) := by decide +kernel
theorem dX11_often_27 : decode cX11_often 27 = .ok (.aload_n 0, 1) := by decide +kernel
theorem dX11_often_28 : decode cX11_often 28 = .ok (.getfield 7, 3) := by decide +kernel
theorem dX11_often_31 : decode cX11_often 31 = .ok (.iload_n 1, 1) := by decide +kernel
theorem dX11_often_32 : decode cX11_often 32 = .ok (.iaload, 1) := by decide +kernel
theorem dX11_often_33 : decode cX11_often 33 = .ok (.ishr, 1) := by decide +kernel
theorem dX11_often_34 : decode cX11_often 34 = .ok (.iconst 1, 1) := by decide +kernel
theorem dX11_often_35 : decode cX11_often 35 = .ok (.iand, 1) := by decide +kernel
theorem dX11_often_36 : decode cX11_often 36 = .ok (.iconst 1, 1) := by decide +kernel
theorem dX11_often_37 : decode cX11_often 37 = .ok (.if_icmp .ne 21, 3) := by decide +kernel
theorem dX11_often_40 : decode cX11_often 40 = .ok (.iload 4, 2) := by decide +kernel
theorem dX11_often_42 : decode cX11_often 42 = .ok (.aload_n 0, 1) := by decide +kernel
theorem dX11_often_43 : decode cX11_often 43 = .ok (.getfield 13, 3) := by decide +kernel
theorem dX11_often_46 : decode cX11_often 46 = .ok (.iload_n 1, 1) := by decide +kernel
theorem dX11_often_47 : decode cX11_often 47 = .ok (.iaload, 1) := by decide +kernel
theorem dX11_often_48 : decode cX11_often 48 = .ok (.ishr, 1) := by decide +kernel
theorem dX11_often_49 : decode cX11_often 49 = .ok (.iconst 1, 1) := by decide +kernel
theorem dX11_often_50 : decode cX11_often 50 = .ok (.iand, 1) := by decide +kernel
theorem dX11_often_51 : decode cX11_often 51 = .ok (.ifCond .ne 7, 3) := by decide +kernel
theorem dX11_often_54 : decode cX11_often 54 = .ok (.iconst 1, 1) := by decide +kernel
theorem dX11_often_55 : decode cX11_often 55 = .ok (.goto 4, 3) := by decide +kernel
theorem dX11_often_58 : decode cX11_often 58 = .ok (.iconst 0, 1) := by decide +kernel
theorem dX11_often_59 : decode cX11_often 59 = .ok (.iadd, 1) := by decide +kernel
theorem dX11_often_60 : decode cX11_often 60 = .ok (.istore_n 2, 1) := by decide +kernel
theorem dX11_often_61 : decode cX11_often 61 = .ok (.iinc 3 1, 3) := by decide +kernel
theorem dX11_often_64 : decode cX11_often 64 = .ok (.goto (-60), 3) := by decide +kernel
theorem dX11_often_67 : decode cX11_often 67 = .ok (.iload_n 2, 1) := by decide +kernel
theorem dX11_often_68 : decode cX11_often 68 = .ok (.ireturn, 1) := by decide +kernel
theorem dX11_through_0 : decode cX11_through 0 = .ok (.iload_n 1, 1) := by decide +kernel
theorem dX11_through_1 : decode cX11_through 1 = .ok (.istore 5, 2) := by decide +kernel
theorem dX11_through_3 : decode cX11_through 3 = .ok (.iconst 0, 1) := by decide +kernel
theorem dX11_through_4 : decode cX11_through 4 = .ok (.istore 6, 2) := by decide +kernel
theorem dX11_through_6 : decode cX11_through 6 = .ok (.iload 6, 2) := by decide +kernel
theorem dX11_through_8 : decode cX11_through 8 = .ok (.iload_n 2, 1) := by decide +kernel
theorem dX11_through_9 : decode cX11_through 9 = .ok (.if_icmp .ge 124, 3) := by decide +kernel
theorem dX11_through_12 : decode cX11_through 12 = .ok (.iload 5, 2) := by decide +kernel
theorem dX11_through_14 : decode cX11_through 14 = .ok (.aload_n 0, 1) := by decide +kernel
theorem dX11_through_15 : decode cX11_through 15 = .ok (.getfield 7, 3) := by decide +kernel
theorem dX11_through_18 : decode cX11_through 18 = .ok (.iload 6, 2) := by decide +kernel
theorem dX11_through_20 : decode cX11_through 20 = .ok (.iaload, 1) := by decide +kernel
theorem dX11_through_21 : decode cX11_through 21 = .ok (.ishr, 1) := by decide +kernel
theorem dX11_through_22 : decode cX11_through 22 = .ok (.iconst 1, 1) := by decide +kernel
theorem dX11_through_23 : decode cX11_through 23 = .ok (.iand, 1) := by decide +kernel
theorem dX11_through_24 : decode cX11_through 24 = .ok (.istore 7, 2) := by decide +kernel
theorem dX11_through_26 : decode cX11_through 26 = .ok (.iload 5, 2) := by decide +kernel
theorem dX11_through_28 : decode cX11_through 28 = .ok (.aload_n 0, 1) := by decide +kernel
theorem dX11_through_29 : decode cX11_through 29 = .ok (.getfield 13, 3) := by decide +kernel
theorem dX11_through_32 : decode cX11_through 32 = .ok (.iload 6, 2) := by decide +kernel
theorem dX11_through_34 : decode cX11_through 34 = .ok (.iaload, 1) := by decide +kernel
theorem dX11_through_35 : decode cX11_through 35 = .ok (.ishr, 1) := by decide +kernel
theorem dX11_through_36 : decode cX11_through 36 = .ok (.iconst 1, 1) := by decide +kernel
theorem dX11_through_37 : decode cX11_through 37 = .ok (.iand, 1) := by decide +kernel
theorem dX11_through_38 : decode cX11_through 38 = .ok (.istore 8, 2) := by decide +kernel
theorem dX11_through_40 : decode cX11_through 40 = .ok (.iload 6, 2) := by decide +kernel
theorem dX11_through_42 : decode cX11_through 42 = .ok (.iload_n 3, 1) := by decide +kernel
theorem dX11_through_43 : decode cX11_through 43 = .ok (.if_icmp .eq 18, 3) := by decide +kernel
theorem dX11_through_46 : decode cX11_through 46 = .ok (.iload 7, 2) := by decide +kernel
theorem dX11_through_48 : decode cX11_through 48 = .ok (.iload 8, 2) := by decide +kernel
theorem dX11_through_50 : decode cX11_through 50 = .ok (.if_icmp .le 7, 3) := by decide +kernel
theorem dX11_through_53 : decode cX11_through 53 = .ok (.iconst 1, 1) := by decide +kernel
theorem dX11_through_54 : decode cX11_through 54 = .ok (.goto 31, 3) := by decide +kernel
theorem dX11_through_57 : decode cX11_through 57 = .ok (.iconst 0, 1) := by decide +kernel
theorem dX11_through_58 : decode cX11_through 58 = .ok (.goto 27, 3) := by decide +kernel
theorem dX11_through_61 : decode cX11_through 61 = .ok (.iload 4, 2) := by decide +kernel
theorem dX11_through_63 : decode cX11_through 63 = .ok (.iconst 1, 1) := by decide +kernel
theorem dX11_through_64 : decode cX11_through 64 = .ok (.if_icmp .eq 16, 3) := by decide +kernel
theorem dX11_through_67 : decode cX11_through 67 = .ok (.iload 4, 2) := by decide +kernel
theorem dX11_through_69 : decode cX11_through 69 = .ok (.iconst 2, 1) := by decide +kernel
theorem dX11_through_70 : decode cX11_through 70 = .ok (.if_icmp .ne 14, 3) := by decide +kernel
theorem dX11_through_73 : decode cX11_through 73 = .ok (.iload 7, 2) := by decide +kernel
theorem dX11_through_75 : decode cX11_through 75 = .ok (.iload 8, 2) := by decide +kernel
theorem dX11_through_77 : decode cX11_through 77 = .ok (.if_icmp .ge 7, 3) := by decide +kernel
theorem dX11_through_80 : decode cX11_through 80 = .ok (.iconst 1, 1) := by decide +kernel
theorem dX11_through_81 : decode cX11_through 81 = .ok (.goto 4, 3) := by decide +kernel
theorem dX11_through_84 : decode cX11_through 84 = .ok (.iconst 0, 1) := by decide +kernel
theorem dX11_through_85 : decode cX11_through 85 = .ok (.istore 9, 2) := by decide +kernel
theorem dX11_through_87 : decode cX11_through 87 = .ok (.iload 5, 2) := by decide +kernel
theorem dX11_through_89 : decode cX11_through 89 = .ok (.iload 9, 2) := by decide +kernel
theorem dX11_through_91 : decode cX11_through 91 = .ok (.ifCond .eq 32, 3) := by decide +kernel
theorem dX11_through_94 : decode cX11_through 94 = .ok (.iload 7, 2) := by decide +kernel
theorem dX11_through_96 : decode cX11_through 96 = .ok (.iload 8, 2) := by decide +kernel
theorem dX11_through_98 : decode cX11_through 98 = .ok (.if_icmp .eq 25, 3) := by decide +kernel
theorem dX11_through_101 : decode cX11_through 101 = .ok (.iconst 1, 1) := by decide +kernel
theorem dX11_through_102 : decode cX11_through 102 = .ok (.aload_n 0, 1) := by decide +kernel
theorem dX11_through_103 : decode cX11_through 103 = .ok (.getfield 7, 3) := by decide +kernel
theorem dX11_through_106 : decode cX11_through 106 = .ok (.iload 6, 2) := by decide +kernel
theorem dX11_through_108 : decode cX11_through 108 = .ok (.iaload, 1) := by decide +kernel
theorem dX11_through_109 : decode cX11_through 109 = .ok (.ishl, 1) := by decide +kernel
theorem dX11_through_110 : decode cX11_through 110 = .ok (.iconst 1, 1) := by decide +kernel
theorem dX11_through_111 : decode cX11_through 111 = .ok (.aload_n 0, 1) := by decide +kernel
theorem dX11_through_112 : decode cX11_through 112 = .ok (.getfield 13, 3) := by decide +kernel
theorem dX11_through_115 : decode cX11_through 115 = .ok (.iload 6, 2) := by decide +kernel
theorem dX11_through_117 : decode cX11_through 117 = .ok (.iaload, 1) := by decide +kernel
theorem dX11_through_118 : decode cX11_through 118 = .ok (.ishl, 1) := by decide +kernel
theorem dX11_through_119 : decode cX11_through 119 = .ok (.ior, 1) := by decide +kernel
theorem dX11_through_120 : decode cX11_through 120 = .ok (.goto 4, 3) := by decide +kernel
theorem dX11_through_123 : decode cX11_through 123 = .ok (.iconst 0, 1) := by decide +kernel
theorem dX11_through_124 : decode cX11_through 124 = .ok (.ixor, 1) := by decide +kernel
theorem dX11_through_125 : decode cX11_through 125 = .ok (.istore 5, 2) := by decide +kernel
theorem dX11_through_127 : decode cX11_through 127 = .ok (.iinc 6 1, 3) := by decide +kernel
theorem dX11_through_130 : decode cX11_through 130 = .ok (.goto (-124), 3) := by decide +kernel
theorem dX11_through_133 : decode cX11_through 133 = .ok (.iload 5, 2) := by decide +kernel
theorem dX11_through_135 : decode cX11_through 135 = .ok (.ireturn, 1) := by decide +kernel
theorem dX11_prune_0 : decode cX11_prune 0 = .ok (.aload_n 0, 1) := by decide +kernel
theorem dX11_prune_1 : decode cX11_prune 1 = .ok (.iconst 0, 1) := by decide +kernel
theorem dX11_prune_2 : decode cX11_prune 2 = .ok (.putfield 70, 3) := by decide +kernel
theorem dX11_prune_5 : decode cX11_prune 5 = .ok (.iconst 0, 1) := by decide +kernel
theorem dX11_prune_6 : decode cX11_prune 6 = .ok (.istore_n 1, 1) := by decide +kernel
theorem dX11_prune_7 : decode cX11_prune 7 = .ok (.iload_n 1, 1) := by decide +kernel
theorem dX11_prune_8 : decode cX11_prune 8 = .ok (.aload_n 0, 1) := by decide +kernel
theorem dX11_prune_9 : decode cX11_prune 9 = .ok (.getfield 81, 3) := by decide +kernel
theorem dX11_prune_12 : decode cX11_prune 12 = .ok (.if_icmp .ge 20, 3) := by decide +kernel
theorem dX11_prune_15 : decode cX11_prune 15 = .ok (.aload_n 0, 1) := by decide +kernel
theorem dX11_prune_16 : decode cX11_prune 16 = .ok (.getfield 28, 3) := by decide +kernel
theorem dX11_prune_19 : decode cX11_prune 19 = .ok (.iload_n 1, 1) := by decide +kernel
theorem dX11_prune_20 : decode cX11_prune 20 = .ok (.aload_n 0, 1) := by decide +kernel
theorem dX11_prune_21 : decode cX11_prune 21 = .ok (.iload_n 1, 1) := by decide +kernel
theorem dX11_prune_22 : decode cX11_prune 22 = .ok (.invokevirtual 128, 3) := by decide +kernel
theorem dX11_prune_25 : decode cX11_prune 25 = .ok (.iastore, 1) := by decide +kernel
theorem dX11_prune_26 : decode cX11_prune 26 = .ok (.iinc 1 1, 3) := by decide +kernel
theorem dX11_prune_29 : decode cX11_prune 29 = .ok (.goto (-22), 3) := by decide +kernel
theorem dX11_prune_32 : decode cX11_prune 32 = .ok (.iconst 0, 1) := by decide +kernel
theorem dX11_prune_33 : decode cX11_prune 33 = .ok (.istore_n 1, 1) := by decide +kernel
theorem dX11_prune_34 : decode cX11_prune 34 = .ok (.iconst 0, 1) := by decide +kernel
theorem dX11_prune_35 : decode cX11_prune 35 = .ok (.istore_n 2, 1) := by decide +kernel
theorem dX11_prune_36 : decode cX11_prune 36 = .ok (.iload_n 2, 1) := by decide +kernel
theorem dX11_prune_37 : decode cX11_prune 37 = .ok (.aload_n 0, 1) := by decide +kernel
theorem dX11_prune_38 : decode cX11_prune 38 = .ok (.getfield 81, 3) := by decide +kernel
theorem dX11_prune_41 : decode cX11_prune 41 = .ok (.if_icmp .ge 45, 3) := by decide +kernel
theorem dX11_prune_44 : decode cX11_prune 44 = .ok (.aload_n 0, 1) := by decide +kernel
theorem dX11_prune_45 : decode cX11_prune 45 = .ok (.getfield 28, 3) := by decide +kernel
theorem dX11_prune_48 : decode cX11_prune 48 = .ok (.iload_n 2, 1) := by decide +kernel
theorem dX11_prune_49 : decode cX11_prune 49 = .ok (.iaload, 1) := by decide +kernel
theorem dX11_prune_50 : decode cX11_prune 50 = .ok (.ifCond .le 30, 3) := by decide +kernel
theorem dX11_prune_53 : decode cX11_prune 53 = .ok (.aload_n 0, 1) := by decide +kernel
theorem dX11_prune_54 : decode cX11_prune 54 = .ok (.getfield 7, 3) := by decide +kernel
theorem dX11_prune_57 : decode cX11_prune 57 = .ok (.iload_n 1, 1) := by decide +kernel
theorem dX11_prune_58 : decode cX11_prune 58 = .ok (.aload_n 0, 1) := by decide +kernel
theorem dX11_prune_59 : decode cX11_prune 59 = .ok (.getfield 7, 3) := by decide +kernel
theorem dX11_prune_62 : decode cX11_prune 62 = .ok (.iload_n 2, 1) := by decide +kernel
theorem dX11_prune_63 : decode cX11_prune 63 = .ok (.iaload, 1) := by decide +kernel
theorem dX11_prune_64 : decode cX11_prune 64 = .ok (.iastore, 1) := by decide +kernel
theorem dX11_prune_65 : decode cX11_prune 65 = .ok (.aload_n 0, 1) := by decide +kernel
theorem dX11_prune_66 : decode cX11_prune 66 = .ok (.getfield 13, 3) := by decide +kernel
theorem dX11_prune_69 : decode cX11_prune 69 = .ok (.iload_n 1, 1) := by decide +kernel
theorem dX11_prune_70 : decode cX11_prune 70 = .ok (.aload_n 0, 1) := by decide +kernel
theorem dX11_prune_71 : decode cX11_prune 71 = .ok (.getfield 13, 3) := by decide +kernel
theorem dX11_prune_74 : decode cX11_prune 74 = .ok (.iload_n 2, 1) := by decide +kernel
theorem dX11_prune_75 : decode cX11_prune 75 = .ok (.iaload, 1) := by decide +kernel
theorem dX11_prune_76 : decode cX11_prune 76 = .ok (.iastore, 1) := by decide +kernel
theorem dX11_prune_77 : decode cX11_prune 77 = .ok (.iinc 1 1, 3) := by decide +kernel
theorem dX11_prune_80 : decode cX11_prune 80 = .ok (.iinc 2 1, 3) := by decide +kernel
theorem dX11_prune_83 : decode cX11_prune 83 = .ok (.goto (-47), 3) := by decide +kernel
theorem dX11_prune_86 : decode cX11_prune 86 = .ok (.aload_n 0, 1) := by decide +kernel
theorem dX11_prune_87 : decode cX11_prune 87 = .ok (.getfield 81, 3) := by decide +kernel
theorem dX11_prune_90 : decode cX11_prune 90 = .ok (.iload_n 1, 1) := by decide +kernel
theorem dX11_prune_91 : decode cX11_prune 91 = .ok (.isub, 1) := by decide +kernel
theorem dX11_prune_92 : decode cX11_prune 92 = .ok (.istore_n 2, 1) := by decide +kernel
theorem dX11_prune_93 : decode cX11_prune 93 = .ok (.aload_n 0, 1) := by decide +kernel
theorem dX11_prune_94 : decode cX11_prune 94 = .ok (.iload_n 1, 1) := by decide +kernel
theorem dX11_prune_95 : decode cX11_prune 95 = .ok (.putfield 81, 3) := by decide +kernel
theorem dX11_prune_98 : decode cX11_prune 98 = .ok (.aload_n 0, 1) := by decide +kernel
theorem dX11_prune_99 : decode cX11_prune 99 = .ok (.invokevirtual 91, 3) := by decide +kernel
theorem dX11_prune_102 : decode cX11_prune 102 = .ok (.iload_n 2, 1) := by decide +kernel
theorem dX11_prune_103 : decode cX11_prune 103 = .ok (.ireturn, 1) := by decide +kernel
theorem dX11_laysLayers_0 : decode cX11_laysLayers 0 = .ok (.iconst 0, 1) := by decide +kernel
theorem dX11_laysLayers_1 : decode cX11_laysLayers 1 = .ok (.istore_n 1, 1) := by decide +kernel
theorem dX11_laysLayers_2 : decode cX11_laysLayers 2 = .ok (.iconst 0, 1) := by decide +kernel
theorem dX11_laysLayers_3 : decode cX11_laysLayers 3 = .ok (.istore_n 2, 1) := by decide +kernel
theorem dX11_laysLayers_4 : decode cX11_laysLayers 4 = .ok (.iload_n 2, 1) := by decide +kernel
theorem dX11_laysLayers_5 : decode cX11_laysLayers 5 = .ok (.aload_n 0, 1) := by decide +kernel
theorem dX11_laysLayers_6 : decode cX11_laysLayers 6 = .ok (.getfield 81, 3) := by decide +kernel
theorem dX11_laysLayers_9 : decode cX11_laysLayers 9 = .ok (.if_icmp .ge 162, 3) := by decide +kernel
theorem dX11_laysLayers_12 : decode cX11_laysLayers 12 = .ok (.aload_n 0, 1) := by decide +kernel
theorem dX11_laysLayers_13 : decode cX11_laysLayers 13 = .ok (.getfield 16, 3) := by decide +kernel
theorem dX11_laysLayers_16 : decode cX11_laysLayers 16 = .ok (.iload_n 2, 1) := by decide +kernel
theorem dX11_laysLayers_17 : decode cX11_laysLayers 17 = .ok (.iconst 0, 1) := by decide +kernel
theorem dX11_laysLayers_18 : decode cX11_laysLayers 18 = .ok (.iastore, 1) := by decide +kernel
theorem dX11_laysLayers_19 : decode cX11_laysLayers 19 = .ok (.iconst 0, 1) := by decide +kernel
theorem dX11_laysLayers_20 : decode cX11_laysLayers 20 = .ok (.istore_n 3, 1) := by decide +kernel
theorem dX11_laysLayers_21 : decode cX11_laysLayers 21 = .ok (.iload_n 3, 1) := by decide +kernel
theorem dX11_laysLayers_22 : decode cX11_laysLayers 22 = .ok (.iload_n 2, 1) := by decide +kernel
theorem dX11_laysLayers_23 : decode cX11_laysLayers 23 = .ok (.if_icmp .ge 119, 3) := by decide +kernel
theorem dX11_laysLayers_26 : decode cX11_laysLayers 26 = .ok (.aload_n 0, 1) := by decide +kernel
theorem dX11_laysLayers_27 : decode cX11_laysLayers 27 = .ok (.getfield 7, 3) := by decide +kernel
theorem dX11_laysLayers_30 : decode cX11_laysLayers 30 = .ok (.iload_n 3, 1) := by decide +kernel
theorem dX11_laysLayers_31 : decode cX11_laysLayers 31 = .ok (.iaload, 1) := by decide +kernel
theorem dX11_laysLayers_32 : decode cX11_laysLayers 32 = .ok (.aload_n 0, 1) := by decide +kernel
theorem dX11_laysLayers_33 : decode cX11_laysLayers 33 = .ok (.getfield 7, 3) := by decide +kernel
theorem dX11_laysLayers_36 : decode cX11_laysLayers 36 = .ok (.iload_n 2, 1) := by decide +kernel
theorem dX11_laysLayers_37 : decode cX11_laysLayers 37 = .ok (.iaload, 1) := by decide +kernel
theorem dX11_laysLayers_38 : decode cX11_laysLayers 38 = .ok (.if_icmp .eq 48, 3) := by decide +kernel
theorem dX11_laysLayers_41 : decode cX11_laysLayers 41 = .ok (.aload_n 0, 1) := by decide +kernel
theorem dX11_laysLayers_42 : decode cX11_laysLayers 42 = .ok (.getfield 7, 3) := by decide +kernel
theorem dX11_laysLayers_45 : decode cX11_laysLayers 45 = .ok (.iload_n 3, 1) := by decide +kernel
theorem dX11_laysLayers_46 : decode cX11_laysLayers 46 = .ok (.iaload, 1) := by decide +kernel
theorem dX11_laysLayers_47 : decode cX11_laysLayers 47 = .ok (.aload_n 0, 1) := by decide +kernel
theorem dX11_laysLayers_48 : decode cX11_laysLayers 48 = .ok (.getfield 13, 3) := by decide +kernel
theorem dX11_laysLayers_51 : decode cX11_laysLayers 51 = .ok (.iload_n 2, 1) := by decide +kernel
theorem dX11_laysLayers_52 : decode cX11_laysLayers 52 = .ok (.iaload, 1) := by decide +kernel
theorem dX11_laysLayers_53 : decode cX11_laysLayers 53 = .ok (.if_icmp .eq 33, 3) := by decide +kernel
theorem dX11_laysLayers_56 : decode cX11_laysLayers 56 = .ok (.aload_n 0, 1) := by decide +kernel
theorem dX11_laysLayers_57 : decode cX11_laysLayers 57 = .ok (.getfield 13, 3) := by decide +kernel
theorem dX11_laysLayers_60 : decode cX11_laysLayers 60 = .ok (.iload_n 3, 1) := by decide +kernel
theorem dX11_laysLayers_61 : decode cX11_laysLayers 61 = .ok (.iaload, 1) := by decide +kernel
theorem dX11_laysLayers_62 : decode cX11_laysLayers 62 = .ok (.aload_n 0, 1) := by decide +kernel
theorem dX11_laysLayers_63 : decode cX11_laysLayers 63 = .ok (.getfield 7, 3) := by decide +kernel
theorem dX11_laysLayers_66 : decode cX11_laysLayers 66 = .ok (.iload_n 2, 1) := by decide +kernel
theorem dX11_laysLayers_67 : decode cX11_laysLayers 67 = .ok (.iaload, 1) := by decide +kernel
theorem dX11_laysLayers_68 : decode cX11_laysLayers 68 = .ok (.if_icmp .eq 18, 3) := by decide +kernel
theorem dX11_laysLayers_71 : decode cX11_laysLayers 71 = .ok (.aload_n 0, 1) := by decide +kernel
theorem dX11_laysLayers_72 : decode cX11_laysLayers 72 = .ok (.getfield 13, 3) := by decide +kernel
theorem dX11_laysLayers_75 : decode cX11_laysLayers 75 = .ok (.iload_n 3, 1) := by decide +kernel
theorem dX11_laysLayers_76 : decode cX11_laysLayers 76 = .ok (.iaload, 1) := by decide +kernel
theorem dX11_laysLayers_77 : decode cX11_laysLayers 77 = .ok (.aload_n 0, 1) := by decide +kernel
theorem dX11_laysLayers_78 : decode cX11_laysLayers 78 = .ok (.getfield 13, 3) := by decide +kernel
theorem dX11_laysLayers_81 : decode cX11_laysLayers 81 = .ok (.iload_n 2, 1) := by decide +kernel
theorem dX11_laysLayers_82 : decode cX11_laysLayers 82 = .ok (.iaload, 1) := by decide +kernel
theorem dX11_laysLayers_83 : decode cX11_laysLayers 83 = .ok (.if_icmp .ne 7, 3) := by decide +kernel
theorem dX11_laysLayers_86 : decode cX11_laysLayers 86 = .ok (.iconst 1, 1) := by decide +kernel
theorem dX11_laysLayers_87 : decode cX11_laysLayers 87 = .ok (.goto 4, 3) := by decide +kernel
theorem dX11_laysLayers_90 : decode cX11_laysLayers 90 = .ok (.iconst 0, 1) := by decide +kernel
theorem dX11_laysLayers_91 : decode cX11_laysLayers 91 = .ok (.istore 4, 2) := by decide +kernel
theorem dX11_laysLayers_93 : decode cX11_laysLayers 93 = .ok (.aload_n 0, 1) := by decide +kernel
theorem dX11_laysLayers_94 : decode cX11_laysLayers 94 = .ok (.getfield 16, 3) := by decide +kernel
theorem dX11_laysLayers_97 : decode cX11_laysLayers 97 = .ok (.iload_n 2, 1) := by decide +kernel
theorem dX11_laysLayers_98 : decode cX11_laysLayers 98 = .ok (.iload 4, 2) := by decide +kernel
theorem dX11_laysLayers_100 : decode cX11_laysLayers 100 = .ok (.ifCond .eq 29, 3) := by decide +kernel
theorem dX11_laysLayers_103 : decode cX11_laysLayers 103 = .ok (.aload_n 0, 1) := by decide +kernel
theorem dX11_laysLayers_104 : decode cX11_laysLayers 104 = .ok (.getfield 16, 3) := by decide +kernel
theorem dX11_laysLayers_107 : decode cX11_laysLayers 107 = .ok (.iload_n 3, 1) := by decide +kernel
theorem dX11_laysLayers_108 : decode cX11_laysLayers 108 = .ok (.iaload, 1) := by decide +kernel
theorem dX11_laysLayers_109 : decode cX11_laysLayers 109 = .ok (.aload_n 0, 1) := by decide +kernel
theorem dX11_laysLayers_110 : decode cX11_laysLayers 110 = .ok (.getfield 16, 3) := by decide +kernel
theorem dX11_laysLayers_113 : decode cX11_laysLayers 113 = .ok (.iload_n 2, 1) := by decide +kernel
theorem dX11_laysLayers_114 : decode cX11_laysLayers 114 = .ok (.iaload, 1) := by decide +kernel
theorem dX11_laysLayers_115 : decode cX11_laysLayers 115 = .ok (.if_icmp .lt 14, 3) := by decide +kernel
theorem dX11_laysLayers_118 : decode cX11_laysLayers 118 = .ok (.aload_n 0, 1) := by decide +kernel
theorem dX11_laysLayers_119 : decode cX11_laysLayers 119 = .ok (.getfield 16, 3) := by decide +kernel
theorem dX11_laysLayers_122 : decode cX11_laysLayers 122 = .ok (.iload_n 3, 1) := by decide +kernel
theorem dX11_laysLayers_123 : decode cX11_laysLayers 123 = .ok (.iaload, 1) := by decide +kernel
theorem dX11_laysLayers_124 : decode cX11_laysLayers 124 = .ok (.iconst 1, 1) := by decide +kernel
theorem dX11_laysLayers_125 : decode cX11_laysLayers 125 = .ok (.iadd, 1) := by decide +kernel
theorem dX11_laysLayers_126 : decode cX11_laysLayers 126 = .ok (.goto 9, 3) := by decide +kernel
theorem dX11_laysLayers_129 : decode cX11_laysLayers 129 = .ok (.aload_n 0, 1) := by decide +kernel
theorem dX11_laysLayers_130 : decode cX11_laysLayers 130 = .ok (.getfield 16, 3) := by decide +kernel
theorem dX11_laysLayers_133 : decode cX11_laysLayers 133 = .ok (.iload_n 2, 1) := by decide +kernel
theorem dX11_laysLayers_134 : decode cX11_laysLayers 134 = .ok (.iaload, 1) := by decide +kernel
theorem dX11_laysLayers_135 : decode cX11_laysLayers 135 = .ok (.iastore, 1) := by decide +kernel
theorem dX11_laysLayers_136 : decode cX11_laysLayers 136 = .ok (.iinc 3 1, 3) := by decide +kernel
theorem dX11_laysLayers_139 : decode cX11_laysLayers 139 = .ok (.goto (-118), 3) := by decide +kernel
theorem dX11_laysLayers_142 : decode cX11_laysLayers 142 = .ok (.aload_n 0, 1) := by decide +kernel
theorem dX11_laysLayers_143 : decode cX11_laysLayers 143 = .ok (.getfield 16, 3) := by decide +kernel
theorem dX11_laysLayers_146 : decode cX11_laysLayers 146 = .ok (.iload_n 2, 1) := by decide +kernel
theorem dX11_laysLayers_147 : decode cX11_laysLayers 147 = .ok (.iaload, 1) := by decide +kernel
theorem dX11_laysLayers_148 : decode cX11_laysLayers 148 = .ok (.iload_n 1, 1) := by decide +kernel
theorem dX11_laysLayers_149 : decode cX11_laysLayers 149 = .ok (.if_icmp .lt 14, 3) := by decide +kernel
theorem dX11_laysLayers_152 : decode cX11_laysLayers 152 = .ok (.aload_n 0, 1) := by decide +kernel
theorem dX11_laysLayers_153 : decode cX11_laysLayers 153 = .ok (.getfield 16, 3) := by decide +kernel
theorem dX11_laysLayers_156 : decode cX11_laysLayers 156 = .ok (.iload_n 2, 1) := by decide +kernel
theorem dX11_laysLayers_157 : decode cX11_laysLayers 157 = .ok (.iaload, 1) := by decide +kernel
theorem dX11_laysLayers_158 : decode cX11_laysLayers 158 = .ok (.iconst 1, 1) := by decide +kernel
theorem dX11_laysLayers_159 : decode cX11_laysLayers 159 = .ok (.iadd, 1) := by decide +kernel
theorem dX11_laysLayers_160 : decode cX11_laysLayers 160 = .ok (.goto 4, 3) := by decide +kernel
theorem dX11_laysLayers_163 : decode cX11_laysLayers 163 = .ok (.iload_n 1, 1) := by decide +kernel
theorem dX11_laysLayers_164 : decode cX11_laysLayers 164 = .ok (.istore_n 1, 1) := by decide +kernel
theorem dX11_laysLayers_165 : decode cX11_laysLayers 165 = .ok (.iinc 2 1, 3) := by decide +kernel
theorem dX11_laysLayers_168 : decode cX11_laysLayers 168 = .ok (.goto (-164), 3) := by decide +kernel
theorem dX11_laysLayers_171 : decode cX11_laysLayers 171 = .ok (.iload_n 1, 1) := by decide +kernel
theorem dX11_laysLayers_172 : decode cX11_laysLayers 172 = .ok (.ireturn, 1) := by decide +kernel
theorem dX11_lesser_0 : decode cX11_lesser 0 = .ok (.iload_n 0, 1) := by decide +kernel
theorem dX11_lesser_1 : decode cX11_lesser 1 = .ok (.iload_n 1, 1) := by decide +kernel
theorem dX11_lesser_2 : decode cX11_lesser 2 = .ok (.if_icmp .ge 7, 3) := by decide +kernel
theorem dX11_lesser_5 : decode cX11_lesser 5 = .ok (.iload_n 0, 1) := by decide +kernel
theorem dX11_lesser_6 : decode cX11_lesser 6 = .ok (.goto 4, 3) := by decide +kernel
theorem dX11_lesser_9 : decode cX11_lesser 9 = .ok (.iload_n 1, 1) := by decide +kernel
theorem dX11_lesser_10 : decode cX11_lesser 10 = .ok (.ireturn, 1) := by decide +kernel
theorem dX11_writes_0 : decode cX11_writes 0 = .ok (.aload_n 0, 1) := by decide +kernel
theorem dX11_writes_1 : decode cX11_writes 1 = .ok (.invokevirtual 131, 3) := by decide +kernel
theorem dX11_writes_4 : decode cX11_writes 4 = .ok (.istore_n 1, 1) := by decide +kernel
theorem dX11_writes_5 : decode cX11_writes 5 = .ok (.iconst 0, 1) := by decide +kernel
theorem dX11_writes_6 : decode cX11_writes 6 = .ok (.istore_n 2, 1) := by decide +kernel
theorem dX11_writes_7 : decode cX11_writes 7 = .ok (.iconst 0, 1) := by decide +kernel
theorem dX11_writes_8 : decode cX11_writes 8 = .ok (.istore_n 3, 1) := by decide +kernel
theorem dX11_writes_9 : decode cX11_writes 9 = .ok (.iload_n 3, 1) := by decide +kernel
theorem dX11_writes_10 : decode cX11_writes 10 = .ok (.iload_n 1, 1) := by decide +kernel
theorem dX11_writes_11 : decode cX11_writes 11 = .ok (.if_icmp .ge 89, 3) := by decide +kernel
theorem dX11_writes_14 : decode cX11_writes 14 = .ok (.iconst 0, 1) := by decide +kernel
theorem dX11_writes_15 : decode cX11_writes 15 = .ok (.istore 4, 2) := by decide +kernel
theorem dX11_writes_17 : decode cX11_writes 17 = .ok (.iload 4, 2) := by decide +kernel
theorem dX11_writes_19 : decode cX11_writes 19 = .ok (.aload_n 0, 1) := by decide +kernel
theorem dX11_writes_20 : decode cX11_writes 20 = .ok (.getfield 74, 3) := by decide +kernel
theorem dX11_writes_23 : decode cX11_writes 23 = .ok (.if_icmp .ge 71, 3) := by decide +kernel
theorem dX11_writes_26 : decode cX11_writes 26 = .ok (.iconst 0, 1) := by decide +kernel
theorem dX11_writes_27 : decode cX11_writes 27 = .ok (.istore 5, 2) := by decide +kernel
theorem dX11_writes_29 : decode cX11_writes 29 = .ok (.iload 5, 2) := by decide +kernel
theorem dX11_writes_31 : decode cX11_writes 31 = .ok (.aload_n 0, 1) := by decide +kernel
theorem dX11_writes_32 : decode cX11_writes 32 = .ok (.getfield 81, 3) := by decide +kernel
theorem dX11_writes_35 : decode cX11_writes 35 = .ok (.if_icmp .ge 53, 3) := by decide +kernel
theorem dX11_writes_38 : decode cX11_writes 38 = .ok (.aload_n 0, 1) := by decide +kernel
theorem dX11_writes_39 : decode cX11_writes 39 = .ok (.getfield 16, 3) := by decide +kernel
theorem dX11_writes_42 : decode cX11_writes 42 = .ok (.iload 5, 2) := by decide +kernel
theorem dX11_writes_44 : decode cX11_writes 44 = .ok (.iaload, 1) := by decide +kernel
theorem dX11_writes_45 : decode cX11_writes 45 = .ok (.iload_n 3, 1) := by decide +kernel
theorem dX11_writes_46 : decode cX11_writes 46 = .ok (.if_icmp .ne 36, 3) := by decide +kernel
theorem dX11_writes_49 : decode cX11_writes 49 = .ok (.aload_n 0, 1) := by decide +kernel
theorem dX11_writes_50 : decode cX11_writes 50 = .ok (.getfield 7, 3) := by decide +kernel
theorem dX11_writes_53 : decode cX11_writes 53 = .ok (.iload 5, 2) := by decide +kernel
theorem dX11_writes_55 : decode cX11_writes 55 = .ok (.iaload, 1) := by decide +kernel
theorem dX11_writes_56 : decode cX11_writes 56 = .ok (.aload_n 0, 1) := by decide +kernel
theorem dX11_writes_57 : decode cX11_writes 57 = .ok (.getfield 13, 3) := by decide +kernel
theorem dX11_writes_60 : decode cX11_writes 60 = .ok (.iload 5, 2) := by decide +kernel
theorem dX11_writes_62 : decode cX11_writes 62 = .ok (.iaload, 1) := by decide +kernel
theorem dX11_writes_63 : decode cX11_writes 63 = .ok (.invokestatic 134, 3) := by decide +kernel
theorem dX11_writes_66 : decode cX11_writes 66 = .ok (.iload 4, 2) := by decide +kernel
theorem dX11_writes_68 : decode cX11_writes 68 = .ok (.if_icmp .ne 14, 3) := by decide +kernel
theorem dX11_writes_71 : decode cX11_writes 71 = .ok (.aload_n 0, 1) := by decide +kernel
theorem dX11_writes_72 : decode cX11_writes 72 = .ok (.getfield 28, 3) := by decide +kernel
theorem dX11_writes_75 : decode cX11_writes 75 = .ok (.iload_n 2, 1) := by decide +kernel
theorem dX11_writes_76 : decode cX11_writes 76 = .ok (.iload 5, 2) := by decide +kernel
theorem dX11_writes_78 : decode cX11_writes 78 = .ok (.iastore, 1) := by decide +kernel
theorem dX11_writes_79 : decode cX11_writes 79 = .ok (.iinc 2 1, 3) := by decide +kernel
theorem dX11_writes_82 : decode cX11_writes 82 = .ok (.iinc 5 1, 3) := by decide +kernel
theorem dX11_writes_85 : decode cX11_writes 85 = .ok (.goto (-56), 3) := by decide +kernel
theorem dX11_writes_88 : decode cX11_writes 88 = .ok (.iinc 4 1, 3) := by decide +kernel
theorem dX11_writes_91 : decode cX11_writes 91 = .ok (.goto (-74), 3) := by decide +kernel
theorem dX11_writes_94 : decode cX11_writes 94 = .ok (.iinc 3 1, 3) := by decide +kernel
theorem dX11_writes_97 : decode cX11_writes 97 = .ok (.goto (-88), 3) := by decide +kernel
theorem dX11_writes_100 : decode cX11_writes 100 = .ok (.return_, 1) := by decide +kernel
theorem dX11_told_0 : decode cX11_told 0 = .ok (.aload_n 0, 1) := by decide +kernel
theorem dX11_told_1 : decode cX11_told 1 = .ok (.iload_n 1, 1) := by decide +kernel
theorem dX11_told_2 : decode cX11_told 2 = .ok (.iconst 0, 1) := by decide +kernel
theorem dX11_told_3 : decode cX11_told 3 = .ok (.iconst 5, 1) := by decide +kernel
theorem dX11_told_4 : decode cX11_told 4 = .ok (.invokestatic 77, 3) := by decide +kernel
theorem dX11_told_7 : decode cX11_told 7 = .ok (.ifCond .eq 7, 3) := by decide +kernel
theorem dX11_told_10 : decode cX11_told 10 = .ok (.iconst 0, 1) := by decide +kernel
theorem dX11_told_11 : decode cX11_told 11 = .ok (.goto 4, 3) := by decide +kernel
theorem dX11_told_14 : decode cX11_told 14 = .ok (.iconst 1, 1) := by decide +kernel
theorem dX11_told_15 : decode cX11_told 15 = .ok (.putfield 70, 3) := by decide +kernel
theorem dX11_told_18 : decode cX11_told 18 = .ok (.aload_n 0, 1) := by decide +kernel
theorem dX11_told_19 : decode cX11_told 19 = .ok (.getfield 70, 3) := by decide +kernel
theorem dX11_told_22 : decode cX11_told 22 = .ok (.ifCond .le 5, 3) := by decide +kernel
theorem dX11_told_25 : decode cX11_told 25 = .ok (.iconst 0, 1) := by decide +kernel
theorem dX11_told_26 : decode cX11_told 26 = .ok (.ireturn, 1) := by decide +kernel
theorem dX11_told_27 : decode cX11_told 27 = .ok (.iconst 0, 1) := by decide +kernel
theorem dX11_told_28 : decode cX11_told 28 = .ok (.istore_n 2, 1) := by decide +kernel
theorem dX11_told_29 : decode cX11_told 29 = .ok (.iconst 0, 1) := by decide +kernel
theorem dX11_told_30 : decode cX11_told 30 = .ok (.istore_n 3, 1) := by decide +kernel
theorem dX11_told_31 : decode cX11_told 31 = .ok (.iconst 0, 1) := by decide +kernel
theorem dX11_told_32 : decode cX11_told 32 = .ok (.istore 4, 2) := by decide +kernel
theorem dX11_told_34 : decode cX11_told 34 = .ok (.iload 4, 2) := by decide +kernel
theorem dX11_told_36 : decode cX11_told 36 = .ok (.aload_n 0, 1) := by decide +kernel
theorem dX11_told_37 : decode cX11_told 37 = .ok (.getfield 81, 3) := by decide +kernel
theorem dX11_told_40 : decode cX11_told 40 = .ok (.if_icmp .ge 56, 3) := by decide +kernel
theorem dX11_told_43 : decode cX11_told 43 = .ok (.iload_n 2, 1) := by decide +kernel
theorem dX11_told_44 : decode cX11_told 44 = .ok (.iload_n 1, 1) := by decide +kernel
theorem dX11_told_45 : decode cX11_told 45 = .ok (.iconst 3, 1) := by decide +kernel
theorem dX11_told_46 : decode cX11_told 46 = .ok (.if_icmp .ne 16, 3) := by decide +kernel
theorem dX11_told_49 : decode cX11_told 49 = .ok (.aload_n 0, 1) := by decide +kernel
theorem dX11_told_50 : decode cX11_told 50 = .ok (.iload 4, 2) := by decide +kernel
theorem dX11_told_52 : decode cX11_told 52 = .ok (.invokevirtual 128, 3) := by decide +kernel
theorem dX11_told_55 : decode cX11_told 55 = .ok (.ifCond .ne 7, 3) := by decide +kernel
theorem dX11_told_58 : decode cX11_told 58 = .ok (.iconst 1, 1) := by decide +kernel
theorem dX11_told_59 : decode cX11_told 59 = .ok (.goto 4, 3) := by decide +kernel
theorem dX11_told_62 : decode cX11_told 62 = .ok (.iconst 0, 1) := by decide +kernel
theorem dX11_told_63 : decode cX11_told 63 = .ok (.iadd, 1) := by decide +kernel
theorem dX11_told_64 : decode cX11_told 64 = .ok (.istore_n 2, 1) := by decide +kernel
theorem dX11_told_65 : decode cX11_told 65 = .ok (.iload_n 3, 1) := by decide +kernel
theorem dX11_told_66 : decode cX11_told 66 = .ok (.aload_n 0, 1) := by decide +kernel
theorem dX11_told_67 : decode cX11_told 67 = .ok (.getfield 7, 3) := by decide +kernel
theorem dX11_told_70 : decode cX11_told 70 = .ok (.iload 4, 2) := by decide +kernel
theorem dX11_told_72 : decode cX11_told 72 = .ok (.iaload, 1) := by decide +kernel
theorem dX11_told_73 : decode cX11_told 73 = .ok (.aload_n 0, 1) := by decide +kernel
theorem dX11_told_74 : decode cX11_told 74 = .ok (.getfield 13, 3) := by decide +kernel
theorem dX11_told_77 : decode cX11_told 77 = .ok (.iload 4, 2) := by decide +kernel
theorem dX11_told_79 : decode cX11_told 79 = .ok (.iaload, 1) := by decide +kernel
theorem dX11_told_80 : decode cX11_told 80 = .ok (.if_icmp .le 7, 3) := by decide +kernel
theorem dX11_told_83 : decode cX11_told 83 = .ok (.iconst 1, 1) := by decide +kernel
theorem dX11_told_84 : decode cX11_told 84 = .ok (.goto 4, 3) := by decide +kernel
theorem dX11_told_87 : decode cX11_told 87 = .ok (.iconst 0, 1) := by decide +kernel
theorem dX11_told_88 : decode cX11_told 88 = .ok (.iadd, 1) := by decide +kernel
theorem dX11_told_89 : decode cX11_told 89 = .ok (.istore_n 3, 1) := by decide +kernel
theorem dX11_told_90 : decode cX11_told 90 = .ok (.iinc 4 1, 3) := by decide +kernel
theorem dX11_told_93 : decode cX11_told 93 = .ok (.goto (-59), 3) := by decide +kernel
theorem dX11_told_96 : decode cX11_told 96 = .ok (.iload_n 1, 1) := by decide +kernel
theorem dX11_told_97 : decode cX11_told 97 = .ok (.tableswitch 54 0 4 #[35, 40, 45, 50, 52], 35) := by decide +kernel
theorem dX11_told_132 : decode cX11_told 132 = .ok (.aload_n 0, 1) := by decide +kernel
theorem dX11_told_133 : decode cX11_told 133 = .ok (.getfield 74, 3) := by decide +kernel
theorem dX11_told_136 : decode cX11_told 136 = .ok (.ireturn, 1) := by decide +kernel
theorem dX11_told_137 : decode cX11_told 137 = .ok (.aload_n 0, 1) := by decide +kernel
theorem dX11_told_138 : decode cX11_told 138 = .ok (.getfield 81, 3) := by decide +kernel
theorem dX11_told_141 : decode cX11_told 141 = .ok (.ireturn, 1) := by decide +kernel
theorem dX11_told_142 : decode cX11_told 142 = .ok (.aload_n 0, 1) := by decide +kernel
theorem dX11_told_143 : decode cX11_told 143 = .ok (.invokevirtual 131, 3) := by decide +kernel
theorem dX11_told_146 : decode cX11_told 146 = .ok (.ireturn, 1) := by decide +kernel
theorem dX11_told_147 : decode cX11_told 147 = .ok (.iload_n 2, 1) := by decide +kernel
theorem dX11_told_148 : decode cX11_told 148 = .ok (.ireturn, 1) := by decide +kernel
theorem dX11_told_149 : decode cX11_told 149 = .ok (.iload_n 3, 1) := by decide +kernel
theorem dX11_told_150 : decode cX11_told 150 = .ok (.ireturn, 1) := by decide +kernel
theorem dX11_told_151 : decode cX11_told 151 = .ok (.aload_n 0, 1) := by decide +kernel
theorem dX11_told_152 : decode cX11_told 152 = .ok (.getfield 81, 3) := by decide +kernel
theorem dX11_told_155 : decode cX11_told 155 = .ok (.ifCond .ne 7, 3) := by decide +kernel
theorem dX11_told_158 : decode cX11_told 158 = .ok (.iconst 0, 1) := by decide +kernel
theorem dX11_told_159 : decode cX11_told 159 = .ok (.goto 11, 3) := by decide +kernel
theorem dX11_told_162 : decode cX11_told 162 = .ok (.iconst 4, 1) := by decide +kernel
theorem dX11_told_163 : decode cX11_told 163 = .ok (.aload_n 0, 1) := by decide +kernel
theorem dX11_told_164 : decode cX11_told 164 = .ok (.getfield 81, 3) := by decide +kernel
theorem dX11_told_167 : decode cX11_told 167 = .ok (.imul, 1) := by decide +kernel
theorem dX11_told_168 : decode cX11_told 168 = .ok (.iconst 1, 1) := by decide +kernel
theorem dX11_told_169 : decode cX11_told 169 = .ok (.isub, 1) := by decide +kernel
theorem dX11_told_170 : decode cX11_told 170 = .ok (.ireturn, 1) := by decide +kernel
theorem dX11_comparator_0 : decode cX11_comparator 0 = .ok (.aload_n 0, 1) := by decide +kernel
theorem dX11_comparator_1 : decode cX11_comparator 1 = .ok (.aload_n 0, 1) := by decide +kernel
theorem dX11_comparator_2 : decode cX11_comparator 2 = .ok (.iload_n 1, 1) := by decide +kernel
theorem dX11_comparator_3 : decode cX11_comparator 3 = .ok (.invokevirtual 138, 3) := by decide +kernel
theorem dX11_comparator_6 : decode cX11_comparator 6 = .ok (.ifCond .ne 7, 3) := by decide +kernel
theorem dX11_comparator_9 : decode cX11_comparator 9 = .ok (.iconst 1, 1) := by decide +kernel
theorem dX11_comparator_10 : decode cX11_comparator 10 = .ok (.goto 17, 3) := by decide +kernel
theorem dX11_comparator_13 : decode cX11_comparator 13 = .ok (.iload_n 2, 1) := by decide +kernel
theorem dX11_comparator_14 : decode cX11_comparator 14 = .ok (.iconst 0, 1) := by decide +kernel
theorem dX11_comparator_15 : decode cX11_comparator 15 = .ok (.iconst 3, 1) := by decide +kernel
theorem dX11_comparator_16 : decode cX11_comparator 16 = .ok (.invokestatic 77, 3) := by decide +kernel
theorem dX11_comparator_19 : decode cX11_comparator 19 = .ok (.ifCond .ne 7, 3) := by decide +kernel
theorem dX11_comparator_22 : decode cX11_comparator 22 = .ok (.iconst 2, 1) := by decide +kernel
theorem dX11_comparator_23 : decode cX11_comparator 23 = .ok (.goto 4, 3) := by decide +kernel
theorem dX11_comparator_26 : decode cX11_comparator 26 = .ok (.iconst 0, 1) := by decide +kernel
theorem dX11_comparator_27 : decode cX11_comparator 27 = .ok (.putfield 70, 3) := by decide +kernel
theorem dX11_comparator_30 : decode cX11_comparator 30 = .ok (.aload_n 0, 1) := by decide +kernel
theorem dX11_comparator_31 : decode cX11_comparator 31 = .ok (.getfield 70, 3) := by decide +kernel
theorem dX11_comparator_34 : decode cX11_comparator 34 = .ok (.ifCond .le 5, 3) := by decide +kernel
theorem dX11_comparator_37 : decode cX11_comparator 37 = .ok (.iconst 0, 1) := by decide +kernel
theorem dX11_comparator_38 : decode cX11_comparator 38 = .ok (.ireturn, 1) := by decide +kernel
theorem dX11_comparator_39 : decode cX11_comparator 39 = .ok (.aload_n 0, 1) := by decide +kernel
theorem dX11_comparator_40 : decode cX11_comparator 40 = .ok (.invokevirtual 131, 3) := by decide +kernel
theorem dX11_comparator_43 : decode cX11_comparator 43 = .ok (.pop, 1) := by decide +kernel
theorem dX11_comparator_44 : decode cX11_comparator 44 = .ok (.iload_n 2, 1) := by decide +kernel
theorem dX11_comparator_45 : decode cX11_comparator 45 = .ok (.ifCond .ne 12, 3) := by decide +kernel
theorem dX11_comparator_48 : decode cX11_comparator 48 = .ok (.aload_n 0, 1) := by decide +kernel
theorem dX11_comparator_49 : decode cX11_comparator 49 = .ok (.getfield 7, 3) := by decide +kernel
theorem dX11_comparator_52 : decode cX11_comparator 52 = .ok (.iload_n 1, 1) := by decide +kernel
theorem dX11_comparator_53 : decode cX11_comparator 53 = .ok (.iaload, 1) := by decide +kernel
theorem dX11_comparator_54 : decode cX11_comparator 54 = .ok (.goto 36, 3) := by decide +kernel
theorem dX11_comparator_57 : decode cX11_comparator 57 = .ok (.iload_n 2, 1) := by decide +kernel
theorem dX11_comparator_58 : decode cX11_comparator 58 = .ok (.iconst 1, 1) := by decide +kernel
theorem dX11_comparator_59 : decode cX11_comparator 59 = .ok (.if_icmp .ne 12, 3) := by decide +kernel
theorem dX11_comparator_62 : decode cX11_comparator 62 = .ok (.aload_n 0, 1) := by decide +kernel
theorem dX11_comparator_63 : decode cX11_comparator 63 = .ok (.getfield 13, 3) := by decide +kernel
theorem dX11_comparator_66 : decode cX11_comparator 66 = .ok (.iload_n 1, 1) := by decide +kernel
theorem dX11_comparator_67 : decode cX11_comparator 67 = .ok (.iaload, 1) := by decide +kernel
theorem dX11_comparator_68 : decode cX11_comparator 68 = .ok (.goto 22, 3) := by decide +kernel
theorem dX11_comparator_71 : decode cX11_comparator 71 = .ok (.iload_n 2, 1) := by decide +kernel
theorem dX11_comparator_72 : decode cX11_comparator 72 = .ok (.iconst 2, 1) := by decide +kernel
theorem dX11_comparator_73 : decode cX11_comparator 73 = .ok (.if_icmp .ne 12, 3) := by decide +kernel
theorem dX11_comparator_76 : decode cX11_comparator 76 = .ok (.aload_n 0, 1) := by decide +kernel
theorem dX11_comparator_77 : decode cX11_comparator 77 = .ok (.getfield 16, 3) := by decide +kernel
theorem dX11_comparator_80 : decode cX11_comparator 80 = .ok (.iload_n 1, 1) := by decide +kernel
theorem dX11_comparator_81 : decode cX11_comparator 81 = .ok (.iaload, 1) := by decide +kernel
theorem dX11_comparator_82 : decode cX11_comparator 82 = .ok (.goto 8, 3) := by decide +kernel
theorem dX11_comparator_85 : decode cX11_comparator 85 = .ok (.aload_n 0, 1) := by decide +kernel
theorem dX11_comparator_86 : decode cX11_comparator 86 = .ok (.iload_n 1, 1) := by decide +kernel
theorem dX11_comparator_87 : decode cX11_comparator 87 = .ok (.invokevirtual 128, 3) := by decide +kernel
theorem dX11_comparator_90 : decode cX11_comparator 90 = .ok (.ireturn, 1) := by decide +kernel
theorem dX11_textAt_0 : decode cX11_textAt 0 = .ok (.aload_n 0, 1) := by decide +kernel
theorem dX11_textAt_1 : decode cX11_textAt 1 = .ok (.iload_n 1, 1) := by decide +kernel
theorem dX11_textAt_2 : decode cX11_textAt 2 = .ok (.ifCond .ge 7, 3) := by decide +kernel
theorem dX11_textAt_5 : decode cX11_textAt 5 = .ok (.iconst 1, 1) := by decide +kernel
theorem dX11_textAt_6 : decode cX11_textAt 6 = .ok (.goto 4, 3) := by decide +kernel
theorem dX11_textAt_9 : decode cX11_textAt 9 = .ok (.iconst 0, 1) := by decide +kernel
theorem dX11_textAt_10 : decode cX11_textAt 10 = .ok (.putfield 70, 3) := by decide +kernel
theorem dX11_textAt_13 : decode cX11_textAt 13 = .ok (.aload_n 0, 1) := by decide +kernel
theorem dX11_textAt_14 : decode cX11_textAt 14 = .ok (.getfield 70, 3) := by decide +kernel
theorem dX11_textAt_17 : decode cX11_textAt 17 = .ok (.ifCond .le 5, 3) := by decide +kernel
theorem dX11_textAt_20 : decode cX11_textAt 20 = .ok (.iconst 0, 1) := by decide +kernel
theorem dX11_textAt_21 : decode cX11_textAt 21 = .ok (.ireturn, 1) := by decide +kernel
theorem dX11_textAt_22 : decode cX11_textAt 22 = .ok (.iload_n 1, 1) := by decide +kernel
theorem dX11_textAt_23 : decode cX11_textAt 23 = .ok (.iconst 4, 1) := by decide +kernel
theorem dX11_textAt_24 : decode cX11_textAt 24 = .ok (.aload_n 0, 1) := by decide +kernel
theorem dX11_textAt_25 : decode cX11_textAt 25 = .ok (.getfield 81, 3) := by decide +kernel
theorem dX11_textAt_28 : decode cX11_textAt 28 = .ok (.imul, 1) := by decide +kernel
theorem dX11_textAt_29 : decode cX11_textAt 29 = .ok (.iconst 1, 1) := by decide +kernel
theorem dX11_textAt_30 : decode cX11_textAt 30 = .ok (.isub, 1) := by decide +kernel
theorem dX11_textAt_31 : decode cX11_textAt 31 = .ok (.if_icmp .lt 6, 3) := by decide +kernel
theorem dX11_textAt_34 : decode cX11_textAt 34 = .ok (.bipush 32, 2) := by decide +kernel
theorem dX11_textAt_36 : decode cX11_textAt 36 = .ok (.ireturn, 1) := by decide +kernel
theorem dX11_textAt_37 : decode cX11_textAt 37 = .ok (.aload_n 0, 1) := by decide +kernel
theorem dX11_textAt_38 : decode cX11_textAt 38 = .ok (.invokevirtual 141, 3) := by decide +kernel
theorem dX11_textAt_41 : decode cX11_textAt 41 = .ok (.aload_n 0, 1) := by decide +kernel
theorem dX11_textAt_42 : decode cX11_textAt 42 = .ok (.getfield 28, 3) := by decide +kernel
theorem dX11_textAt_45 : decode cX11_textAt 45 = .ok (.iload_n 1, 1) := by decide +kernel
theorem dX11_textAt_46 : decode cX11_textAt 46 = .ok (.iconst 4, 1) := by decide +kernel
theorem dX11_textAt_47 : decode cX11_textAt 47 = .ok (.idiv, 1) := by decide +kernel
theorem dX11_textAt_48 : decode cX11_textAt 48 = .ok (.iaload, 1) := by decide +kernel
theorem dX11_textAt_49 : decode cX11_textAt 49 = .ok (.istore_n 2, 1) := by decide +kernel
theorem dX11_textAt_50 : decode cX11_textAt 50 = .ok (.iload_n 1, 1) := by decide +kernel
theorem dX11_textAt_51 : decode cX11_textAt 51 = .ok (.iconst 4, 1) := by decide +kernel
theorem dX11_textAt_52 : decode cX11_textAt 52 = .ok (.irem, 1) := by decide +kernel
theorem dX11_textAt_53 : decode cX11_textAt 53 = .ok (.tableswitch 52 0 2 #[27, 38, 41], 27) := by decide +kernel
theorem dX11_textAt_80 : decode cX11_textAt 80 = .ok (.bipush 48, 2) := by decide +kernel
theorem dX11_textAt_82 : decode cX11_textAt 82 = .ok (.aload_n 0, 1) := by decide +kernel
theorem dX11_textAt_83 : decode cX11_textAt 83 = .ok (.getfield 7, 3) := by decide +kernel
theorem dX11_textAt_86 : decode cX11_textAt 86 = .ok (.iload_n 2, 1) := by decide +kernel
theorem dX11_textAt_87 : decode cX11_textAt 87 = .ok (.iaload, 1) := by decide +kernel
theorem dX11_textAt_88 : decode cX11_textAt 88 = .ok (.iadd, 1) := by decide +kernel
theorem dX11_textAt_89 : decode cX11_textAt 89 = .ok (.i2c, 1) := by decide +kernel
theorem dX11_textAt_90 : decode cX11_textAt 90 = .ok (.ireturn, 1) := by decide +kernel
theorem dX11_textAt_91 : decode cX11_textAt 91 = .ok (.bipush 58, 2) := by decide +kernel
theorem dX11_textAt_93 : decode cX11_textAt 93 = .ok (.ireturn, 1) := by decide +kernel
theorem dX11_textAt_94 : decode cX11_textAt 94 = .ok (.bipush 48, 2) := by decide +kernel
theorem dX11_textAt_96 : decode cX11_textAt 96 = .ok (.aload_n 0, 1) := by decide +kernel
theorem dX11_textAt_97 : decode cX11_textAt 97 = .ok (.getfield 13, 3) := by decide +kernel
theorem dX11_textAt_100 : decode cX11_textAt 100 = .ok (.iload_n 2, 1) := by decide +kernel
theorem dX11_textAt_101 : decode cX11_textAt 101 = .ok (.iaload, 1) := by decide +kernel
theorem dX11_textAt_102 : decode cX11_textAt 102 = .ok (.iadd, 1) := by decide +kernel
theorem dX11_textAt_103 : decode cX11_textAt 103 = .ok (.i2c, 1) := by decide +kernel
theorem dX11_textAt_104 : decode cX11_textAt 104 = .ok (.ireturn, 1) := by decide +kernel
theorem dX11_textAt_105 : decode cX11_textAt 105 = .ok (.aload_n 0, 1) := by decide +kernel
theorem dX11_textAt_106 : decode cX11_textAt 106 = .ok (.getfield 16, 3) := by decide +kernel
theorem dX11_textAt_109 : decode cX11_textAt 109 = .ok (.iload_n 2, 1) := by decide +kernel
theorem dX11_textAt_110 : decode cX11_textAt 110 = .ok (.iaload, 1) := by decide +kernel
theorem dX11_textAt_111 : decode cX11_textAt 111 = .ok (.aload_n 0, 1) := by decide +kernel
theorem dX11_textAt_112 : decode cX11_textAt 112 = .ok (.getfield 16, 3) := by decide +kernel
theorem dX11_textAt_115 : decode cX11_textAt 115 = .ok (.aload_n 0, 1) := by decide +kernel
theorem dX11_textAt_116 : decode cX11_textAt 116 = .ok (.getfield 28, 3) := by decide +kernel
theorem dX11_textAt_119 : decode cX11_textAt 119 = .ok (.iload_n 1, 1) := by decide +kernel
theorem dX11_textAt_120 : decode cX11_textAt 120 = .ok (.iconst 4, 1) := by decide +kernel
theorem dX11_textAt_121 : decode cX11_textAt 121 = .ok (.idiv, 1) := by decide +kernel
theorem dX11_textAt_122 : decode cX11_textAt 122 = .ok (.iconst 1, 1) := by decide +kernel
theorem dX11_textAt_123 : decode cX11_textAt 123 = .ok (.iadd, 1) := by decide +kernel
theorem dX11_textAt_124 : decode cX11_textAt 124 = .ok (.iaload, 1) := by decide +kernel
theorem dX11_textAt_125 : decode cX11_textAt 125 = .ok (.iaload, 1) := by decide +kernel
theorem dX11_textAt_126 : decode cX11_textAt 126 = .ok (.if_icmp .ne 8, 3) := by decide +kernel
theorem dX11_textAt_129 : decode cX11_textAt 129 = .ok (.bipush 32, 2) := by decide +kernel
theorem dX11_textAt_131 : decode cX11_textAt 131 = .ok (.goto 5, 3) := by decide +kernel
theorem dX11_textAt_134 : decode cX11_textAt 134 = .ok (.bipush 47, 2) := by decide +kernel
theorem dX11_textAt_136 : decode cX11_textAt 136 = .ok (.ireturn, 1) := by decide +kernel
theorem dX11_isCharacter_0 : decode cX11_isCharacter 0 = .ok (.iload_n 0, 1) := by decide +kernel
theorem dX11_isCharacter_1 : decode cX11_isCharacter 1 = .ok (.bipush 48, 2) := by decide +kernel
theorem dX11_isCharacter_3 : decode cX11_isCharacter 3 = .ok (.bipush 53, 2) := by decide +kernel
theorem dX11_isCharacter_5 : decode cX11_isCharacter 5 = .ok (.invokestatic 77, 3) := by decide +kernel
theorem dX11_isCharacter_8 : decode cX11_isCharacter 8 = .ok (.ifCond .ne 21, 3) := by decide +kernel
theorem dX11_isCharacter_11 : decode cX11_isCharacter 11 = .ok (.iload_n 0, 1) := by decide +kernel
theorem dX11_isCharacter_12 : decode cX11_isCharacter 12 = .ok (.bipush 58, 2) := by decide +kernel
theorem dX11_isCharacter_14 : decode cX11_isCharacter 14 = .ok (.if_icmp .eq 15, 3) := by decide +kernel
theorem dX11_isCharacter_17 : decode cX11_isCharacter 17 = .ok (.iload_n 0, 1) := by decide +kernel
theorem dX11_isCharacter_18 : decode cX11_isCharacter 18 = .ok (.bipush 47, 2) := by decide +kernel
theorem dX11_isCharacter_20 : decode cX11_isCharacter 20 = .ok (.if_icmp .eq 9, 3) := by decide +kernel
theorem dX11_isCharacter_23 : decode cX11_isCharacter 23 = .ok (.iload_n 0, 1) := by decide +kernel
theorem dX11_isCharacter_24 : decode cX11_isCharacter 24 = .ok (.bipush 32, 2) := by decide +kernel
theorem dX11_isCharacter_26 : decode cX11_isCharacter 26 = .ok (.if_icmp .ne 7, 3) := by decide +kernel
theorem dX11_isCharacter_29 : decode cX11_isCharacter 29 = .ok (.iconst 1, 1) := by decide +kernel
theorem dX11_isCharacter_30 : decode cX11_isCharacter 30 = .ok (.goto 4, 3) := by decide +kernel
theorem dX11_isCharacter_33 : decode cX11_isCharacter 33 = .ok (.iconst 0, 1) := by decide +kernel
theorem dX11_isCharacter_34 : decode cX11_isCharacter 34 = .ok (.ireturn, 1) := by decide +kernel
theorem dX11_type_0 : decode cX11_type 0 = .ok (.iload_n 3, 1) := by decide +kernel
theorem dX11_type_1 : decode cX11_type 1 = .ok (.iconst 1, 1) := by decide +kernel
theorem dX11_type_2 : decode cX11_type 2 = .ok (.bipush 8, 2) := by decide +kernel
theorem dX11_type_4 : decode cX11_type 4 = .ok (.invokestatic 77, 3) := by decide +kernel
theorem dX11_type_7 : decode cX11_type 7 = .ok (.istore 4, 2) := by decide +kernel
theorem dX11_type_9 : decode cX11_type 9 = .ok (.iconst 0, 1) := by decide +kernel
theorem dX11_type_10 : decode cX11_type 10 = .ok (.istore 5, 2) := by decide +kernel
theorem dX11_type_12 : decode cX11_type 12 = .ok (.iload 5, 2) := by decide +kernel
theorem dX11_type_14 : decode cX11_type 14 = .ok (.iload_n 3, 1) := by decide +kernel
theorem dX11_type_15 : decode cX11_type 15 = .ok (.if_icmp .ge 31, 3) := by decide +kernel
theorem dX11_type_18 : decode cX11_type 18 = .ok (.iload 4, 2) := by decide +kernel
theorem dX11_type_20 : decode cX11_type 20 = .ok (.ifCond .eq 26, 3) := by decide +kernel
theorem dX11_type_23 : decode cX11_type 23 = .ok (.lload_n 1, 1) := by decide +kernel
theorem dX11_type_24 : decode cX11_type 24 = .ok (.bipush 8, 2) := by decide +kernel
theorem dX11_type_26 : decode cX11_type 26 = .ok (.iload 5, 2) := by decide +kernel
theorem dX11_type_28 : decode cX11_type 28 = .ok (.imul, 1) := by decide +kernel
theorem dX11_type_29 : decode cX11_type 29 = .ok (.lshr, 1) := by decide +kernel
theorem dX11_type_30 : decode cX11_type 30 = .ok (.ldc2_w 144, 3) := by decide +kernel
theorem dX11_type_33 : decode cX11_type 33 = .ok (.land, 1) := by decide +kernel
theorem dX11_type_34 : decode cX11_type 34 = .ok (.l2i, 1) := by decide +kernel
theorem dX11_type_35 : decode cX11_type 35 = .ok (.invokestatic 146, 3) := by decide +kernel
theorem dX11_type_38 : decode cX11_type 38 = .ok (.istore 4, 2) := by decide +kernel
theorem dX11_type_40 : decode cX11_type 40 = .ok (.iinc 5 1, 3) := by decide +kernel
theorem dX11_type_43 : decode cX11_type 43 = .ok (.goto (-31), 3) := by decide +kernel
theorem dX11_type_46 : decode cX11_type 46 = .ok (.aload_n 0, 1) := by decide +kernel
theorem dX11_type_47 : decode cX11_type 47 = .ok (.iload 4, 2) := by decide +kernel
theorem dX11_type_49 : decode cX11_type 49 = .ok (.ifCond .ne 7, 3) := by decide +kernel
theorem dX11_type_52 : decode cX11_type 52 = .ok (.iconst 1, 1) := by decide +kernel
theorem dX11_type_53 : decode cX11_type 53 = .ok (.goto 19, 3) := by decide +kernel
theorem dX11_type_56 : decode cX11_type 56 = .ok (.aload_n 0, 1) := by decide +kernel
theorem dX11_type_57 : decode cX11_type 57 = .ok (.getfield 149, 3) := by decide +kernel
theorem dX11_type_60 : decode cX11_type 60 = .ok (.iload_n 3, 1) := by decide +kernel
theorem dX11_type_61 : decode cX11_type 61 = .ok (.iadd, 1) := by decide +kernel
theorem dX11_type_62 : decode cX11_type 62 = .ok (.bipush 40, 2) := by decide +kernel
theorem dX11_type_64 : decode cX11_type 64 = .ok (.if_icmp .le 7, 3) := by decide +kernel
theorem dX11_type_67 : decode cX11_type 67 = .ok (.iconst 2, 1) := by decide +kernel
theorem dX11_type_68 : decode cX11_type 68 = .ok (.goto 4, 3) := by decide +kernel
theorem dX11_type_71 : decode cX11_type 71 = .ok (.iconst 0, 1) := by decide +kernel
theorem dX11_type_72 : decode cX11_type 72 = .ok (.putfield 70, 3) := by decide +kernel
theorem dX11_type_75 : decode cX11_type 75 = .ok (.aload_n 0, 1) := by decide +kernel
theorem dX11_type_76 : decode cX11_type 76 = .ok (.getfield 70, 3) := by decide +kernel
theorem dX11_type_79 : decode cX11_type 79 = .ok (.ifCond .le 5, 3) := by decide +kernel
theorem dX11_type_82 : decode cX11_type 82 = .ok (.iconst 0, 1) := by decide +kernel
theorem dX11_type_83 : decode cX11_type 83 = .ok (.ireturn, 1) := by decide +kernel
theorem dX11_type_84 : decode cX11_type 84 = .ok (.iconst 0, 1) := by decide +kernel
theorem dX11_type_85 : decode cX11_type 85 = .ok (.istore 5, 2) := by decide +kernel
theorem dX11_type_87 : decode cX11_type 87 = .ok (.iload 5, 2) := by decide +kernel
theorem dX11_type_89 : decode cX11_type 89 = .ok (.iload_n 3, 1) := by decide +kernel
theorem dX11_type_90 : decode cX11_type 90 = .ok (.if_icmp .ge 40, 3) := by decide +kernel
theorem dX11_type_93 : decode cX11_type 93 = .ok (.aload_n 0, 1) := by decide +kernel
theorem dX11_type_94 : decode cX11_type 94 = .ok (.getfield 31, 3) := by decide +kernel
theorem dX11_type_97 : decode cX11_type 97 = .ok (.aload_n 0, 1) := by decide +kernel
theorem dX11_type_98 : decode cX11_type 98 = .ok (.getfield 149, 3) := by decide +kernel
theorem dX11_type_101 : decode cX11_type 101 = .ok (.lload_n 1, 1) := by decide +kernel
theorem dX11_type_102 : decode cX11_type 102 = .ok (.bipush 8, 2) := by decide +kernel
theorem dX11_type_104 : decode cX11_type 104 = .ok (.iload 5, 2) := by decide +kernel
theorem dX11_type_106 : decode cX11_type 106 = .ok (.imul, 1) := by decide +kernel
theorem dX11_type_107 : decode cX11_type 107 = .ok (.lshr, 1) := by decide +kernel
theorem dX11_type_108 : decode cX11_type 108 = .ok (.ldc2_w 144, 3) := by decide +kernel
theorem dX11_type_111 : decode cX11_type 111 = .ok (.land, 1) := by decide +kernel
theorem dX11_type_112 : decode cX11_type 112 = .ok (.l2i, 1) := by decide +kernel
theorem dX11_type_113 : decode cX11_type 113 = .ok (.iastore, 1) := by decide +kernel
theorem dX11_type_114 : decode cX11_type 114 = .ok (.aload_n 0, 1) := by decide +kernel
theorem dX11_type_115 : decode cX11_type 115 = .ok (.dup, 1) := by decide +kernel
theorem dX11_type_116 : decode cX11_type 116 = .ok (.getfield 149, 3) := by decide +kernel
theorem dX11_type_119 : decode cX11_type 119 = .ok (.iconst 1, 1) := by decide +kernel
theorem dX11_type_120 : decode cX11_type 120 = .ok (.iadd, 1) := by decide +kernel
theorem dX11_type_121 : decode cX11_type 121 = .ok (.putfield 149, 3) := by decide +kernel
theorem dX11_type_124 : decode cX11_type 124 = .ok (.iinc 5 1, 3) := by decide +kernel
theorem dX11_type_127 : decode cX11_type 127 = .ok (.goto (-40), 3) := by decide +kernel
theorem dX11_type_130 : decode cX11_type 130 = .ok (.aload_n 0, 1) := by decide +kernel
theorem dX11_type_131 : decode cX11_type 131 = .ok (.getfield 149, 3) := by decide +kernel
theorem dX11_type_134 : decode cX11_type 134 = .ok (.ireturn, 1) := by decide +kernel
theorem dX11_wipe_0 : decode cX11_wipe 0 = .ok (.aload_n 0, 1) := by decide +kernel
theorem dX11_wipe_1 : decode cX11_wipe 1 = .ok (.iconst 0, 1) := by decide +kernel
theorem dX11_wipe_2 : decode cX11_wipe 2 = .ok (.putfield 70, 3) := by decide +kernel
theorem dX11_wipe_5 : decode cX11_wipe 5 = .ok (.aload_n 0, 1) := by decide +kernel
theorem dX11_wipe_6 : decode cX11_wipe 6 = .ok (.getfield 149, 3) := by decide +kernel
theorem dX11_wipe_9 : decode cX11_wipe 9 = .ok (.istore_n 1, 1) := by decide +kernel
theorem dX11_wipe_10 : decode cX11_wipe 10 = .ok (.aload_n 0, 1) := by decide +kernel
theorem dX11_wipe_11 : decode cX11_wipe 11 = .ok (.iconst 0, 1) := by decide +kernel
theorem dX11_wipe_12 : decode cX11_wipe 12 = .ok (.putfield 149, 3) := by decide +kernel
theorem dX11_wipe_15 : decode cX11_wipe 15 = .ok (.iload_n 1, 1) := by decide +kernel
theorem dX11_wipe_16 : decode cX11_wipe 16 = .ok (.ireturn, 1) := by decide +kernel
theorem dX11_findFault_0 : decode cX11_findFault 0 = .ok (.iconst 0, 1) := by decide +kernel
theorem dX11_findFault_1 : decode cX11_findFault 1 = .ok (.istore_n 1, 1) := by decide +kernel
theorem dX11_findFault_2 : decode cX11_findFault 2 = .ok (.iconst 0, 1) := by decide +kernel
theorem dX11_findFault_3 : decode cX11_findFault 3 = .ok (.istore_n 2, 1) := by decide +kernel
theorem dX11_findFault_4 : decode cX11_findFault 4 = .ok (.iload_n 2, 1) := by decide +kernel
theorem dX11_findFault_5 : decode cX11_findFault 5 = .ok (.aload_n 0, 1) := by decide +kernel
theorem dX11_findFault_6 : decode cX11_findFault 6 = .ok (.getfield 149, 3) := by decide +kernel
theorem dX11_findFault_9 : decode cX11_findFault 9 = .ok (.if_icmp .ge 135, 3) := by decide +kernel
theorem dX11_findFault_12 : decode cX11_findFault 12 = .ok (.aload_n 0, 1) := by decide +kernel
theorem dX11_findFault_13 : decode cX11_findFault 13 = .ok (.getfield 31, 3) := by decide +kernel
theorem dX11_findFault_16 : decode cX11_findFault 16 = .ok (.iload_n 2, 1) := by decide +kernel
theorem dX11_findFault_17 : decode cX11_findFault 17 = .ok (.iaload, 1) := by decide +kernel
theorem dX11_findFault_18 : decode cX11_findFault 18 = .ok (.istore_n 3, 1) := by decide +kernel
theorem dX11_findFault_19 : decode cX11_findFault 19 = .ok (.iload_n 2, 1) := by decide +kernel
theorem dX11_findFault_20 : decode cX11_findFault 20 = .ok (.iconst 4, 1) := by decide +kernel
theorem dX11_findFault_21 : decode cX11_findFault 21 = .ok (.irem, 1) := by decide +kernel
theorem dX11_findFault_22 : decode cX11_findFault 22 = .ok (.iconst 1, 1) := by decide +kernel
theorem dX11_findFault_23 : decode cX11_findFault 23 = .ok (.if_icmp .ne 17, 3) := by decide +kernel
theorem dX11_findFault_26 : decode cX11_findFault 26 = .ok (.iload_n 3, 1) := by decide +kernel
theorem dX11_findFault_27 : decode cX11_findFault 27 = .ok (.bipush 58, 2) := by decide +kernel
theorem dX11_findFault_29 : decode cX11_findFault 29 = .ok (.if_icmp .ne 7, 3) := by decide +kernel
theorem dX11_findFault_32 : decode cX11_findFault 32 = .ok (.iconst 1, 1) := by decide +kernel
theorem dX11_findFault_33 : decode cX11_findFault 33 = .ok (.goto 67, 3) := by decide +kernel
theorem dX11_findFault_36 : decode cX11_findFault 36 = .ok (.iconst 0, 1) := by decide +kernel
theorem dX11_findFault_37 : decode cX11_findFault 37 = .ok (.goto 63, 3) := by decide +kernel
theorem dX11_findFault_40 : decode cX11_findFault 40 = .ok (.iload_n 2, 1) := by decide +kernel
theorem dX11_findFault_41 : decode cX11_findFault 41 = .ok (.iconst 4, 1) := by decide +kernel
theorem dX11_findFault_42 : decode cX11_findFault 42 = .ok (.irem, 1) := by decide +kernel
theorem dX11_findFault_43 : decode cX11_findFault 43 = .ok (.iconst 3, 1) := by decide +kernel
theorem dX11_findFault_44 : decode cX11_findFault 44 = .ok (.if_icmp .ne 23, 3) := by decide +kernel
theorem dX11_findFault_47 : decode cX11_findFault 47 = .ok (.iload_n 3, 1) := by decide +kernel
theorem dX11_findFault_48 : decode cX11_findFault 48 = .ok (.bipush 32, 2) := by decide +kernel
theorem dX11_findFault_50 : decode cX11_findFault 50 = .ok (.if_icmp .eq 9, 3) := by decide +kernel
theorem dX11_findFault_53 : decode cX11_findFault 53 = .ok (.iload_n 3, 1) := by decide +kernel
theorem dX11_findFault_54 : decode cX11_findFault 54 = .ok (.bipush 47, 2) := by decide +kernel
theorem dX11_findFault_56 : decode cX11_findFault 56 = .ok (.if_icmp .ne 7, 3) := by decide +kernel
theorem dX11_findFault_59 : decode cX11_findFault 59 = .ok (.iconst 1, 1) := by decide +kernel
theorem dX11_findFault_60 : decode cX11_findFault 60 = .ok (.goto 40, 3) := by decide +kernel
theorem dX11_findFault_63 : decode cX11_findFault 63 = .ok (.iconst 0, 1) := by decide +kernel
theorem dX11_findFault_64 : decode cX11_findFault 64 = .ok (.goto 36, 3) := by decide +kernel
theorem dX11_findFault_67 : decode cX11_findFault 67 = .ok (.iload_n 3, 1) := by decide +kernel
theorem dX11_findFault_68 : decode cX11_findFault 68 = .ok (.bipush 48, 2) := by decide +kernel
theorem dX11_findFault_70 : decode cX11_findFault 70 = .ok (.isub, 1) := by decide +kernel
theorem dX11_findFault_71 : decode cX11_findFault 71 = .ok (.iconst 0, 1) := by decide +kernel
theorem dX11_findFault_72 : decode cX11_findFault 72 = .ok (.aload_n 0, 1) := by decide +kernel
theorem dX11_findFault_73 : decode cX11_findFault 73 = .ok (.getfield 74, 3) := by decide +kernel
theorem dX11_findFault_76 : decode cX11_findFault 76 = .ok (.iconst 1, 1) := by decide +kernel
theorem dX11_findFault_77 : decode cX11_findFault 77 = .ok (.isub, 1) := by decide +kernel
theorem dX11_findFault_78 : decode cX11_findFault 78 = .ok (.invokestatic 77, 3) := by decide +kernel
theorem dX11_findFault_81 : decode cX11_findFault 81 = .ok (.ifCond .eq 18, 3) := by decide +kernel
theorem dX11_findFault_84 : decode cX11_findFault 84 = .ok (.iload_n 1, 1) := by decide +kernel
theorem dX11_findFault_85 : decode cX11_findFault 85 = .ok (.iload_n 3, 1) := by decide +kernel
theorem dX11_findFault_86 : decode cX11_findFault 86 = .ok (.bipush 48, 2) := by decide +kernel
theorem dX11_findFault_88 : decode cX11_findFault 88 = .ok (.isub, 1) := by decide +kernel
theorem dX11_findFault_89 : decode cX11_findFault 89 = .ok (.ishr, 1) := by decide +kernel
theorem dX11_findFault_90 : decode cX11_findFault 90 = .ok (.iconst 1, 1) := by decide +kernel
theorem dX11_findFault_91 : decode cX11_findFault 91 = .ok (.iand, 1) := by decide +kernel
theorem dX11_findFault_92 : decode cX11_findFault 92 = .ok (.ifCond .ne 7, 3) := by decide +kernel
theorem dX11_findFault_95 : decode cX11_findFault 95 = .ok (.iconst 1, 1) := by decide +kernel
theorem dX11_findFault_96 : decode cX11_findFault 96 = .ok (.goto 4, 3) := by decide +kernel
theorem dX11_findFault_99 : decode cX11_findFault 99 = .ok (.iconst 0, 1) := by decide +kernel
theorem dX11_findFault_100 : decode cX11_findFault 100 = .ok (.istore 4, 2) := by decide +kernel
theorem dX11_findFault_102 : decode cX11_findFault 102 = .ok (.iload 4, 2) := by decide +kernel
theorem dX11_findFault_104 : decode cX11_findFault 104 = .ok (.ifCond .ne 5, 3) := by decide +kernel
theorem dX11_findFault_107 : decode cX11_findFault 107 = .ok (.iload_n 2, 1) := by decide +kernel
theorem dX11_findFault_108 : decode cX11_findFault 108 = .ok (.ireturn, 1) := by decide +kernel
theorem dX11_findFault_109 : decode cX11_findFault 109 = .ok (.iload_n 3, 1) := by decide +kernel
theorem dX11_findFault_110 : decode cX11_findFault 110 = .ok (.bipush 47, 2) := by decide +kernel
theorem dX11_findFault_112 : decode cX11_findFault 112 = .ok (.if_icmp .ne 7, 3) := by decide +kernel
theorem dX11_findFault_115 : decode cX11_findFault 115 = .ok (.iconst 0, 1) := by decide +kernel
theorem dX11_findFault_116 : decode cX11_findFault 116 = .ok (.goto 21, 3) := by decide +kernel
theorem dX11_findFault_119 : decode cX11_findFault 119 = .ok (.iload_n 2, 1) := by decide +kernel
theorem dX11_findFault_120 : decode cX11_findFault 120 = .ok (.iconst 2, 1) := by decide +kernel
theorem dX11_findFault_121 : decode cX11_findFault 121 = .ok (.irem, 1) := by decide +kernel
theorem dX11_findFault_122 : decode cX11_findFault 122 = .ok (.ifCond .ne 14, 3) := by decide +kernel
theorem dX11_findFault_125 : decode cX11_findFault 125 = .ok (.iload_n 1, 1) := by decide +kernel
theorem dX11_findFault_126 : decode cX11_findFault 126 = .ok (.iconst 1, 1) := by decide +kernel
theorem dX11_findFault_127 : decode cX11_findFault 127 = .ok (.iload_n 3, 1) := by decide +kernel
theorem dX11_findFault_128 : decode cX11_findFault 128 = .ok (.bipush 48, 2) := by decide +kernel
theorem dX11_findFault_130 : decode cX11_findFault 130 = .ok (.isub, 1) := by decide +kernel
theorem dX11_findFault_131 : decode cX11_findFault 131 = .ok (.ishl, 1) := by decide +kernel
theorem dX11_findFault_132 : decode cX11_findFault 132 = .ok (.ior, 1) := by decide +kernel
theorem dX11_findFault_133 : decode cX11_findFault 133 = .ok (.goto 4, 3) := by decide +kernel
theorem dX11_findFault_136 : decode cX11_findFault 136 = .ok (.iload_n 1, 1) := by decide +kernel
theorem dX11_findFault_137 : decode cX11_findFault 137 = .ok (.istore_n 1, 1) := by decide +kernel
theorem dX11_findFault_138 : decode cX11_findFault 138 = .ok (.iinc 2 1, 3) := by decide +kernel
theorem dX11_findFault_141 : decode cX11_findFault 141 = .ok (.goto (-137), 3) := by decide +kernel
theorem dX11_findFault_144 : decode cX11_findFault 144 = .ok (.aload_n 0, 1) := by decide +kernel
theorem dX11_findFault_145 : decode cX11_findFault 145 = .ok (.getfield 149, 3) := by decide +kernel
theorem dX11_findFault_148 : decode cX11_findFault 148 = .ok (.iconst 4, 1) := by decide +kernel
theorem dX11_findFault_149 : decode cX11_findFault 149 = .ok (.irem, 1) := by decide +kernel
theorem dX11_findFault_150 : decode cX11_findFault 150 = .ok (.iconst 3, 1) := by decide +kernel
theorem dX11_findFault_151 : decode cX11_findFault 151 = .ok (.if_icmp .ne 7, 3) := by decide +kernel
theorem dX11_findFault_154 : decode cX11_findFault 154 = .ok (.iconst (-1), 1) := by decide +kernel
theorem dX11_findFault_155 : decode cX11_findFault 155 = .ok (.goto 7, 3) := by decide +kernel
theorem dX11_findFault_158 : decode cX11_findFault 158 = .ok (.aload_n 0, 1) := by decide +kernel
theorem dX11_findFault_159 : decode cX11_findFault 159 = .ok (.getfield 149, 3) := by decide +kernel
theorem dX11_findFault_162 : decode cX11_findFault 162 = .ok (.ireturn, 1) := by decide +kernel
theorem dX11_fault_0 : decode cX11_fault 0 = .ok (.aload_n 0, 1) := by decide +kernel
theorem dX11_fault_1 : decode cX11_fault 1 = .ok (.iconst 0, 1) := by decide +kernel
theorem dX11_fault_2 : decode cX11_fault 2 = .ok (.putfield 70, 3) := by decide +kernel
theorem dX11_fault_5 : decode cX11_fault 5 = .ok (.aload_n 0, 1) := by decide +kernel
theorem dX11_fault_6 : decode cX11_fault 6 = .ok (.invokevirtual 152, 3) := by decide +kernel
theorem dX11_fault_9 : decode cX11_fault 9 = .ok (.ireturn, 1) := by decide +kernel
theorem dX11_build_0 : decode cX11_build 0 = .ok (.aload_n 0, 1) := by decide +kernel
theorem dX11_build_1 : decode cX11_build 1 = .ok (.getfield 149, 3) := by decide +kernel
theorem dX11_build_4 : decode cX11_build 4 = .ok (.iconst 1, 1) := by decide +kernel
theorem dX11_build_5 : decode cX11_build 5 = .ok (.iadd, 1) := by decide +kernel
theorem dX11_build_6 : decode cX11_build 6 = .ok (.iconst 4, 1) := by decide +kernel
theorem dX11_build_7 : decode cX11_build 7 = .ok (.idiv, 1) := by decide +kernel
theorem dX11_build_8 : decode cX11_build 8 = .ok (.istore_n 1, 1) := by decide +kernel
theorem dX11_build_9 : decode cX11_build 9 = .ok (.aload_n 0, 1) := by decide +kernel
theorem dX11_build_10 : decode cX11_build 10 = .ok (.aload_n 0, 1) := by decide +kernel
theorem dX11_build_11 : decode cX11_build 11 = .ok (.invokevirtual 152, 3) := by decide +kernel
theorem dX11_build_14 : decode cX11_build 14 = .ok (.iconst (-1), 1) := by decide +kernel
theorem dX11_build_15 : decode cX11_build 15 = .ok (.if_icmp .eq 7, 3) := by decide +kernel
theorem dX11_build_18 : decode cX11_build 18 = .ok (.iconst 1, 1) := by decide +kernel
theorem dX11_build_19 : decode cX11_build 19 = .ok (.goto 19, 3) := by decide +kernel
theorem dX11_build_22 : decode cX11_build 22 = .ok (.aload_n 0, 1) := by decide +kernel
theorem dX11_build_23 : decode cX11_build 23 = .ok (.getfield 81, 3) := by decide +kernel
theorem dX11_build_26 : decode cX11_build 26 = .ok (.iload_n 1, 1) := by decide +kernel
theorem dX11_build_27 : decode cX11_build 27 = .ok (.iadd, 1) := by decide +kernel
theorem dX11_build_28 : decode cX11_build 28 = .ok (.bipush 24, 2) := by decide +kernel
theorem dX11_build_30 : decode cX11_build 30 = .ok (.if_icmp .le 7, 3) := by decide +kernel
theorem dX11_build_33 : decode cX11_build 33 = .ok (.iconst 2, 1) := by decide +kernel
theorem dX11_build_34 : decode cX11_build 34 = .ok (.goto 4, 3) := by decide +kernel
theorem dX11_build_37 : decode cX11_build 37 = .ok (.iconst 0, 1) := by decide +kernel
theorem dX11_build_38 : decode cX11_build 38 = .ok (.putfield 70, 3) := by decide +kernel
theorem dX11_build_41 : decode cX11_build 41 = .ok (.aload_n 0, 1) := by decide +kernel
theorem dX11_build_42 : decode cX11_build 42 = .ok (.getfield 70, 3) := by decide +kernel
theorem dX11_build_45 : decode cX11_build 45 = .ok (.ifCond .le 5, 3) := by decide +kernel
theorem dX11_build_48 : decode cX11_build 48 = .ok (.iconst 0, 1) := by decide +kernel
theorem dX11_build_49 : decode cX11_build 49 = .ok (.ireturn, 1) := by decide +kernel
theorem dX11_build_50 : decode cX11_build 50 = .ok (.iconst 0, 1) := by decide +kernel
theorem dX11_build_51 : decode cX11_build 51 = .ok (.istore_n 2, 1) := by decide +kernel
theorem dX11_build_52 : decode cX11_build 52 = .ok (.iload_n 2, 1) := by decide +kernel
theorem dX11_build_53 : decode cX11_build 53 = .ok (.iload_n 1, 1) := by decide +kernel
theorem dX11_build_54 : decode cX11_build 54 = .ok (.if_icmp .ge 37, 3) := by decide +kernel
theorem dX11_build_57 : decode cX11_build 57 = .ok (.aload_n 0, 1) := by decide +kernel
theorem dX11_build_58 : decode cX11_build 58 = .ok (.aload_n 0, 1) := by decide +kernel
theorem dX11_build_59 : decode cX11_build 59 = .ok (.getfield 31, 3) := by decide +kernel
theorem dX11_build_62 : decode cX11_build 62 = .ok (.iconst 4, 1) := by decide +kernel
theorem dX11_build_63 : decode cX11_build 63 = .ok (.iload_n 2, 1) := by decide +kernel
theorem dX11_build_64 : decode cX11_build 64 = .ok (.imul, 1) := by decide +kernel
theorem dX11_build_65 : decode cX11_build 65 = .ok (.iaload, 1) := by decide +kernel
theorem dX11_build_66 : decode cX11_build 66 = .ok (.bipush 48, 2) := by decide +kernel
theorem dX11_build_68 : decode cX11_build 68 = .ok (.isub, 1) := by decide +kernel
theorem dX11_build_69 : decode cX11_build 69 = .ok (.aload_n 0, 1) := by decide +kernel
theorem dX11_build_70 : decode cX11_build 70 = .ok (.getfield 31, 3) := by decide +kernel
theorem dX11_build_73 : decode cX11_build 73 = .ok (.iconst 4, 1) := by decide +kernel
theorem dX11_build_74 : decode cX11_build 74 = .ok (.iload_n 2, 1) := by decide +kernel
theorem dX11_build_75 : decode cX11_build 75 = .ok (.imul, 1) := by decide +kernel
theorem dX11_build_76 : decode cX11_build 76 = .ok (.iconst 2, 1) := by decide +kernel
theorem dX11_build_77 : decode cX11_build 77 = .ok (.iadd, 1) := by decide +kernel
theorem dX11_build_78 : decode cX11_build 78 = .ok (.iaload, 1) := by decide +kernel
theorem dX11_build_79 : decode cX11_build 79 = .ok (.bipush 48, 2) := by decide +kernel
theorem dX11_build_81 : decode cX11_build 81 = .ok (.isub, 1) := by decide +kernel
theorem dX11_build_82 : decode cX11_build 82 = .ok (.invokevirtual 109, 3) := by decide +kernel
theorem dX11_build_85 : decode cX11_build 85 = .ok (.iinc 2 1, 3) := by decide +kernel
theorem dX11_build_88 : decode cX11_build 88 = .ok (.goto (-36), 3) := by decide +kernel
theorem dX11_build_91 : decode cX11_build 91 = .ok (.aload_n 0, 1) := by decide +kernel
theorem dX11_build_92 : decode cX11_build 92 = .ok (.iconst 0, 1) := by decide +kernel
theorem dX11_build_93 : decode cX11_build 93 = .ok (.putfield 149, 3) := by decide +kernel
theorem dX11_build_96 : decode cX11_build 96 = .ok (.aload_n 0, 1) := by decide +kernel
theorem dX11_build_97 : decode cX11_build 97 = .ok (.invokevirtual 91, 3) := by decide +kernel
theorem dX11_build_100 : decode cX11_build 100 = .ok (.iload_n 1, 1) := by decide +kernel
theorem dX11_build_101 : decode cX11_build 101 = .ok (.ireturn, 1) := by decide +kernel
theorem dX11_run_0 : decode cX11_run 0 = .ok (.aload_n 0, 1) := by decide +kernel
theorem dX11_run_1 : decode cX11_run 1 = .ok (.aload_n 0, 1) := by decide +kernel
theorem dX11_run_2 : decode cX11_run 2 = .ok (.iload_n 1, 1) := by decide +kernel
theorem dX11_run_3 : decode cX11_run 3 = .ok (.invokevirtual 155, 3) := by decide +kernel
theorem dX11_run_6 : decode cX11_run 6 = .ok (.iconst (-1), 1) := by decide +kernel
theorem dX11_run_7 : decode cX11_run 7 = .ok (.if_icmp .ne 7, 3) := by decide +kernel
theorem dX11_run_10 : decode cX11_run 10 = .ok (.iconst 1, 1) := by decide +kernel
theorem dX11_run_11 : decode cX11_run 11 = .ok (.goto 4, 3) := by decide +kernel
theorem dX11_run_14 : decode cX11_run 14 = .ok (.iconst 0, 1) := by decide +kernel
theorem dX11_run_15 : decode cX11_run 15 = .ok (.putfield 70, 3) := by decide +kernel
theorem dX11_run_18 : decode cX11_run 18 = .ok (.aload_n 0, 1) := by decide +kernel
theorem dX11_run_19 : decode cX11_run 19 = .ok (.getfield 70, 3) := by decide +kernel
theorem dX11_run_22 : decode cX11_run 22 = .ok (.ifCond .le 5, 3) := by decide +kernel
theorem dX11_run_25 : decode cX11_run 25 = .ok (.iconst 0, 1) := by decide +kernel
theorem dX11_run_26 : decode cX11_run 26 = .ok (.ireturn, 1) := by decide +kernel
theorem dX11_run_27 : decode cX11_run 27 = .ok (.aload_n 0, 1) := by decide +kernel
theorem dX11_run_28 : decode cX11_run 28 = .ok (.invokevirtual 158, 3) := by decide +kernel
theorem dX11_run_31 : decode cX11_run 31 = .ok (.aload_n 0, 1) := by decide +kernel
theorem dX11_run_32 : decode cX11_run 32 = .ok (.invokevirtual 161, 3) := by decide +kernel
theorem dX11_run_35 : decode cX11_run 35 = .ok (.ireturn, 1) := by decide +kernel
theorem dX11_out_0 : decode cX11_out 0 = .ok (.aload_n 0, 1) := by decide +kernel
theorem dX11_out_1 : decode cX11_out 1 = .ok (.iload_n 1, 1) := by decide +kernel
theorem dX11_out_2 : decode cX11_out 2 = .ok (.aload_n 0, 1) := by decide +kernel
theorem dX11_out_3 : decode cX11_out 3 = .ok (.getfield 81, 3) := by decide +kernel
theorem dX11_out_6 : decode cX11_out 6 = .ok (.iconst (-1), 1) := by decide +kernel
theorem dX11_out_7 : decode cX11_out 7 = .ok (.iconst 0, 1) := by decide +kernel
theorem dX11_out_8 : decode cX11_out 8 = .ok (.invokevirtual 124, 3) := by decide +kernel
theorem dX11_out_11 : decode cX11_out 11 = .ok (.ireturn, 1) := by decide +kernel
theorem dX11_outputs_0 : decode cX11_outputs 0 = .ok (.aload_n 0, 1) := by decide +kernel
theorem dX11_outputs_1 : decode cX11_outputs 1 = .ok (.iconst 0, 1) := by decide +kernel
theorem dX11_outputs_2 : decode cX11_outputs 2 = .ok (.putfield 70, 3) := by decide +kernel
theorem dX11_outputs_5 : decode cX11_outputs 5 = .ok (.lconst 0, 1) := by decide +kernel
theorem dX11_outputs_6 : decode cX11_outputs 6 = .ok (.lstore_n 1, 1) := by decide +kernel
theorem dX11_outputs_7 : decode cX11_outputs 7 = .ok (.iconst 0, 1) := by decide +kernel
theorem dX11_outputs_8 : decode cX11_outputs 8 = .ok (.istore_n 3, 1) := by decide +kernel
theorem dX11_outputs_9 : decode cX11_outputs 9 = .ok (.iload_n 3, 1) := by decide +kernel
theorem dX11_outputs_10 : decode cX11_outputs 10 = .ok (.iconst 1, 1) := by decide +kernel
theorem dX11_outputs_11 : decode cX11_outputs 11 = .ok (.aload_n 0, 1) := by decide +kernel
theorem dX11_outputs_12 : decode cX11_outputs 12 = .ok (.getfield 74, 3) := by decide +kernel
theorem dX11_outputs_15 : decode cX11_outputs 15 = .ok (.ishl, 1) := by decide +kernel
theorem dX11_outputs_16 : decode cX11_outputs 16 = .ok (.if_icmp .ge 19, 3) := by decide +kernel
theorem dX11_outputs_19 : decode cX11_outputs 19 = .ok (.lload_n 1, 1) := by decide +kernel
theorem dX11_outputs_20 : decode cX11_outputs 20 = .ok (.lconst 1, 1) := by decide +kernel
theorem dX11_outputs_21 : decode cX11_outputs 21 = .ok (.aload_n 0, 1) := by decide +kernel
theorem dX11_outputs_22 : decode cX11_outputs 22 = .ok (.iload_n 3, 1) := by decide +kernel
theorem dX11_outputs_23 : decode cX11_outputs 23 = .ok (.invokevirtual 164, 3) := by decide +kernel
theorem dX11_outputs_26 : decode cX11_outputs 26 = .ok (.lshl, 1) := by decide +kernel
theorem dX11_outputs_27 : decode cX11_outputs 27 = .ok (.lor, 1) := by decide +kernel
theorem dX11_outputs_28 : decode cX11_outputs 28 = .ok (.lstore_n 1, 1) := by decide +kernel
theorem dX11_outputs_29 : decode cX11_outputs 29 = .ok (.iinc 3 1, 3) := by decide +kernel
theorem dX11_outputs_32 : decode cX11_outputs 32 = .ok (.goto (-23), 3) := by decide +kernel
theorem dX11_outputs_35 : decode cX11_outputs 35 = .ok (.lload_n 1, 1) := by decide +kernel
theorem dX11_outputs_36 : decode cX11_outputs 36 = .ok (.lreturn, 1) := by decide +kernel
theorem dX11_isSorted_0 : decode cX11_isSorted 0 = .ok (.iconst 1, 1) := by decide +kernel
theorem dX11_isSorted_1 : decode cX11_isSorted 1 = .ok (.istore_n 3, 1) := by decide +kernel
theorem dX11_isSorted_2 : decode cX11_isSorted 2 = .ok (.iload_n 1, 1) := by decide +kernel
theorem dX11_isSorted_3 : decode cX11_isSorted 3 = .ok (.istore 4, 2) := by decide +kernel
theorem dX11_isSorted_5 : decode cX11_isSorted 5 = .ok (.iload 4, 2) := by decide +kernel
theorem dX11_isSorted_7 : decode cX11_isSorted 7 = .ok (.iconst 1, 1) := by decide +kernel
theorem dX11_isSorted_8 : decode cX11_isSorted 8 = .ok (.iadd, 1) := by decide +kernel
theorem dX11_isSorted_9 : decode cX11_isSorted 9 = .ok (.iload_n 2, 1) := by decide +kernel
theorem dX11_isSorted_10 : decode cX11_isSorted 10 = .ok (.if_icmp .ge 40, 3) := by decide +kernel
theorem dX11_isSorted_13 : decode cX11_isSorted 13 = .ok (.iload_n 3, 1) := by decide +kernel
theorem dX11_isSorted_14 : decode cX11_isSorted 14 = .ok (.ifCond .eq 28, 3) := by decide +kernel
theorem dX11_isSorted_17 : decode cX11_isSorted 17 = .ok (.iload_n 0, 1) := by decide +kernel
theorem dX11_isSorted_18 : decode cX11_isSorted 18 = .ok (.iload 4, 2) := by decide +kernel
theorem dX11_isSorted_20 : decode cX11_isSorted 20 = .ok (.ishr, 1) := by decide +kernel
theorem dX11_isSorted_21 : decode cX11_isSorted 21 = .ok (.iconst 1, 1) := by decide +kernel
theorem dX11_isSorted_22 : decode cX11_isSorted 22 = .ok (.iand, 1) := by decide +kernel
theorem dX11_isSorted_23 : decode cX11_isSorted 23 = .ok (.ifCond .eq 15, 3) := by decide +kernel
theorem dX11_isSorted_26 : decode cX11_isSorted 26 = .ok (.iload_n 0, 1) := by decide +kernel
theorem dX11_isSorted_27 : decode cX11_isSorted 27 = .ok (.iload 4, 2) := by decide +kernel
theorem dX11_isSorted_29 : decode cX11_isSorted 29 = .ok (.iconst 1, 1) := by decide +kernel
theorem dX11_isSorted_30 : decode cX11_isSorted 30 = .ok (.iadd, 1) := by decide +kernel
theorem dX11_isSorted_31 : decode cX11_isSorted 31 = .ok (.ishr, 1) := by decide +kernel
theorem dX11_isSorted_32 : decode cX11_isSorted 32 = .ok (.iconst 1, 1) := by decide +kernel
theorem dX11_isSorted_33 : decode cX11_isSorted 33 = .ok (.iand, 1) := by decide +kernel
theorem dX11_isSorted_34 : decode cX11_isSorted 34 = .ok (.iconst 1, 1) := by decide +kernel
theorem dX11_isSorted_35 : decode cX11_isSorted 35 = .ok (.if_icmp .ne 7, 3) := by decide +kernel
theorem dX11_isSorted_38 : decode cX11_isSorted 38 = .ok (.iconst 1, 1) := by decide +kernel
theorem dX11_isSorted_39 : decode cX11_isSorted 39 = .ok (.goto 4, 3) := by decide +kernel
theorem dX11_isSorted_42 : decode cX11_isSorted 42 = .ok (.iconst 0, 1) := by decide +kernel
theorem dX11_isSorted_43 : decode cX11_isSorted 43 = .ok (.istore_n 3, 1) := by decide +kernel
theorem dX11_isSorted_44 : decode cX11_isSorted 44 = .ok (.iinc 4 1, 3) := by decide +kernel
theorem dX11_isSorted_47 : decode cX11_isSorted 47 = .ok (.goto (-42), 3) := by decide +kernel
theorem dX11_isSorted_50 : decode cX11_isSorted 50 = .ok (.iload_n 3, 1) := by decide +kernel
theorem dX11_isSorted_51 : decode cX11_isSorted 51 = .ok (.ireturn, 1) := by decide +kernel
theorem dX11_unsorted_0 : decode cX11_unsorted 0 = .ok (.iconst 0, 1) := by decide +kernel
theorem dX11_unsorted_1 : decode cX11_unsorted 1 = .ok (.istore_n 3, 1) := by decide +kernel
theorem dX11_unsorted_2 : decode cX11_unsorted 2 = .ok (.iconst 0, 1) := by decide +kernel
theorem dX11_unsorted_3 : decode cX11_unsorted 3 = .ok (.istore 4, 2) := by decide +kernel
theorem dX11_unsorted_5 : decode cX11_unsorted 5 = .ok (.iload 4, 2) := by decide +kernel
theorem dX11_unsorted_7 : decode cX11_unsorted 7 = .ok (.iconst 1, 1) := by decide +kernel
theorem dX11_unsorted_8 : decode cX11_unsorted 8 = .ok (.aload_n 0, 1) := by decide +kernel
theorem dX11_unsorted_9 : decode cX11_unsorted 9 = .ok (.getfield 74, 3) := by decide +kernel
theorem dX11_unsorted_12 : decode cX11_unsorted 12 = .ok (.ishl, 1) := by decide +kernel
theorem dX11_unsorted_13 : decode cX11_unsorted 13 = .ok (.if_icmp .ge 40, 3) := by decide +kernel
theorem dX11_unsorted_16 : decode cX11_unsorted 16 = .ok (.iload_n 3, 1) := by decide +kernel
theorem dX11_unsorted_17 : decode cX11_unsorted 17 = .ok (.aload_n 0, 1) := by decide +kernel
theorem dX11_unsorted_18 : decode cX11_unsorted 18 = .ok (.iload 4, 2) := by decide +kernel
theorem dX11_unsorted_20 : decode cX11_unsorted 20 = .ok (.aload_n 0, 1) := by decide +kernel
theorem dX11_unsorted_21 : decode cX11_unsorted 21 = .ok (.getfield 81, 3) := by decide +kernel
theorem dX11_unsorted_24 : decode cX11_unsorted 24 = .ok (.iload_n 1, 1) := by decide +kernel
theorem dX11_unsorted_25 : decode cX11_unsorted 25 = .ok (.iload_n 2, 1) := by decide +kernel
theorem dX11_unsorted_26 : decode cX11_unsorted 26 = .ok (.invokevirtual 124, 3) := by decide +kernel
theorem dX11_unsorted_29 : decode cX11_unsorted 29 = .ok (.iconst 0, 1) := by decide +kernel
theorem dX11_unsorted_30 : decode cX11_unsorted 30 = .ok (.aload_n 0, 1) := by decide +kernel
theorem dX11_unsorted_31 : decode cX11_unsorted 31 = .ok (.getfield 74, 3) := by decide +kernel
theorem dX11_unsorted_34 : decode cX11_unsorted 34 = .ok (.invokestatic 167, 3) := by decide +kernel
theorem dX11_unsorted_37 : decode cX11_unsorted 37 = .ok (.ifCond .eq 7, 3) := by decide +kernel
theorem dX11_unsorted_40 : decode cX11_unsorted 40 = .ok (.iconst 0, 1) := by decide +kernel
theorem dX11_unsorted_41 : decode cX11_unsorted 41 = .ok (.goto 4, 3) := by decide +kernel
theorem dX11_unsorted_44 : decode cX11_unsorted 44 = .ok (.iconst 1, 1) := by decide +kernel
theorem dX11_unsorted_45 : decode cX11_unsorted 45 = .ok (.iadd, 1) := by decide +kernel
theorem dX11_unsorted_46 : decode cX11_unsorted 46 = .ok (.istore_n 3, 1) := by decide +kernel
theorem dX11_unsorted_47 : decode cX11_unsorted 47 = .ok (.iinc 4 1, 3) := by decide +kernel
theorem dX11_unsorted_50 : decode cX11_unsorted 50 = .ok (.goto (-45), 3) := by decide +kernel
theorem dX11_unsorted_53 : decode cX11_unsorted 53 = .ok (.iload_n 3, 1) := by decide +kernel
theorem dX11_unsorted_54 : decode cX11_unsorted 54 = .ok (.ireturn, 1) := by decide +kernel
theorem dX11_sorts_0 : decode cX11_sorts 0 = .ok (.aload_n 0, 1) := by decide +kernel
theorem dX11_sorts_1 : decode cX11_sorts 1 = .ok (.iconst 0, 1) := by decide +kernel
theorem dX11_sorts_2 : decode cX11_sorts 2 = .ok (.putfield 70, 3) := by decide +kernel
theorem dX11_sorts_5 : decode cX11_sorts 5 = .ok (.aload_n 0, 1) := by decide +kernel
theorem dX11_sorts_6 : decode cX11_sorts 6 = .ok (.iconst (-1), 1) := by decide +kernel
theorem dX11_sorts_7 : decode cX11_sorts 7 = .ok (.iconst 0, 1) := by decide +kernel
theorem dX11_sorts_8 : decode cX11_sorts 8 = .ok (.invokevirtual 170, 3) := by decide +kernel
theorem dX11_sorts_11 : decode cX11_sorts 11 = .ok (.ifCond .ne 7, 3) := by decide +kernel
theorem dX11_sorts_14 : decode cX11_sorts 14 = .ok (.iconst 1, 1) := by decide +kernel
theorem dX11_sorts_15 : decode cX11_sorts 15 = .ok (.goto 4, 3) := by decide +kernel
theorem dX11_sorts_18 : decode cX11_sorts 18 = .ok (.iconst 0, 1) := by decide +kernel
theorem dX11_sorts_19 : decode cX11_sorts 19 = .ok (.ireturn, 1) := by decide +kernel
theorem dX11_sorted_0 : decode cX11_sorted 0 = .ok (.aload_n 0, 1) := by decide +kernel
theorem dX11_sorted_1 : decode cX11_sorted 1 = .ok (.iconst 0, 1) := by decide +kernel
theorem dX11_sorted_2 : decode cX11_sorted 2 = .ok (.putfield 70, 3) := by decide +kernel
theorem dX11_sorted_5 : decode cX11_sorted 5 = .ok (.iconst 0, 1) := by decide +kernel
theorem dX11_sorted_6 : decode cX11_sorted 6 = .ok (.istore_n 1, 1) := by decide +kernel
theorem dX11_sorted_7 : decode cX11_sorted 7 = .ok (.iconst 0, 1) := by decide +kernel
theorem dX11_sorted_8 : decode cX11_sorted 8 = .ok (.istore_n 2, 1) := by decide +kernel
theorem dX11_sorted_9 : decode cX11_sorted 9 = .ok (.iload_n 2, 1) := by decide +kernel
theorem dX11_sorted_10 : decode cX11_sorted 10 = .ok (.aload_n 0, 1) := by decide +kernel
theorem dX11_sorted_11 : decode cX11_sorted 11 = .ok (.getfield 88, 3) := by decide +kernel
theorem dX11_sorted_14 : decode cX11_sorted 14 = .ok (.if_icmp .ge 33, 3) := by decide +kernel
theorem dX11_sorted_17 : decode cX11_sorted 17 = .ok (.aload_n 0, 1) := by decide +kernel
theorem dX11_sorted_18 : decode cX11_sorted 18 = .ok (.iload_n 2, 1) := by decide +kernel
theorem dX11_sorted_19 : decode cX11_sorted 19 = .ok (.invokevirtual 173, 3) := by decide +kernel
theorem dX11_sorted_22 : decode cX11_sorted 22 = .ok (.aload_n 0, 1) := by decide +kernel
theorem dX11_sorted_23 : decode cX11_sorted 23 = .ok (.invokevirtual 158, 3) := by decide +kernel
theorem dX11_sorted_26 : decode cX11_sorted 26 = .ok (.iload_n 1, 1) := by decide +kernel
theorem dX11_sorted_27 : decode cX11_sorted 27 = .ok (.aload_n 0, 1) := by decide +kernel
theorem dX11_sorted_28 : decode cX11_sorted 28 = .ok (.invokevirtual 94, 3) := by decide +kernel
theorem dX11_sorted_31 : decode cX11_sorted 31 = .ok (.ifCond .ne 7, 3) := by decide +kernel
theorem dX11_sorted_34 : decode cX11_sorted 34 = .ok (.iconst 1, 1) := by decide +kernel
theorem dX11_sorted_35 : decode cX11_sorted 35 = .ok (.goto 4, 3) := by decide +kernel
theorem dX11_sorted_38 : decode cX11_sorted 38 = .ok (.iconst 0, 1) := by decide +kernel
theorem dX11_sorted_39 : decode cX11_sorted 39 = .ok (.iadd, 1) := by decide +kernel
theorem dX11_sorted_40 : decode cX11_sorted 40 = .ok (.istore_n 1, 1) := by decide +kernel
theorem dX11_sorted_41 : decode cX11_sorted 41 = .ok (.iinc 2 1, 3) := by decide +kernel
theorem dX11_sorted_44 : decode cX11_sorted 44 = .ok (.goto (-35), 3) := by decide +kernel
theorem dX11_sorted_47 : decode cX11_sorted 47 = .ok (.iload_n 1, 1) := by decide +kernel
theorem dX11_sorted_48 : decode cX11_sorted 48 = .ok (.ireturn, 1) := by decide +kernel
theorem dX11_wrong_0 : decode cX11_wrong 0 = .ok (.aload_n 0, 1) := by decide +kernel
theorem dX11_wrong_1 : decode cX11_wrong 1 = .ok (.iload_n 1, 1) := by decide +kernel
theorem dX11_wrong_2 : decode cX11_wrong 2 = .ok (.ifCond .ge 7, 3) := by decide +kernel
theorem dX11_wrong_5 : decode cX11_wrong 5 = .ok (.iconst 1, 1) := by decide +kernel
theorem dX11_wrong_6 : decode cX11_wrong 6 = .ok (.goto 4, 3) := by decide +kernel
theorem dX11_wrong_9 : decode cX11_wrong 9 = .ok (.iconst 0, 1) := by decide +kernel
theorem dX11_wrong_10 : decode cX11_wrong 10 = .ok (.putfield 70, 3) := by decide +kernel
theorem dX11_wrong_13 : decode cX11_wrong 13 = .ok (.iload_n 1, 1) := by decide +kernel
theorem dX11_wrong_14 : decode cX11_wrong 14 = .ok (.istore_n 2, 1) := by decide +kernel
theorem dX11_wrong_15 : decode cX11_wrong 15 = .ok (.iconst 0, 1) := by decide +kernel
theorem dX11_wrong_16 : decode cX11_wrong 16 = .ok (.istore_n 3, 1) := by decide +kernel
theorem dX11_wrong_17 : decode cX11_wrong 17 = .ok (.iload_n 3, 1) := by decide +kernel
theorem dX11_wrong_18 : decode cX11_wrong 18 = .ok (.iconst 1, 1) := by decide +kernel
theorem dX11_wrong_19 : decode cX11_wrong 19 = .ok (.aload_n 0, 1) := by decide +kernel
theorem dX11_wrong_20 : decode cX11_wrong 20 = .ok (.getfield 74, 3) := by decide +kernel
theorem dX11_wrong_23 : decode cX11_wrong 23 = .ok (.ishl, 1) := by decide +kernel
theorem dX11_wrong_24 : decode cX11_wrong 24 = .ok (.if_icmp .ge 41, 3) := by decide +kernel
theorem dX11_wrong_27 : decode cX11_wrong 27 = .ok (.aload_n 0, 1) := by decide +kernel
theorem dX11_wrong_28 : decode cX11_wrong 28 = .ok (.getfield 70, 3) := by decide +kernel
theorem dX11_wrong_31 : decode cX11_wrong 31 = .ok (.ifCond .ne 34, 3) := by decide +kernel
theorem dX11_wrong_34 : decode cX11_wrong 34 = .ok (.aload_n 0, 1) := by decide +kernel
theorem dX11_wrong_35 : decode cX11_wrong 35 = .ok (.iload_n 3, 1) := by decide +kernel
theorem dX11_wrong_36 : decode cX11_wrong 36 = .ok (.invokevirtual 164, 3) := by decide +kernel
theorem dX11_wrong_39 : decode cX11_wrong 39 = .ok (.iconst 0, 1) := by decide +kernel
theorem dX11_wrong_40 : decode cX11_wrong 40 = .ok (.aload_n 0, 1) := by decide +kernel
theorem dX11_wrong_41 : decode cX11_wrong 41 = .ok (.getfield 74, 3) := by decide +kernel
theorem dX11_wrong_44 : decode cX11_wrong 44 = .ok (.invokestatic 167, 3) := by decide +kernel
theorem dX11_wrong_47 : decode cX11_wrong 47 = .ok (.ifCond .ne 12, 3) := by decide +kernel
theorem dX11_wrong_50 : decode cX11_wrong 50 = .ok (.iload_n 2, 1) := by decide +kernel
theorem dX11_wrong_51 : decode cX11_wrong 51 = .ok (.ifCond .ne 5, 3) := by decide +kernel
theorem dX11_wrong_54 : decode cX11_wrong 54 = .ok (.iload_n 3, 1) := by decide +kernel
theorem dX11_wrong_55 : decode cX11_wrong 55 = .ok (.ireturn, 1) := by decide +kernel
theorem dX11_wrong_56 : decode cX11_wrong 56 = .ok (.iinc 2 (-1), 3) := by decide +kernel
theorem dX11_wrong_59 : decode cX11_wrong 59 = .ok (.iinc 3 1, 3) := by decide +kernel
theorem dX11_wrong_62 : decode cX11_wrong 62 = .ok (.goto (-45), 3) := by decide +kernel
theorem dX11_wrong_65 : decode cX11_wrong 65 = .ok (.aload_n 0, 1) := by decide +kernel
theorem dX11_wrong_66 : decode cX11_wrong 66 = .ok (.getfield 70, 3) := by decide +kernel
theorem dX11_wrong_69 : decode cX11_wrong 69 = .ok (.ifCond .le 7, 3) := by decide +kernel
theorem dX11_wrong_72 : decode cX11_wrong 72 = .ok (.iconst 0, 1) := by decide +kernel
theorem dX11_wrong_73 : decode cX11_wrong 73 = .ok (.goto 4, 3) := by decide +kernel
theorem dX11_wrong_76 : decode cX11_wrong 76 = .ok (.iconst (-1), 1) := by decide +kernel
theorem dX11_wrong_77 : decode cX11_wrong 77 = .ok (.ireturn, 1) := by decide +kernel
theorem dX11_behind_0 : decode cX11_behind 0 = .ok (.iload_n 2, 1) := by decide +kernel
theorem dX11_behind_1 : decode cX11_behind 1 = .ok (.aload_n 0, 1) := by decide +kernel
theorem dX11_behind_2 : decode cX11_behind 2 = .ok (.getfield 74, 3) := by decide +kernel
theorem dX11_behind_5 : decode cX11_behind 5 = .ok (.idiv, 1) := by decide +kernel
theorem dX11_behind_6 : decode cX11_behind 6 = .ok (.istore_n 3, 1) := by decide +kernel
theorem dX11_behind_7 : decode cX11_behind 7 = .ok (.iload_n 2, 1) := by decide +kernel
theorem dX11_behind_8 : decode cX11_behind 8 = .ok (.aload_n 0, 1) := by decide +kernel
theorem dX11_behind_9 : decode cX11_behind 9 = .ok (.getfield 74, 3) := by decide +kernel
theorem dX11_behind_12 : decode cX11_behind 12 = .ok (.irem, 1) := by decide +kernel
theorem dX11_behind_13 : decode cX11_behind 13 = .ok (.istore 4, 2) := by decide +kernel
theorem dX11_behind_15 : decode cX11_behind 15 = .ok (.iload_n 3, 1) := by decide +kernel
theorem dX11_behind_16 : decode cX11_behind 16 = .ok (.iload 4, 2) := by decide +kernel
theorem dX11_behind_18 : decode cX11_behind 18 = .ok (.if_icmp .ge 25, 3) := by decide +kernel
theorem dX11_behind_21 : decode cX11_behind 21 = .ok (.iload_n 1, 1) := by decide +kernel
theorem dX11_behind_22 : decode cX11_behind 22 = .ok (.iload_n 3, 1) := by decide +kernel
theorem dX11_behind_23 : decode cX11_behind 23 = .ok (.ishr, 1) := by decide +kernel
theorem dX11_behind_24 : decode cX11_behind 24 = .ok (.iconst 1, 1) := by decide +kernel
theorem dX11_behind_25 : decode cX11_behind 25 = .ok (.iand, 1) := by decide +kernel
theorem dX11_behind_26 : decode cX11_behind 26 = .ok (.iconst 1, 1) := by decide +kernel
theorem dX11_behind_27 : decode cX11_behind 27 = .ok (.if_icmp .ne 16, 3) := by decide +kernel
theorem dX11_behind_30 : decode cX11_behind 30 = .ok (.iload_n 1, 1) := by decide +kernel
theorem dX11_behind_31 : decode cX11_behind 31 = .ok (.iload 4, 2) := by decide +kernel
theorem dX11_behind_33 : decode cX11_behind 33 = .ok (.ishr, 1) := by decide +kernel
theorem dX11_behind_34 : decode cX11_behind 34 = .ok (.iconst 1, 1) := by decide +kernel
theorem dX11_behind_35 : decode cX11_behind 35 = .ok (.iand, 1) := by decide +kernel
theorem dX11_behind_36 : decode cX11_behind 36 = .ok (.ifCond .ne 7, 3) := by decide +kernel
theorem dX11_behind_39 : decode cX11_behind 39 = .ok (.iconst 1, 1) := by decide +kernel
theorem dX11_behind_40 : decode cX11_behind 40 = .ok (.goto 4, 3) := by decide +kernel
theorem dX11_behind_43 : decode cX11_behind 43 = .ok (.iconst 0, 1) := by decide +kernel
theorem dX11_behind_44 : decode cX11_behind 44 = .ok (.istore 5, 2) := by decide +kernel
theorem dX11_behind_46 : decode cX11_behind 46 = .ok (.iload 5, 2) := by decide +kernel
theorem dX11_behind_48 : decode cX11_behind 48 = .ok (.ifCond .eq 16, 3) := by decide +kernel
theorem dX11_behind_51 : decode cX11_behind 51 = .ok (.iload_n 1, 1) := by decide +kernel
theorem dX11_behind_52 : decode cX11_behind 52 = .ok (.iconst 1, 1) := by decide +kernel
theorem dX11_behind_53 : decode cX11_behind 53 = .ok (.iload_n 3, 1) := by decide +kernel
theorem dX11_behind_54 : decode cX11_behind 54 = .ok (.ishl, 1) := by decide +kernel
theorem dX11_behind_55 : decode cX11_behind 55 = .ok (.iconst 1, 1) := by decide +kernel
theorem dX11_behind_56 : decode cX11_behind 56 = .ok (.iload 4, 2) := by decide +kernel
theorem dX11_behind_58 : decode cX11_behind 58 = .ok (.ishl, 1) := by decide +kernel
theorem dX11_behind_59 : decode cX11_behind 59 = .ok (.ior, 1) := by decide +kernel
theorem dX11_behind_60 : decode cX11_behind 60 = .ok (.ixor, 1) := by decide +kernel
theorem dX11_behind_61 : decode cX11_behind 61 = .ok (.goto 4, 3) := by decide +kernel
theorem dX11_behind_64 : decode cX11_behind 64 = .ok (.iload_n 1, 1) := by decide +kernel
theorem dX11_behind_65 : decode cX11_behind 65 = .ok (.ireturn, 1) := by decide +kernel
theorem dX11_isDone_0 : decode cX11_isDone 0 = .ok (.iconst 1, 1) := by decide +kernel
theorem dX11_isDone_1 : decode cX11_isDone 1 = .ok (.istore 6, 2) := by decide +kernel
theorem dX11_isDone_3 : decode cX11_isDone 3 = .ok (.iconst 0, 1) := by decide +kernel
theorem dX11_isDone_4 : decode cX11_isDone 4 = .ok (.istore 7, 2) := by decide +kernel
theorem dX11_isDone_6 : decode cX11_isDone 6 = .ok (.iload 7, 2) := by decide +kernel
theorem dX11_isDone_8 : decode cX11_isDone 8 = .ok (.iconst 1, 1) := by decide +kernel
theorem dX11_isDone_9 : decode cX11_isDone 9 = .ok (.aload_n 0, 1) := by decide +kernel
theorem dX11_isDone_10 : decode cX11_isDone 10 = .ok (.getfield 74, 3) := by decide +kernel
theorem dX11_isDone_13 : decode cX11_isDone 13 = .ok (.ishl, 1) := by decide +kernel
theorem dX11_isDone_14 : decode cX11_isDone 14 = .ok (.if_icmp .ge 54, 3) := by decide +kernel
theorem dX11_isDone_17 : decode cX11_isDone 17 = .ok (.iload 6, 2) := by decide +kernel
theorem dX11_isDone_19 : decode cX11_isDone 19 = .ok (.ifCond .eq 49, 3) := by decide +kernel
theorem dX11_isDone_22 : decode cX11_isDone 22 = .ok (.lload_n 1, 1) := by decide +kernel
theorem dX11_isDone_23 : decode cX11_isDone 23 = .ok (.iload 7, 2) := by decide +kernel
theorem dX11_isDone_25 : decode cX11_isDone 25 = .ok (.lshr, 1) := by decide +kernel
theorem dX11_isDone_26 : decode cX11_isDone 26 = .ok (.lconst 1, 1) := by decide +kernel
theorem dX11_isDone_27 : decode cX11_isDone 27 = .ok (.land, 1) := by decide +kernel
theorem dX11_isDone_28 : decode cX11_isDone 28 = .ok (.lconst 1, 1) := by decide +kernel
theorem dX11_isDone_29 : decode cX11_isDone 29 = .ok (.lcmp, 1) := by decide +kernel
theorem dX11_isDone_30 : decode cX11_isDone 30 = .ok (.ifCond .ne 32, 3) := by decide +kernel
theorem dX11_isDone_33 : decode cX11_isDone 33 = .ok (.aload_n 0, 1) := by decide +kernel
theorem dX11_isDone_34 : decode cX11_isDone 34 = .ok (.aload_n 0, 1) := by decide +kernel
theorem dX11_isDone_35 : decode cX11_isDone 35 = .ok (.aload_n 0, 1) := by decide +kernel
theorem dX11_isDone_36 : decode cX11_isDone 36 = .ok (.iload 7, 2) := by decide +kernel
theorem dX11_isDone_38 : decode cX11_isDone 38 = .ok (.iload_n 3, 1) := by decide +kernel
theorem dX11_isDone_39 : decode cX11_isDone 39 = .ok (.invokevirtual 176, 3) := by decide +kernel
theorem dX11_isDone_42 : decode cX11_isDone 42 = .ok (.iload 4, 2) := by decide +kernel
theorem dX11_isDone_44 : decode cX11_isDone 44 = .ok (.invokevirtual 176, 3) := by decide +kernel
theorem dX11_isDone_47 : decode cX11_isDone 47 = .ok (.iload 5, 2) := by decide +kernel
theorem dX11_isDone_49 : decode cX11_isDone 49 = .ok (.invokevirtual 176, 3) := by decide +kernel
theorem dX11_isDone_52 : decode cX11_isDone 52 = .ok (.iconst 0, 1) := by decide +kernel
theorem dX11_isDone_53 : decode cX11_isDone 53 = .ok (.aload_n 0, 1) := by decide +kernel
theorem dX11_isDone_54 : decode cX11_isDone 54 = .ok (.getfield 74, 3) := by decide +kernel
theorem dX11_isDone_57 : decode cX11_isDone 57 = .ok (.invokestatic 167, 3) := by decide +kernel
theorem dX11_isDone_60 : decode cX11_isDone 60 = .ok (.istore 6, 2) := by decide +kernel
theorem dX11_isDone_62 : decode cX11_isDone 62 = .ok (.iinc 7 1, 3) := by decide +kernel
theorem dX11_isDone_65 : decode cX11_isDone 65 = .ok (.goto (-59), 3) := by decide +kernel
theorem dX11_isDone_68 : decode cX11_isDone 68 = .ok (.iload 6, 2) := by decide +kernel
theorem dX11_isDone_70 : decode cX11_isDone 70 = .ok (.ireturn, 1) := by decide +kernel
theorem dX11_finishes_0 : decode cX11_finishes 0 = .ok (.aload_n 0, 1) := by decide +kernel
theorem dX11_finishes_1 : decode cX11_finishes 1 = .ok (.iload_n 1, 1) := by decide +kernel
theorem dX11_finishes_2 : decode cX11_finishes 2 = .ok (.iconst 0, 1) := by decide +kernel
theorem dX11_finishes_3 : decode cX11_finishes 3 = .ok (.iconst 3, 1) := by decide +kernel
theorem dX11_finishes_4 : decode cX11_finishes 4 = .ok (.invokestatic 77, 3) := by decide +kernel
theorem dX11_finishes_7 : decode cX11_finishes 7 = .ok (.ifCond .eq 7, 3) := by decide +kernel
theorem dX11_finishes_10 : decode cX11_finishes 10 = .ok (.iconst 0, 1) := by decide +kernel
theorem dX11_finishes_11 : decode cX11_finishes 11 = .ok (.goto 4, 3) := by decide +kernel
theorem dX11_finishes_14 : decode cX11_finishes 14 = .ok (.iconst 1, 1) := by decide +kernel
theorem dX11_finishes_15 : decode cX11_finishes 15 = .ok (.putfield 70, 3) := by decide +kernel
theorem dX11_finishes_18 : decode cX11_finishes 18 = .ok (.aload_n 0, 1) := by decide +kernel
theorem dX11_finishes_19 : decode cX11_finishes 19 = .ok (.getfield 70, 3) := by decide +kernel
theorem dX11_finishes_22 : decode cX11_finishes 22 = .ok (.ifCond .le 5, 3) := by decide +kernel
theorem dX11_finishes_25 : decode cX11_finishes 25 = .ok (.iconst 0, 1) := by decide +kernel
theorem dX11_finishes_26 : decode cX11_finishes 26 = .ok (.ireturn, 1) := by decide +kernel
theorem dX11_finishes_27 : decode cX11_finishes 27 = .ok (.lconst 0, 1) := by decide +kernel
theorem dX11_finishes_28 : decode cX11_finishes 28 = .ok (.lstore_n 2, 1) := by decide +kernel
theorem dX11_finishes_29 : decode cX11_finishes 29 = .ok (.iconst 0, 1) := by decide +kernel
theorem dX11_finishes_30 : decode cX11_finishes 30 = .ok (.istore 4, 2) := by decide +kernel
theorem dX11_finishes_32 : decode cX11_finishes 32 = .ok (.iload 4, 2) := by decide +kernel
theorem dX11_finishes_34 : decode cX11_finishes 34 = .ok (.iconst 1, 1) := by decide +kernel
theorem dX11_finishes_35 : decode cX11_finishes 35 = .ok (.aload_n 0, 1) := by decide +kernel
theorem dX11_finishes_36 : decode cX11_finishes 36 = .ok (.getfield 74, 3) := by decide +kernel
theorem dX11_finishes_39 : decode cX11_finishes 39 = .ok (.ishl, 1) := by decide +kernel
theorem dX11_finishes_40 : decode cX11_finishes 40 = .ok (.if_icmp .ge 20, 3) := by decide +kernel
theorem dX11_finishes_43 : decode cX11_finishes 43 = .ok (.lload_n 2, 1) := by decide +kernel
theorem dX11_finishes_44 : decode cX11_finishes 44 = .ok (.lconst 1, 1) := by decide +kernel
theorem dX11_finishes_45 : decode cX11_finishes 45 = .ok (.aload_n 0, 1) := by decide +kernel
theorem dX11_finishes_46 : decode cX11_finishes 46 = .ok (.iload 4, 2) := by decide +kernel
theorem dX11_finishes_48 : decode cX11_finishes 48 = .ok (.invokevirtual 164, 3) := by decide +kernel
theorem dX11_finishes_51 : decode cX11_finishes 51 = .ok (.lshl, 1) := by decide +kernel
theorem dX11_finishes_52 : decode cX11_finishes 52 = .ok (.lor, 1) := by decide +kernel
theorem dX11_finishes_53 : decode cX11_finishes 53 = .ok (.lstore_n 2, 1) := by decide +kernel
theorem dX11_finishes_54 : decode cX11_finishes 54 = .ok (.iinc 4 1, 3) := by decide +kernel
theorem dX11_finishes_57 : decode cX11_finishes 57 = .ok (.goto (-25), 3) := by decide +kernel
theorem dX11_finishes_60 : decode cX11_finishes 60 = .ok (.aload_n 0, 1) := by decide +kernel
theorem dX11_finishes_61 : decode cX11_finishes 61 = .ok (.getfield 74, 3) := by decide +kernel
theorem dX11_finishes_64 : decode cX11_finishes 64 = .ok (.aload_n 0, 1) := by decide +kernel
theorem dX11_finishes_65 : decode cX11_finishes 65 = .ok (.getfield 74, 3) := by decide +kernel
theorem dX11_finishes_68 : decode cX11_finishes 68 = .ok (.imul, 1) := by decide +kernel
theorem dX11_finishes_69 : decode cX11_finishes 69 = .ok (.istore 4, 2) := by decide +kernel
theorem dX11_finishes_71 : decode cX11_finishes 71 = .ok (.iconst 0, 1) := by decide +kernel
theorem dX11_finishes_72 : decode cX11_finishes 72 = .ok (.istore 5, 2) := by decide +kernel
theorem dX11_finishes_74 : decode cX11_finishes 74 = .ok (.iload 5, 2) := by decide +kernel
theorem dX11_finishes_76 : decode cX11_finishes 76 = .ok (.iload_n 1, 1) := by decide +kernel
theorem dX11_finishes_77 : decode cX11_finishes 77 = .ok (.if_icmp .gt 103, 3) := by decide +kernel
theorem dX11_finishes_80 : decode cX11_finishes 80 = .ok (.iconst 0, 1) := by decide +kernel
theorem dX11_finishes_81 : decode cX11_finishes 81 = .ok (.istore 6, 2) := by decide +kernel
theorem dX11_finishes_83 : decode cX11_finishes 83 = .ok (.iload 6, 2) := by decide +kernel
theorem dX11_finishes_85 : decode cX11_finishes 85 = .ok (.iload 5, 2) := by decide +kernel
theorem dX11_finishes_87 : decode cX11_finishes 87 = .ok (.ifCond .le 8, 3) := by decide +kernel
theorem dX11_finishes_90 : decode cX11_finishes 90 = .ok (.iload 4, 2) := by decide +kernel
theorem dX11_finishes_92 : decode cX11_finishes 92 = .ok (.goto 4, 3) := by decide +kernel
theorem dX11_finishes_95 : decode cX11_finishes 95 = .ok (.iconst 1, 1) := by decide +kernel
theorem dX11_finishes_96 : decode cX11_finishes 96 = .ok (.if_icmp .ge 78, 3) := by decide +kernel
theorem dX11_finishes_99 : decode cX11_finishes 99 = .ok (.iconst 0, 1) := by decide +kernel
theorem dX11_finishes_100 : decode cX11_finishes 100 = .ok (.istore 7, 2) := by decide +kernel
theorem dX11_finishes_102 : decode cX11_finishes 102 = .ok (.iload 7, 2) := by decide +kernel
theorem dX11_finishes_104 : decode cX11_finishes 104 = .ok (.iload 5, 2) := by decide +kernel
theorem dX11_finishes_106 : decode cX11_finishes 106 = .ok (.iconst 1, 1) := by decide +kernel
theorem dX11_finishes_107 : decode cX11_finishes 107 = .ok (.if_icmp .le 8, 3) := by decide +kernel
theorem dX11_finishes_110 : decode cX11_finishes 110 = .ok (.iload 4, 2) := by decide +kernel
theorem dX11_finishes_112 : decode cX11_finishes 112 = .ok (.goto 4, 3) := by decide +kernel
theorem dX11_finishes_115 : decode cX11_finishes 115 = .ok (.iconst 1, 1) := by decide +kernel
theorem dX11_finishes_116 : decode cX11_finishes 116 = .ok (.if_icmp .ge 52, 3) := by decide +kernel
theorem dX11_finishes_119 : decode cX11_finishes 119 = .ok (.iconst 0, 1) := by decide +kernel
theorem dX11_finishes_120 : decode cX11_finishes 120 = .ok (.istore 8, 2) := by decide +kernel
theorem dX11_finishes_122 : decode cX11_finishes 122 = .ok (.iload 8, 2) := by decide +kernel
theorem dX11_finishes_124 : decode cX11_finishes 124 = .ok (.iload 5, 2) := by decide +kernel
theorem dX11_finishes_126 : decode cX11_finishes 126 = .ok (.iconst 2, 1) := by decide +kernel
theorem dX11_finishes_127 : decode cX11_finishes 127 = .ok (.if_icmp .le 8, 3) := by decide +kernel
theorem dX11_finishes_130 : decode cX11_finishes 130 = .ok (.iload 4, 2) := by decide +kernel
theorem dX11_finishes_132 : decode cX11_finishes 132 = .ok (.goto 4, 3) := by decide +kernel
theorem dX11_finishes_135 : decode cX11_finishes 135 = .ok (.iconst 1, 1) := by decide +kernel
theorem dX11_finishes_136 : decode cX11_finishes 136 = .ok (.if_icmp .ge 26, 3) := by decide +kernel
theorem dX11_finishes_139 : decode cX11_finishes 139 = .ok (.aload_n 0, 1) := by decide +kernel
theorem dX11_finishes_140 : decode cX11_finishes 140 = .ok (.lload_n 2, 1) := by decide +kernel
theorem dX11_finishes_141 : decode cX11_finishes 141 = .ok (.iload 6, 2) := by decide +kernel
theorem dX11_finishes_143 : decode cX11_finishes 143 = .ok (.iload 7, 2) := by decide +kernel
theorem dX11_finishes_145 : decode cX11_finishes 145 = .ok (.iload 8, 2) := by decide +kernel
theorem dX11_finishes_147 : decode cX11_finishes 147 = .ok (.invokevirtual 179, 3) := by decide +kernel
theorem dX11_finishes_150 : decode cX11_finishes 150 = .ok (.ifCond .eq 6, 3) := by decide +kernel
theorem dX11_finishes_153 : decode cX11_finishes 153 = .ok (.iload 5, 2) := by decide +kernel
theorem dX11_finishes_155 : decode cX11_finishes 155 = .ok (.ireturn, 1) := by decide +kernel
theorem dX11_finishes_156 : decode cX11_finishes 156 = .ok (.iinc 8 1, 3) := by decide +kernel
theorem dX11_finishes_159 : decode cX11_finishes 159 = .ok (.goto (-37), 3) := by decide +kernel
theorem dX11_finishes_162 : decode cX11_finishes 162 = .ok (.iinc 7 1, 3) := by decide +kernel
theorem dX11_finishes_165 : decode cX11_finishes 165 = .ok (.goto (-63), 3) := by decide +kernel
theorem dX11_finishes_168 : decode cX11_finishes 168 = .ok (.iinc 6 1, 3) := by decide +kernel
theorem dX11_finishes_171 : decode cX11_finishes 171 = .ok (.goto (-88), 3) := by decide +kernel
theorem dX11_finishes_174 : decode cX11_finishes 174 = .ok (.iinc 5 1, 3) := by decide +kernel
theorem dX11_finishes_177 : decode cX11_finishes 177 = .ok (.goto (-103), 3) := by decide +kernel
theorem dX11_finishes_180 : decode cX11_finishes 180 = .ok (.iconst (-1), 1) := by decide +kernel
theorem dX11_finishes_181 : decode cX11_finishes 181 = .ok (.ireturn, 1) := by decide +kernel
theorem dX11_merges_0 : decode cX11_merges 0 = .ok (.aload_n 0, 1) := by decide +kernel
theorem dX11_merges_1 : decode cX11_merges 1 = .ok (.iload_n 1, 1) := by decide +kernel
theorem dX11_merges_2 : decode cX11_merges 2 = .ok (.iconst 1, 1) := by decide +kernel
theorem dX11_merges_3 : decode cX11_merges 3 = .ok (.aload_n 0, 1) := by decide +kernel
theorem dX11_merges_4 : decode cX11_merges 4 = .ok (.getfield 74, 3) := by decide +kernel
theorem dX11_merges_7 : decode cX11_merges 7 = .ok (.iconst 1, 1) := by decide +kernel
theorem dX11_merges_8 : decode cX11_merges 8 = .ok (.isub, 1) := by decide +kernel
theorem dX11_merges_9 : decode cX11_merges 9 = .ok (.invokestatic 77, 3) := by decide +kernel
theorem dX11_merges_12 : decode cX11_merges 12 = .ok (.ifCond .eq 7, 3) := by decide +kernel
theorem dX11_merges_15 : decode cX11_merges 15 = .ok (.iconst 0, 1) := by decide +kernel
theorem dX11_merges_16 : decode cX11_merges 16 = .ok (.goto 4, 3) := by decide +kernel
theorem dX11_merges_19 : decode cX11_merges 19 = .ok (.iconst 1, 1) := by decide +kernel
theorem dX11_merges_20 : decode cX11_merges 20 = .ok (.putfield 70, 3) := by decide +kernel
theorem dX11_merges_23 : decode cX11_merges 23 = .ok (.aload_n 0, 1) := by decide +kernel
theorem dX11_merges_24 : decode cX11_merges 24 = .ok (.getfield 70, 3) := by decide +kernel
theorem dX11_merges_27 : decode cX11_merges 27 = .ok (.ifCond .ne 7, 3) := by decide +kernel
theorem dX11_merges_30 : decode cX11_merges 30 = .ok (.iconst 1, 1) := by decide +kernel
theorem dX11_merges_31 : decode cX11_merges 31 = .ok (.goto 4, 3) := by decide +kernel
theorem dX11_merges_34 : decode cX11_merges 34 = .ok (.iconst 0, 1) := by decide +kernel
theorem dX11_merges_35 : decode cX11_merges 35 = .ok (.istore_n 2, 1) := by decide +kernel
theorem dX11_merges_36 : decode cX11_merges 36 = .ok (.iconst 0, 1) := by decide +kernel
theorem dX11_merges_37 : decode cX11_merges 37 = .ok (.istore_n 3, 1) := by decide +kernel
theorem dX11_merges_38 : decode cX11_merges 38 = .ok (.iload_n 3, 1) := by decide +kernel
theorem dX11_merges_39 : decode cX11_merges 39 = .ok (.iconst 1, 1) := by decide +kernel
theorem dX11_merges_40 : decode cX11_merges 40 = .ok (.aload_n 0, 1) := by decide +kernel
theorem dX11_merges_41 : decode cX11_merges 41 = .ok (.getfield 74, 3) := by decide +kernel
theorem dX11_merges_44 : decode cX11_merges 44 = .ok (.ishl, 1) := by decide +kernel
theorem dX11_merges_45 : decode cX11_merges 45 = .ok (.if_icmp .ge 56, 3) := by decide +kernel
theorem dX11_merges_48 : decode cX11_merges 48 = .ok (.iload_n 2, 1) := by decide +kernel
theorem dX11_merges_49 : decode cX11_merges 49 = .ok (.ifCond .eq 52, 3) := by decide +kernel
theorem dX11_merges_52 : decode cX11_merges 52 = .ok (.iload_n 3, 1) := by decide +kernel
theorem dX11_merges_53 : decode cX11_merges 53 = .ok (.iconst 0, 1) := by decide +kernel
theorem dX11_merges_54 : decode cX11_merges 54 = .ok (.iload_n 1, 1) := by decide +kernel
theorem dX11_merges_55 : decode cX11_merges 55 = .ok (.invokestatic 167, 3) := by decide +kernel
theorem dX11_merges_58 : decode cX11_merges 58 = .ok (.ifCond .eq 31, 3) := by decide +kernel
theorem dX11_merges_61 : decode cX11_merges 61 = .ok (.iload_n 3, 1) := by decide +kernel
theorem dX11_merges_62 : decode cX11_merges 62 = .ok (.iload_n 1, 1) := by decide +kernel
theorem dX11_merges_63 : decode cX11_merges 63 = .ok (.aload_n 0, 1) := by decide +kernel
theorem dX11_merges_64 : decode cX11_merges 64 = .ok (.getfield 74, 3) := by decide +kernel
theorem dX11_merges_67 : decode cX11_merges 67 = .ok (.invokestatic 167, 3) := by decide +kernel
theorem dX11_merges_70 : decode cX11_merges 70 = .ok (.ifCond .eq 19, 3) := by decide +kernel
theorem dX11_merges_73 : decode cX11_merges 73 = .ok (.aload_n 0, 1) := by decide +kernel
theorem dX11_merges_74 : decode cX11_merges 74 = .ok (.iload_n 3, 1) := by decide +kernel
theorem dX11_merges_75 : decode cX11_merges 75 = .ok (.invokevirtual 164, 3) := by decide +kernel
theorem dX11_merges_78 : decode cX11_merges 78 = .ok (.iconst 0, 1) := by decide +kernel
theorem dX11_merges_79 : decode cX11_merges 79 = .ok (.aload_n 0, 1) := by decide +kernel
theorem dX11_merges_80 : decode cX11_merges 80 = .ok (.getfield 74, 3) := by decide +kernel
theorem dX11_merges_83 : decode cX11_merges 83 = .ok (.invokestatic 167, 3) := by decide +kernel
theorem dX11_merges_86 : decode cX11_merges 86 = .ok (.ifCond .eq 7, 3) := by decide +kernel
theorem dX11_merges_89 : decode cX11_merges 89 = .ok (.iconst 1, 1) := by decide +kernel
theorem dX11_merges_90 : decode cX11_merges 90 = .ok (.goto 4, 3) := by decide +kernel
theorem dX11_merges_93 : decode cX11_merges 93 = .ok (.iconst 0, 1) := by decide +kernel
theorem dX11_merges_94 : decode cX11_merges 94 = .ok (.istore_n 2, 1) := by decide +kernel
theorem dX11_merges_95 : decode cX11_merges 95 = .ok (.iinc 3 1, 3) := by decide +kernel
theorem dX11_merges_98 : decode cX11_merges 98 = .ok (.goto (-60), 3) := by decide +kernel
theorem dX11_merges_101 : decode cX11_merges 101 = .ok (.iload_n 2, 1) := by decide +kernel
theorem dX11_merges_102 : decode cX11_merges 102 = .ok (.ireturn, 1) := by decide +kernel
theorem dX11_chooses_0 : decode cX11_chooses 0 = .ok (.aload_n 0, 1) := by decide +kernel
theorem dX11_chooses_1 : decode cX11_chooses 1 = .ok (.iload_n 1, 1) := by decide +kernel
theorem dX11_chooses_2 : decode cX11_chooses 2 = .ok (.iconst 1, 1) := by decide +kernel
theorem dX11_chooses_3 : decode cX11_chooses 3 = .ok (.aload_n 0, 1) := by decide +kernel
theorem dX11_chooses_4 : decode cX11_chooses 4 = .ok (.getfield 74, 3) := by decide +kernel
theorem dX11_chooses_7 : decode cX11_chooses 7 = .ok (.iconst 1, 1) := by decide +kernel
theorem dX11_chooses_8 : decode cX11_chooses 8 = .ok (.isub, 1) := by decide +kernel
theorem dX11_chooses_9 : decode cX11_chooses 9 = .ok (.invokestatic 77, 3) := by decide +kernel
theorem dX11_chooses_12 : decode cX11_chooses 12 = .ok (.ifCond .eq 7, 3) := by decide +kernel
theorem dX11_chooses_15 : decode cX11_chooses 15 = .ok (.iconst 0, 1) := by decide +kernel
theorem dX11_chooses_16 : decode cX11_chooses 16 = .ok (.goto 4, 3) := by decide +kernel
theorem dX11_chooses_19 : decode cX11_chooses 19 = .ok (.iconst 1, 1) := by decide +kernel
theorem dX11_chooses_20 : decode cX11_chooses 20 = .ok (.putfield 70, 3) := by decide +kernel
theorem dX11_chooses_23 : decode cX11_chooses 23 = .ok (.aload_n 0, 1) := by decide +kernel
theorem dX11_chooses_24 : decode cX11_chooses 24 = .ok (.getfield 70, 3) := by decide +kernel
theorem dX11_chooses_27 : decode cX11_chooses 27 = .ok (.ifCond .ne 7, 3) := by decide +kernel
theorem dX11_chooses_30 : decode cX11_chooses 30 = .ok (.iconst 1, 1) := by decide +kernel
theorem dX11_chooses_31 : decode cX11_chooses 31 = .ok (.goto 4, 3) := by decide +kernel
theorem dX11_chooses_34 : decode cX11_chooses 34 = .ok (.iconst 0, 1) := by decide +kernel
theorem dX11_chooses_35 : decode cX11_chooses 35 = .ok (.istore_n 2, 1) := by decide +kernel
theorem dX11_chooses_36 : decode cX11_chooses 36 = .ok (.iconst 0, 1) := by decide +kernel
theorem dX11_chooses_37 : decode cX11_chooses 37 = .ok (.istore_n 3, 1) := by decide +kernel
theorem dX11_chooses_38 : decode cX11_chooses 38 = .ok (.iload_n 3, 1) := by decide +kernel
theorem dX11_chooses_39 : decode cX11_chooses 39 = .ok (.aload_n 0, 1) := by decide +kernel
theorem dX11_chooses_40 : decode cX11_chooses 40 = .ok (.getfield 88, 3) := by decide +kernel
theorem dX11_chooses_43 : decode cX11_chooses 43 = .ok (.if_icmp .ge 58, 3) := by decide +kernel
theorem dX11_chooses_46 : decode cX11_chooses 46 = .ok (.iload_n 2, 1) := by decide +kernel
theorem dX11_chooses_47 : decode cX11_chooses 47 = .ok (.ifCond .eq 54, 3) := by decide +kernel
theorem dX11_chooses_50 : decode cX11_chooses 50 = .ok (.aload_n 0, 1) := by decide +kernel
theorem dX11_chooses_51 : decode cX11_chooses 51 = .ok (.iload_n 3, 1) := by decide +kernel
theorem dX11_chooses_52 : decode cX11_chooses 52 = .ok (.invokevirtual 173, 3) := by decide +kernel
theorem dX11_chooses_55 : decode cX11_chooses 55 = .ok (.aload_n 0, 1) := by decide +kernel
theorem dX11_chooses_56 : decode cX11_chooses 56 = .ok (.invokevirtual 158, 3) := by decide +kernel
theorem dX11_chooses_59 : decode cX11_chooses 59 = .ok (.iconst 0, 1) := by decide +kernel
theorem dX11_chooses_60 : decode cX11_chooses 60 = .ok (.istore 4, 2) := by decide +kernel
theorem dX11_chooses_62 : decode cX11_chooses 62 = .ok (.iload 4, 2) := by decide +kernel
theorem dX11_chooses_64 : decode cX11_chooses 64 = .ok (.iload_n 1, 1) := by decide +kernel
theorem dX11_chooses_65 : decode cX11_chooses 65 = .ok (.if_icmp .ge 30, 3) := by decide +kernel
theorem dX11_chooses_68 : decode cX11_chooses 68 = .ok (.iload_n 2, 1) := by decide +kernel
theorem dX11_chooses_69 : decode cX11_chooses 69 = .ok (.ifCond .eq 18, 3) := by decide +kernel
theorem dX11_chooses_72 : decode cX11_chooses 72 = .ok (.aload_n 0, 1) := by decide +kernel
theorem dX11_chooses_73 : decode cX11_chooses 73 = .ok (.getfield 22, 3) := by decide +kernel
theorem dX11_chooses_76 : decode cX11_chooses 76 = .ok (.iload 4, 2) := by decide +kernel
theorem dX11_chooses_78 : decode cX11_chooses 78 = .ok (.iaload, 1) := by decide +kernel
theorem dX11_chooses_79 : decode cX11_chooses 79 = .ok (.iload_n 1, 1) := by decide +kernel
theorem dX11_chooses_80 : decode cX11_chooses 80 = .ok (.if_icmp .ge 7, 3) := by decide +kernel
theorem dX11_chooses_83 : decode cX11_chooses 83 = .ok (.iconst 1, 1) := by decide +kernel
theorem dX11_chooses_84 : decode cX11_chooses 84 = .ok (.goto 4, 3) := by decide +kernel
theorem dX11_chooses_87 : decode cX11_chooses 87 = .ok (.iconst 0, 1) := by decide +kernel
theorem dX11_chooses_88 : decode cX11_chooses 88 = .ok (.istore_n 2, 1) := by decide +kernel
theorem dX11_chooses_89 : decode cX11_chooses 89 = .ok (.iinc 4 1, 3) := by decide +kernel
theorem dX11_chooses_92 : decode cX11_chooses 92 = .ok (.goto (-30), 3) := by decide +kernel
theorem dX11_chooses_95 : decode cX11_chooses 95 = .ok (.iinc 3 1, 3) := by decide +kernel
theorem dX11_chooses_98 : decode cX11_chooses 98 = .ok (.goto (-60), 3) := by decide +kernel
theorem dX11_chooses_101 : decode cX11_chooses 101 = .ok (.iload_n 2, 1) := by decide +kernel
theorem dX11_chooses_102 : decode cX11_chooses 102 = .ok (.ireturn, 1) := by decide +kernel
theorem dX11_off_0 : decode cX11_off 0 = .ok (.aload_n 0, 1) := by decide +kernel
theorem dX11_off_1 : decode cX11_off 1 = .ok (.iconst 0, 1) := by decide +kernel
theorem dX11_off_2 : decode cX11_off 2 = .ok (.putfield 70, 3) := by decide +kernel
theorem dX11_off_5 : decode cX11_off 5 = .ok (.iconst 0, 1) := by decide +kernel
theorem dX11_off_6 : decode cX11_off 6 = .ok (.istore_n 1, 1) := by decide +kernel
theorem dX11_off_7 : decode cX11_off 7 = .ok (.iconst 0, 1) := by decide +kernel
theorem dX11_off_8 : decode cX11_off 8 = .ok (.istore_n 2, 1) := by decide +kernel
theorem dX11_off_9 : decode cX11_off 9 = .ok (.iload_n 2, 1) := by decide +kernel
theorem dX11_off_10 : decode cX11_off 10 = .ok (.aload_n 0, 1) := by decide +kernel
theorem dX11_off_11 : decode cX11_off 11 = .ok (.getfield 88, 3) := by decide +kernel
theorem dX11_off_14 : decode cX11_off 14 = .ok (.if_icmp .ge 78, 3) := by decide +kernel
theorem dX11_off_17 : decode cX11_off 17 = .ok (.aload_n 0, 1) := by decide +kernel
theorem dX11_off_18 : decode cX11_off 18 = .ok (.iload_n 2, 1) := by decide +kernel
theorem dX11_off_19 : decode cX11_off 19 = .ok (.invokevirtual 173, 3) := by decide +kernel
theorem dX11_off_22 : decode cX11_off 22 = .ok (.aload_n 0, 1) := by decide +kernel
theorem dX11_off_23 : decode cX11_off 23 = .ok (.invokevirtual 158, 3) := by decide +kernel
theorem dX11_off_26 : decode cX11_off 26 = .ok (.iconst 0, 1) := by decide +kernel
theorem dX11_off_27 : decode cX11_off 27 = .ok (.istore_n 3, 1) := by decide +kernel
theorem dX11_off_28 : decode cX11_off 28 = .ok (.iload_n 3, 1) := by decide +kernel
theorem dX11_off_29 : decode cX11_off 29 = .ok (.aload_n 0, 1) := by decide +kernel
theorem dX11_off_30 : decode cX11_off 30 = .ok (.getfield 74, 3) := by decide +kernel
theorem dX11_off_33 : decode cX11_off 33 = .ok (.if_icmp .ge 53, 3) := by decide +kernel
theorem dX11_off_36 : decode cX11_off 36 = .ok (.aload_n 0, 1) := by decide +kernel
theorem dX11_off_37 : decode cX11_off 37 = .ok (.getfield 22, 3) := by decide +kernel
theorem dX11_off_40 : decode cX11_off 40 = .ok (.iload_n 3, 1) := by decide +kernel
theorem dX11_off_41 : decode cX11_off 41 = .ok (.iaload, 1) := by decide +kernel
theorem dX11_off_42 : decode cX11_off 42 = .ok (.iload_n 3, 1) := by decide +kernel
theorem dX11_off_43 : decode cX11_off 43 = .ok (.if_icmp .ge 14, 3) := by decide +kernel
theorem dX11_off_46 : decode cX11_off 46 = .ok (.iload_n 3, 1) := by decide +kernel
theorem dX11_off_47 : decode cX11_off 47 = .ok (.aload_n 0, 1) := by decide +kernel
theorem dX11_off_48 : decode cX11_off 48 = .ok (.getfield 22, 3) := by decide +kernel
theorem dX11_off_51 : decode cX11_off 51 = .ok (.iload_n 3, 1) := by decide +kernel
theorem dX11_off_52 : decode cX11_off 52 = .ok (.iaload, 1) := by decide +kernel
theorem dX11_off_53 : decode cX11_off 53 = .ok (.isub, 1) := by decide +kernel
theorem dX11_off_54 : decode cX11_off 54 = .ok (.goto 11, 3) := by decide +kernel
theorem dX11_off_57 : decode cX11_off 57 = .ok (.aload_n 0, 1) := by decide +kernel
theorem dX11_off_58 : decode cX11_off 58 = .ok (.getfield 22, 3) := by decide +kernel
theorem dX11_off_61 : decode cX11_off 61 = .ok (.iload_n 3, 1) := by decide +kernel
theorem dX11_off_62 : decode cX11_off 62 = .ok (.iaload, 1) := by decide +kernel
theorem dX11_off_63 : decode cX11_off 63 = .ok (.iload_n 3, 1) := by decide +kernel
theorem dX11_off_64 : decode cX11_off 64 = .ok (.isub, 1) := by decide +kernel
theorem dX11_off_65 : decode cX11_off 65 = .ok (.istore 4, 2) := by decide +kernel
theorem dX11_off_67 : decode cX11_off 67 = .ok (.iload 4, 2) := by decide +kernel
theorem dX11_off_69 : decode cX11_off 69 = .ok (.iload_n 1, 1) := by decide +kernel
theorem dX11_off_70 : decode cX11_off 70 = .ok (.if_icmp .le 8, 3) := by decide +kernel
theorem dX11_off_73 : decode cX11_off 73 = .ok (.iload 4, 2) := by decide +kernel
theorem dX11_off_75 : decode cX11_off 75 = .ok (.goto 4, 3) := by decide +kernel
theorem dX11_off_78 : decode cX11_off 78 = .ok (.iload_n 1, 1) := by decide +kernel
theorem dX11_off_79 : decode cX11_off 79 = .ok (.istore_n 1, 1) := by decide +kernel
theorem dX11_off_80 : decode cX11_off 80 = .ok (.iinc 3 1, 3) := by decide +kernel
theorem dX11_off_83 : decode cX11_off 83 = .ok (.goto (-55), 3) := by decide +kernel
theorem dX11_off_86 : decode cX11_off 86 = .ok (.iinc 2 1, 3) := by decide +kernel
theorem dX11_off_89 : decode cX11_off 89 = .ok (.goto (-80), 3) := by decide +kernel
theorem dX11_off_92 : decode cX11_off 92 = .ok (.iload_n 1, 1) := by decide +kernel
theorem dX11_off_93 : decode cX11_off 93 = .ok (.ireturn, 1) := by decide +kernel
theorem dX11_reaches_0 : decode cX11_reaches 0 = .ok (.iconst 0, 1) := by decide +kernel
theorem dX11_reaches_1 : decode cX11_reaches 1 = .ok (.istore_n 1, 1) := by decide +kernel
theorem dX11_reaches_2 : decode cX11_reaches 2 = .ok (.iload_n 1, 1) := by decide +kernel
theorem dX11_reaches_3 : decode cX11_reaches 3 = .ok (.aload_n 0, 1) := by decide +kernel
theorem dX11_reaches_4 : decode cX11_reaches 4 = .ok (.getfield 88, 3) := by decide +kernel
theorem dX11_reaches_7 : decode cX11_reaches 7 = .ok (.if_icmp .ge 24, 3) := by decide +kernel
theorem dX11_reaches_10 : decode cX11_reaches 10 = .ok (.aload_n 0, 1) := by decide +kernel
theorem dX11_reaches_11 : decode cX11_reaches 11 = .ok (.getfield 41, 3) := by decide +kernel
theorem dX11_reaches_14 : decode cX11_reaches 14 = .ok (.iload_n 1, 1) := by decide +kernel
theorem dX11_reaches_15 : decode cX11_reaches 15 = .ok (.iload_n 1, 1) := by decide +kernel
theorem dX11_reaches_16 : decode cX11_reaches 16 = .ok (.ifCond .ne 7, 3) := by decide +kernel
theorem dX11_reaches_19 : decode cX11_reaches 19 = .ok (.iconst 1, 1) := by decide +kernel
theorem dX11_reaches_20 : decode cX11_reaches 20 = .ok (.goto 4, 3) := by decide +kernel
theorem dX11_reaches_23 : decode cX11_reaches 23 = .ok (.iconst 0, 1) := by decide +kernel
theorem dX11_reaches_24 : decode cX11_reaches 24 = .ok (.bastore, 1) := by decide +kernel
theorem dX11_reaches_25 : decode cX11_reaches 25 = .ok (.iinc 1 1, 3) := by decide +kernel
theorem dX11_reaches_28 : decode cX11_reaches 28 = .ok (.goto (-26), 3) := by decide +kernel
theorem dX11_reaches_31 : decode cX11_reaches 31 = .ok (.iconst 0, 1) := by decide +kernel
theorem dX11_reaches_32 : decode cX11_reaches 32 = .ok (.istore_n 1, 1) := by decide +kernel
theorem dX11_reaches_33 : decode cX11_reaches 33 = .ok (.iload_n 1, 1) := by decide +kernel
theorem dX11_reaches_34 : decode cX11_reaches 34 = .ok (.aload_n 0, 1) := by decide +kernel
theorem dX11_reaches_35 : decode cX11_reaches 35 = .ok (.getfield 81, 3) := by decide +kernel
theorem dX11_reaches_38 : decode cX11_reaches 38 = .ok (.if_icmp .ge 121, 3) := by decide +kernel
theorem dX11_reaches_41 : decode cX11_reaches 41 = .ok (.iconst 0, 1) := by decide +kernel
theorem dX11_reaches_42 : decode cX11_reaches 42 = .ok (.istore_n 2, 1) := by decide +kernel
theorem dX11_reaches_43 : decode cX11_reaches 43 = .ok (.iload_n 2, 1) := by decide +kernel
theorem dX11_reaches_44 : decode cX11_reaches 44 = .ok (.aload_n 0, 1) := by decide +kernel
theorem dX11_reaches_45 : decode cX11_reaches 45 = .ok (.getfield 88, 3) := by decide +kernel
theorem dX11_reaches_48 : decode cX11_reaches 48 = .ok (.if_icmp .ge 35, 3) := by decide +kernel
theorem dX11_reaches_51 : decode cX11_reaches 51 = .ok (.aload_n 0, 1) := by decide +kernel
theorem dX11_reaches_52 : decode cX11_reaches 52 = .ok (.getfield 41, 3) := by decide +kernel
theorem dX11_reaches_55 : decode cX11_reaches 55 = .ok (.sipush 720, 3) := by decide +kernel
theorem dX11_reaches_58 : decode cX11_reaches 58 = .ok (.iload_n 1, 1) := by decide +kernel
theorem dX11_reaches_59 : decode cX11_reaches 59 = .ok (.iconst 1, 1) := by decide +kernel
theorem dX11_reaches_60 : decode cX11_reaches 60 = .ok (.iadd, 1) := by decide +kernel
theorem dX11_reaches_61 : decode cX11_reaches 61 = .ok (.imul, 1) := by decide +kernel
theorem dX11_reaches_62 : decode cX11_reaches 62 = .ok (.iload_n 2, 1) := by decide +kernel
theorem dX11_reaches_63 : decode cX11_reaches 63 = .ok (.iadd, 1) := by decide +kernel
theorem dX11_reaches_64 : decode cX11_reaches 64 = .ok (.aload_n 0, 1) := by decide +kernel
theorem dX11_reaches_65 : decode cX11_reaches 65 = .ok (.getfield 41, 3) := by decide +kernel
theorem dX11_reaches_68 : decode cX11_reaches 68 = .ok (.sipush 720, 3) := by decide +kernel
theorem dX11_reaches_71 : decode cX11_reaches 71 = .ok (.iload_n 1, 1) := by decide +kernel
theorem dX11_reaches_72 : decode cX11_reaches 72 = .ok (.imul, 1) := by decide +kernel
theorem dX11_reaches_73 : decode cX11_reaches 73 = .ok (.iload_n 2, 1) := by decide +kernel
theorem dX11_reaches_74 : decode cX11_reaches 74 = .ok (.iadd, 1) := by decide +kernel
theorem dX11_reaches_75 : decode cX11_reaches 75 = .ok (.baload, 1) := by decide +kernel
theorem dX11_reaches_76 : decode cX11_reaches 76 = .ok (.bastore, 1) := by decide +kernel
theorem dX11_reaches_77 : decode cX11_reaches 77 = .ok (.iinc 2 1, 3) := by decide +kernel
theorem dX11_reaches_80 : decode cX11_reaches 80 = .ok (.goto (-37), 3) := by decide +kernel
theorem dX11_reaches_83 : decode cX11_reaches 83 = .ok (.iconst 0, 1) := by decide +kernel
theorem dX11_reaches_84 : decode cX11_reaches 84 = .ok (.istore_n 2, 1) := by decide +kernel
theorem dX11_reaches_85 : decode cX11_reaches 85 = .ok (.iload_n 2, 1) := by decide +kernel
theorem dX11_reaches_86 : decode cX11_reaches 86 = .ok (.aload_n 0, 1) := by decide +kernel
theorem dX11_reaches_87 : decode cX11_reaches 87 = .ok (.getfield 88, 3) := by decide +kernel
theorem dX11_reaches_90 : decode cX11_reaches 90 = .ok (.if_icmp .ge 63, 3) := by decide +kernel
theorem dX11_reaches_93 : decode cX11_reaches 93 = .ok (.aload_n 0, 1) := by decide +kernel
theorem dX11_reaches_94 : decode cX11_reaches 94 = .ok (.getfield 41, 3) := by decide +kernel
theorem dX11_reaches_97 : decode cX11_reaches 97 = .ok (.sipush 720, 3) := by decide +kernel
theorem dX11_reaches_100 : decode cX11_reaches 100 = .ok (.iload_n 1, 1) := by decide +kernel
theorem dX11_reaches_101 : decode cX11_reaches 101 = .ok (.imul, 1) := by decide +kernel
theorem dX11_reaches_102 : decode cX11_reaches 102 = .ok (.iload_n 2, 1) := by decide +kernel
theorem dX11_reaches_103 : decode cX11_reaches 103 = .ok (.iadd, 1) := by decide +kernel
theorem dX11_reaches_104 : decode cX11_reaches 104 = .ok (.baload, 1) := by decide +kernel
theorem dX11_reaches_105 : decode cX11_reaches 105 = .ok (.ifCond .eq 42, 3) := by decide +kernel
theorem dX11_reaches_108 : decode cX11_reaches 108 = .ok (.aload_n 0, 1) := by decide +kernel
theorem dX11_reaches_109 : decode cX11_reaches 109 = .ok (.iload_n 2, 1) := by decide +kernel
theorem dX11_reaches_110 : decode cX11_reaches 110 = .ok (.invokevirtual 173, 3) := by decide +kernel
theorem dX11_reaches_113 : decode cX11_reaches 113 = .ok (.aload_n 0, 1) := by decide +kernel
theorem dX11_reaches_114 : decode cX11_reaches 114 = .ok (.aload_n 0, 1) := by decide +kernel
theorem dX11_reaches_115 : decode cX11_reaches 115 = .ok (.getfield 7, 3) := by decide +kernel
theorem dX11_reaches_118 : decode cX11_reaches 118 = .ok (.iload_n 1, 1) := by decide +kernel
theorem dX11_reaches_119 : decode cX11_reaches 119 = .ok (.iaload, 1) := by decide +kernel
theorem dX11_reaches_120 : decode cX11_reaches 120 = .ok (.aload_n 0, 1) := by decide +kernel
theorem dX11_reaches_121 : decode cX11_reaches 121 = .ok (.getfield 13, 3) := by decide +kernel
theorem dX11_reaches_124 : decode cX11_reaches 124 = .ok (.iload_n 1, 1) := by decide +kernel
theorem dX11_reaches_125 : decode cX11_reaches 125 = .ok (.iaload, 1) := by decide +kernel
theorem dX11_reaches_126 : decode cX11_reaches 126 = .ok (.invokevirtual 98, 3) := by decide +kernel
theorem dX11_reaches_129 : decode cX11_reaches 129 = .ok (.aload_n 0, 1) := by decide +kernel
theorem dX11_reaches_130 : decode cX11_reaches 130 = .ok (.getfield 41, 3) := by decide +kernel
theorem dX11_reaches_133 : decode cX11_reaches 133 = .ok (.sipush 720, 3) := by decide +kernel
theorem dX11_reaches_136 : decode cX11_reaches 136 = .ok (.iload_n 1, 1) := by decide +kernel
theorem dX11_reaches_137 : decode cX11_reaches 137 = .ok (.iconst 1, 1) := by decide +kernel
theorem dX11_reaches_138 : decode cX11_reaches 138 = .ok (.iadd, 1) := by decide +kernel
theorem dX11_reaches_139 : decode cX11_reaches 139 = .ok (.imul, 1) := by decide +kernel
theorem dX11_reaches_140 : decode cX11_reaches 140 = .ok (.aload_n 0, 1) := by decide +kernel
theorem dX11_reaches_141 : decode cX11_reaches 141 = .ok (.invokevirtual 94, 3) := by decide +kernel
theorem dX11_reaches_144 : decode cX11_reaches 144 = .ok (.iadd, 1) := by decide +kernel
theorem dX11_reaches_145 : decode cX11_reaches 145 = .ok (.iconst 1, 1) := by decide +kernel
theorem dX11_reaches_146 : decode cX11_reaches 146 = .ok (.bastore, 1) := by decide +kernel
theorem dX11_reaches_147 : decode cX11_reaches 147 = .ok (.iinc 2 1, 3) := by decide +kernel
theorem dX11_reaches_150 : decode cX11_reaches 150 = .ok (.goto (-65), 3) := by decide +kernel
theorem dX11_reaches_153 : decode cX11_reaches 153 = .ok (.iinc 1 1, 3) := by decide +kernel
theorem dX11_reaches_156 : decode cX11_reaches 156 = .ok (.goto (-123), 3) := by decide +kernel
theorem dX11_reaches_159 : decode cX11_reaches 159 = .ok (.return_, 1) := by decide +kernel
theorem dX11_routes_0 : decode cX11_routes 0 = .ok (.aload_n 0, 1) := by decide +kernel
theorem dX11_routes_1 : decode cX11_routes 1 = .ok (.iconst 0, 1) := by decide +kernel
theorem dX11_routes_2 : decode cX11_routes 2 = .ok (.putfield 70, 3) := by decide +kernel
theorem dX11_routes_5 : decode cX11_routes 5 = .ok (.aload_n 0, 1) := by decide +kernel
theorem dX11_routes_6 : decode cX11_routes 6 = .ok (.invokevirtual 183, 3) := by decide +kernel
theorem dX11_routes_9 : decode cX11_routes 9 = .ok (.iconst 0, 1) := by decide +kernel
theorem dX11_routes_10 : decode cX11_routes 10 = .ok (.istore_n 1, 1) := by decide +kernel
theorem dX11_routes_11 : decode cX11_routes 11 = .ok (.iconst 0, 1) := by decide +kernel
theorem dX11_routes_12 : decode cX11_routes 12 = .ok (.istore_n 2, 1) := by decide +kernel
theorem dX11_routes_13 : decode cX11_routes 13 = .ok (.iload_n 2, 1) := by decide +kernel
theorem dX11_routes_14 : decode cX11_routes 14 = .ok (.aload_n 0, 1) := by decide +kernel
theorem dX11_routes_15 : decode cX11_routes 15 = .ok (.getfield 88, 3) := by decide +kernel
theorem dX11_routes_18 : decode cX11_routes 18 = .ok (.if_icmp .ge 35, 3) := by decide +kernel
theorem dX11_routes_21 : decode cX11_routes 21 = .ok (.iload_n 1, 1) := by decide +kernel
theorem dX11_routes_22 : decode cX11_routes 22 = .ok (.aload_n 0, 1) := by decide +kernel
theorem dX11_routes_23 : decode cX11_routes 23 = .ok (.getfield 41, 3) := by decide +kernel
theorem dX11_routes_26 : decode cX11_routes 26 = .ok (.sipush 720, 3) := by decide +kernel
theorem dX11_routes_29 : decode cX11_routes 29 = .ok (.aload_n 0, 1) := by decide +kernel
theorem dX11_routes_30 : decode cX11_routes 30 = .ok (.getfield 81, 3) := by decide +kernel
theorem dX11_routes_33 : decode cX11_routes 33 = .ok (.imul, 1) := by decide +kernel
theorem dX11_routes_34 : decode cX11_routes 34 = .ok (.iload_n 2, 1) := by decide +kernel
theorem dX11_routes_35 : decode cX11_routes 35 = .ok (.iadd, 1) := by decide +kernel
theorem dX11_routes_36 : decode cX11_routes 36 = .ok (.baload, 1) := by decide +kernel
theorem dX11_routes_37 : decode cX11_routes 37 = .ok (.ifCond .eq 7, 3) := by decide +kernel
theorem dX11_routes_40 : decode cX11_routes 40 = .ok (.iconst 1, 1) := by decide +kernel
theorem dX11_routes_41 : decode cX11_routes 41 = .ok (.goto 4, 3) := by decide +kernel
theorem dX11_routes_44 : decode cX11_routes 44 = .ok (.iconst 0, 1) := by decide +kernel
theorem dX11_routes_45 : decode cX11_routes 45 = .ok (.iadd, 1) := by decide +kernel
theorem dX11_routes_46 : decode cX11_routes 46 = .ok (.istore_n 1, 1) := by decide +kernel
theorem dX11_routes_47 : decode cX11_routes 47 = .ok (.iinc 2 1, 3) := by decide +kernel
theorem dX11_routes_50 : decode cX11_routes 50 = .ok (.goto (-37), 3) := by decide +kernel
theorem dX11_routes_53 : decode cX11_routes 53 = .ok (.iload_n 1, 1) := by decide +kernel
theorem dX11_routes_54 : decode cX11_routes 54 = .ok (.ireturn, 1) := by decide +kernel
theorem dX11_setting_0 : decode cX11_setting 0 = .ok (.aload_n 0, 1) := by decide +kernel
theorem dX11_setting_1 : decode cX11_setting 1 = .ok (.iload_n 1, 1) := by decide +kernel
theorem dX11_setting_2 : decode cX11_setting 2 = .ok (.invokevirtual 155, 3) := by decide +kernel
theorem dX11_setting_5 : decode cX11_setting 5 = .ok (.istore_n 2, 1) := by decide +kernel
theorem dX11_setting_6 : decode cX11_setting 6 = .ok (.aload_n 0, 1) := by decide +kernel
theorem dX11_setting_7 : decode cX11_setting 7 = .ok (.iload_n 2, 1) := by decide +kernel
theorem dX11_setting_8 : decode cX11_setting 8 = .ok (.iconst (-1), 1) := by decide +kernel
theorem dX11_setting_9 : decode cX11_setting 9 = .ok (.if_icmp .ne 7, 3) := by decide +kernel
theorem dX11_setting_12 : decode cX11_setting 12 = .ok (.iconst 1, 1) := by decide +kernel
theorem dX11_setting_13 : decode cX11_setting 13 = .ok (.goto 4, 3) := by decide +kernel
theorem dX11_setting_16 : decode cX11_setting 16 = .ok (.iconst 0, 1) := by decide +kernel
theorem dX11_setting_17 : decode cX11_setting 17 = .ok (.putfield 70, 3) := by decide +kernel
theorem dX11_setting_20 : decode cX11_setting 20 = .ok (.aload_n 0, 1) := by decide +kernel
theorem dX11_setting_21 : decode cX11_setting 21 = .ok (.getfield 70, 3) := by decide +kernel
theorem dX11_setting_24 : decode cX11_setting 24 = .ok (.ifCond .le 5, 3) := by decide +kernel
theorem dX11_setting_27 : decode cX11_setting 27 = .ok (.iconst 0, 1) := by decide +kernel
theorem dX11_setting_28 : decode cX11_setting 28 = .ok (.ireturn, 1) := by decide +kernel
theorem dX11_setting_29 : decode cX11_setting 29 = .ok (.aload_n 0, 1) := by decide +kernel
theorem dX11_setting_30 : decode cX11_setting 30 = .ok (.invokevirtual 183, 3) := by decide +kernel
theorem dX11_setting_33 : decode cX11_setting 33 = .ok (.aload_n 0, 1) := by decide +kernel
theorem dX11_setting_34 : decode cX11_setting 34 = .ok (.getfield 41, 3) := by decide +kernel
theorem dX11_setting_37 : decode cX11_setting 37 = .ok (.sipush 720, 3) := by decide +kernel
theorem dX11_setting_40 : decode cX11_setting 40 = .ok (.aload_n 0, 1) := by decide +kernel
theorem dX11_setting_41 : decode cX11_setting 41 = .ok (.getfield 81, 3) := by decide +kernel
theorem dX11_setting_44 : decode cX11_setting 44 = .ok (.imul, 1) := by decide +kernel
theorem dX11_setting_45 : decode cX11_setting 45 = .ok (.iload_n 2, 1) := by decide +kernel
theorem dX11_setting_46 : decode cX11_setting 46 = .ok (.iadd, 1) := by decide +kernel
theorem dX11_setting_47 : decode cX11_setting 47 = .ok (.baload, 1) := by decide +kernel
theorem dX11_setting_48 : decode cX11_setting 48 = .ok (.ifCond .ne 5, 3) := by decide +kernel
theorem dX11_setting_51 : decode cX11_setting 51 = .ok (.iconst (-1), 1) := by decide +kernel
theorem dX11_setting_52 : decode cX11_setting 52 = .ok (.ireturn, 1) := by decide +kernel
theorem dX11_setting_53 : decode cX11_setting 53 = .ok (.iconst 0, 1) := by decide +kernel
theorem dX11_setting_54 : decode cX11_setting 54 = .ok (.istore_n 3, 1) := by decide +kernel
theorem dX11_setting_55 : decode cX11_setting 55 = .ok (.aload_n 0, 1) := by decide +kernel
theorem dX11_setting_56 : decode cX11_setting 56 = .ok (.getfield 81, 3) := by decide +kernel
theorem dX11_setting_59 : decode cX11_setting 59 = .ok (.iconst 1, 1) := by decide +kernel
theorem dX11_setting_60 : decode cX11_setting 60 = .ok (.isub, 1) := by decide +kernel
theorem dX11_setting_61 : decode cX11_setting 61 = .ok (.istore 4, 2) := by decide +kernel
theorem dX11_setting_63 : decode cX11_setting 63 = .ok (.iload 4, 2) := by decide +kernel
theorem dX11_setting_65 : decode cX11_setting 65 = .ok (.ifCond .lt 60, 3) := by decide +kernel
theorem dX11_setting_68 : decode cX11_setting 68 = .ok (.aload_n 0, 1) := by decide +kernel
theorem dX11_setting_69 : decode cX11_setting 69 = .ok (.getfield 41, 3) := by decide +kernel
theorem dX11_setting_72 : decode cX11_setting 72 = .ok (.sipush 720, 3) := by decide +kernel
theorem dX11_setting_75 : decode cX11_setting 75 = .ok (.iload 4, 2) := by decide +kernel
theorem dX11_setting_77 : decode cX11_setting 77 = .ok (.imul, 1) := by decide +kernel
theorem dX11_setting_78 : decode cX11_setting 78 = .ok (.iload_n 2, 1) := by decide +kernel
theorem dX11_setting_79 : decode cX11_setting 79 = .ok (.iadd, 1) := by decide +kernel
theorem dX11_setting_80 : decode cX11_setting 80 = .ok (.baload, 1) := by decide +kernel
theorem dX11_setting_81 : decode cX11_setting 81 = .ok (.ifCond .ne 38, 3) := by decide +kernel
theorem dX11_setting_84 : decode cX11_setting 84 = .ok (.iload_n 3, 1) := by decide +kernel
theorem dX11_setting_85 : decode cX11_setting 85 = .ok (.iconst 1, 1) := by decide +kernel
theorem dX11_setting_86 : decode cX11_setting 86 = .ok (.iload 4, 2) := by decide +kernel
theorem dX11_setting_88 : decode cX11_setting 88 = .ok (.ishl, 1) := by decide +kernel
theorem dX11_setting_89 : decode cX11_setting 89 = .ok (.ior, 1) := by decide +kernel
theorem dX11_setting_90 : decode cX11_setting 90 = .ok (.istore_n 3, 1) := by decide +kernel
theorem dX11_setting_91 : decode cX11_setting 91 = .ok (.aload_n 0, 1) := by decide +kernel
theorem dX11_setting_92 : decode cX11_setting 92 = .ok (.iload_n 2, 1) := by decide +kernel
theorem dX11_setting_93 : decode cX11_setting 93 = .ok (.invokevirtual 173, 3) := by decide +kernel
theorem dX11_setting_96 : decode cX11_setting 96 = .ok (.aload_n 0, 1) := by decide +kernel
theorem dX11_setting_97 : decode cX11_setting 97 = .ok (.aload_n 0, 1) := by decide +kernel
theorem dX11_setting_98 : decode cX11_setting 98 = .ok (.getfield 7, 3) := by decide +kernel
theorem dX11_setting_101 : decode cX11_setting 101 = .ok (.iload 4, 2) := by decide +kernel
theorem dX11_setting_103 : decode cX11_setting 103 = .ok (.iaload, 1) := by decide +kernel
theorem dX11_setting_104 : decode cX11_setting 104 = .ok (.aload_n 0, 1) := by decide +kernel
theorem dX11_setting_105 : decode cX11_setting 105 = .ok (.getfield 13, 3) := by decide +kernel
theorem dX11_setting_108 : decode cX11_setting 108 = .ok (.iload 4, 2) := by decide +kernel
theorem dX11_setting_110 : decode cX11_setting 110 = .ok (.iaload, 1) := by decide +kernel
theorem dX11_setting_111 : decode cX11_setting 111 = .ok (.invokevirtual 98, 3) := by decide +kernel
theorem dX11_setting_114 : decode cX11_setting 114 = .ok (.aload_n 0, 1) := by decide +kernel
theorem dX11_setting_115 : decode cX11_setting 115 = .ok (.invokevirtual 94, 3) := by decide +kernel
theorem dX11_setting_118 : decode cX11_setting 118 = .ok (.istore_n 2, 1) := by decide +kernel
theorem dX11_setting_119 : decode cX11_setting 119 = .ok (.iinc 4 (-1), 3) := by decide +kernel
theorem dX11_setting_122 : decode cX11_setting 122 = .ok (.goto (-59), 3) := by decide +kernel
theorem dX11_setting_125 : decode cX11_setting 125 = .ok (.iload_n 3, 1) := by decide +kernel
theorem dX11_setting_126 : decode cX11_setting 126 = .ok (.ireturn, 1) := by decide +kernel
theorem dX11_token_0 : decode cX11_token 0 = .ok (.aload_n 0, 1) := by decide +kernel
theorem dX11_token_1 : decode cX11_token 1 = .ok (.aload_n 0, 1) := by decide +kernel
theorem dX11_token_2 : decode cX11_token 2 = .ok (.iload_n 1, 1) := by decide +kernel
theorem dX11_token_3 : decode cX11_token 3 = .ok (.invokevirtual 105, 3) := by decide +kernel
theorem dX11_token_6 : decode cX11_token 6 = .ok (.ifCond .ne 7, 3) := by decide +kernel
theorem dX11_token_9 : decode cX11_token 9 = .ok (.iconst 1, 1) := by decide +kernel
theorem dX11_token_10 : decode cX11_token 10 = .ok (.goto 18, 3) := by decide +kernel
theorem dX11_token_13 : decode cX11_token 13 = .ok (.aload_n 0, 1) := by decide +kernel
theorem dX11_token_14 : decode cX11_token 14 = .ok (.getfield 102, 3) := by decide +kernel
theorem dX11_token_17 : decode cX11_token 17 = .ok (.sipush 1000, 3) := by decide +kernel
theorem dX11_token_20 : decode cX11_token 20 = .ok (.if_icmp .ne 7, 3) := by decide +kernel
theorem dX11_token_23 : decode cX11_token 23 = .ok (.iconst 2, 1) := by decide +kernel
theorem dX11_token_24 : decode cX11_token 24 = .ok (.goto 4, 3) := by decide +kernel
theorem dX11_token_27 : decode cX11_token 27 = .ok (.iconst 0, 1) := by decide +kernel
theorem dX11_token_28 : decode cX11_token 28 = .ok (.putfield 70, 3) := by decide +kernel
theorem dX11_token_31 : decode cX11_token 31 = .ok (.aload_n 0, 1) := by decide +kernel
theorem dX11_token_32 : decode cX11_token 32 = .ok (.getfield 70, 3) := by decide +kernel
theorem dX11_token_35 : decode cX11_token 35 = .ok (.ifCond .le 5, 3) := by decide +kernel
theorem dX11_token_38 : decode cX11_token 38 = .ok (.iconst 0, 1) := by decide +kernel
theorem dX11_token_39 : decode cX11_token 39 = .ok (.ireturn, 1) := by decide +kernel
theorem dX11_token_40 : decode cX11_token 40 = .ok (.aload_n 0, 1) := by decide +kernel
theorem dX11_token_41 : decode cX11_token 41 = .ok (.dup, 1) := by decide +kernel
theorem dX11_token_42 : decode cX11_token 42 = .ok (.getfield 102, 3) := by decide +kernel
theorem dX11_token_45 : decode cX11_token 45 = .ok (.iconst 1, 1) := by decide +kernel
theorem dX11_token_46 : decode cX11_token 46 = .ok (.iadd, 1) := by decide +kernel
theorem dX11_token_47 : decode cX11_token 47 = .ok (.putfield 102, 3) := by decide +kernel
theorem dX11_token_50 : decode cX11_token 50 = .ok (.iload_n 1, 1) := by decide +kernel
theorem dX11_token_51 : decode cX11_token 51 = .ok (.istore_n 2, 1) := by decide +kernel
theorem dX11_token_52 : decode cX11_token 52 = .ok (.iconst 0, 1) := by decide +kernel
theorem dX11_token_53 : decode cX11_token 53 = .ok (.istore_n 3, 1) := by decide +kernel
theorem dX11_token_54 : decode cX11_token 54 = .ok (.iload_n 3, 1) := by decide +kernel
theorem dX11_token_55 : decode cX11_token 55 = .ok (.aload_n 0, 1) := by decide +kernel
theorem dX11_token_56 : decode cX11_token 56 = .ok (.getfield 81, 3) := by decide +kernel
theorem dX11_token_59 : decode cX11_token 59 = .ok (.if_icmp .ge 74, 3) := by decide +kernel
theorem dX11_token_62 : decode cX11_token 62 = .ok (.iload_n 2, 1) := by decide +kernel
theorem dX11_token_63 : decode cX11_token 63 = .ok (.aload_n 0, 1) := by decide +kernel
theorem dX11_token_64 : decode cX11_token 64 = .ok (.getfield 7, 3) := by decide +kernel
theorem dX11_token_67 : decode cX11_token 67 = .ok (.iload_n 3, 1) := by decide +kernel
theorem dX11_token_68 : decode cX11_token 68 = .ok (.iaload, 1) := by decide +kernel
theorem dX11_token_69 : decode cX11_token 69 = .ok (.if_icmp .eq 13, 3) := by decide +kernel
theorem dX11_token_72 : decode cX11_token 72 = .ok (.iload_n 2, 1) := by decide +kernel
theorem dX11_token_73 : decode cX11_token 73 = .ok (.aload_n 0, 1) := by decide +kernel
theorem dX11_token_74 : decode cX11_token 74 = .ok (.getfield 13, 3) := by decide +kernel
theorem dX11_token_77 : decode cX11_token 77 = .ok (.iload_n 3, 1) := by decide +kernel
theorem dX11_token_78 : decode cX11_token 78 = .ok (.iaload, 1) := by decide +kernel
theorem dX11_token_79 : decode cX11_token 79 = .ok (.if_icmp .ne 48, 3) := by decide +kernel
theorem dX11_token_82 : decode cX11_token 82 = .ok (.aload_n 0, 1) := by decide +kernel
theorem dX11_token_83 : decode cX11_token 83 = .ok (.getfield 34, 3) := by decide +kernel
theorem dX11_token_86 : decode cX11_token 86 = .ok (.iload_n 3, 1) := by decide +kernel
theorem dX11_token_87 : decode cX11_token 87 = .ok (.baload, 1) := by decide +kernel
theorem dX11_token_88 : decode cX11_token 88 = .ok (.ifCond .eq 12, 3) := by decide +kernel
theorem dX11_token_91 : decode cX11_token 91 = .ok (.aload_n 0, 1) := by decide +kernel
theorem dX11_token_92 : decode cX11_token 92 = .ok (.getfield 13, 3) := by decide +kernel
theorem dX11_token_95 : decode cX11_token 95 = .ok (.iload_n 3, 1) := by decide +kernel
theorem dX11_token_96 : decode cX11_token 96 = .ok (.iaload, 1) := by decide +kernel
theorem dX11_token_97 : decode cX11_token 97 = .ok (.goto 9, 3) := by decide +kernel
theorem dX11_token_100 : decode cX11_token 100 = .ok (.aload_n 0, 1) := by decide +kernel
theorem dX11_token_101 : decode cX11_token 101 = .ok (.getfield 7, 3) := by decide +kernel
theorem dX11_token_104 : decode cX11_token 104 = .ok (.iload_n 3, 1) := by decide +kernel
theorem dX11_token_105 : decode cX11_token 105 = .ok (.iaload, 1) := by decide +kernel
theorem dX11_token_106 : decode cX11_token 106 = .ok (.istore_n 2, 1) := by decide +kernel
theorem dX11_token_107 : decode cX11_token 107 = .ok (.aload_n 0, 1) := by decide +kernel
theorem dX11_token_108 : decode cX11_token 108 = .ok (.getfield 34, 3) := by decide +kernel
theorem dX11_token_111 : decode cX11_token 111 = .ok (.iload_n 3, 1) := by decide +kernel
theorem dX11_token_112 : decode cX11_token 112 = .ok (.aload_n 0, 1) := by decide +kernel
theorem dX11_token_113 : decode cX11_token 113 = .ok (.getfield 34, 3) := by decide +kernel
theorem dX11_token_116 : decode cX11_token 116 = .ok (.iload_n 3, 1) := by decide +kernel
theorem dX11_token_117 : decode cX11_token 117 = .ok (.baload, 1) := by decide +kernel
theorem dX11_token_118 : decode cX11_token 118 = .ok (.ifCond .ne 7, 3) := by decide +kernel
theorem dX11_token_121 : decode cX11_token 121 = .ok (.iconst 1, 1) := by decide +kernel
theorem dX11_token_122 : decode cX11_token 122 = .ok (.goto 4, 3) := by decide +kernel
theorem dX11_token_125 : decode cX11_token 125 = .ok (.iconst 0, 1) := by decide +kernel
theorem dX11_token_126 : decode cX11_token 126 = .ok (.bastore, 1) := by decide +kernel
theorem dX11_token_127 : decode cX11_token 127 = .ok (.iinc 3 1, 3) := by decide +kernel
theorem dX11_token_130 : decode cX11_token 130 = .ok (.goto (-76), 3) := by decide +kernel
theorem dX11_token_133 : decode cX11_token 133 = .ok (.aload_n 0, 1) := by decide +kernel
theorem dX11_token_134 : decode cX11_token 134 = .ok (.getfield 38, 3) := by decide +kernel
theorem dX11_token_137 : decode cX11_token 137 = .ok (.iload_n 2, 1) := by decide +kernel
theorem dX11_token_138 : decode cX11_token 138 = .ok (.dup2, 1) := by decide +kernel
theorem dX11_token_139 : decode cX11_token 139 = .ok (.iaload, 1) := by decide +kernel
theorem dX11_token_140 : decode cX11_token 140 = .ok (.iconst 1, 1) := by decide +kernel
theorem dX11_token_141 : decode cX11_token 141 = .ok (.iadd, 1) := by decide +kernel
theorem dX11_token_142 : decode cX11_token 142 = .ok (.iastore, 1) := by decide +kernel
theorem dX11_token_143 : decode cX11_token 143 = .ok (.iload_n 2, 1) := by decide +kernel
theorem dX11_token_144 : decode cX11_token 144 = .ok (.ireturn, 1) := by decide +kernel
theorem dX11_came_0 : decode cX11_came 0 = .ok (.aload_n 0, 1) := by decide +kernel
theorem dX11_came_1 : decode cX11_came 1 = .ok (.aload_n 0, 1) := by decide +kernel
theorem dX11_came_2 : decode cX11_came 2 = .ok (.iload_n 1, 1) := by decide +kernel
theorem dX11_came_3 : decode cX11_came 3 = .ok (.invokevirtual 105, 3) := by decide +kernel
theorem dX11_came_6 : decode cX11_came 6 = .ok (.ifCond .eq 7, 3) := by decide +kernel
theorem dX11_came_9 : decode cX11_came 9 = .ok (.iconst 0, 1) := by decide +kernel
theorem dX11_came_10 : decode cX11_came 10 = .ok (.goto 4, 3) := by decide +kernel
theorem dX11_came_13 : decode cX11_came 13 = .ok (.iconst 1, 1) := by decide +kernel
theorem dX11_came_14 : decode cX11_came 14 = .ok (.putfield 70, 3) := by decide +kernel
theorem dX11_came_17 : decode cX11_came 17 = .ok (.aload_n 0, 1) := by decide +kernel
theorem dX11_came_18 : decode cX11_came 18 = .ok (.getfield 70, 3) := by decide +kernel
theorem dX11_came_21 : decode cX11_came 21 = .ok (.ifCond .le 7, 3) := by decide +kernel
theorem dX11_came_24 : decode cX11_came 24 = .ok (.iconst 0, 1) := by decide +kernel
theorem dX11_came_25 : decode cX11_came 25 = .ok (.goto 9, 3) := by decide +kernel
theorem dX11_came_28 : decode cX11_came 28 = .ok (.aload_n 0, 1) := by decide +kernel
theorem dX11_came_29 : decode cX11_came 29 = .ok (.getfield 38, 3) := by decide +kernel
theorem dX11_came_32 : decode cX11_came 32 = .ok (.iload_n 1, 1) := by decide +kernel
theorem dX11_came_33 : decode cX11_came 33 = .ok (.iaload, 1) := by decide +kernel
theorem dX11_came_34 : decode cX11_came 34 = .ok (.ireturn, 1) := by decide +kernel
theorem dX11_cameAnew_0 : decode cX11_cameAnew 0 = .ok (.aload_n 0, 1) := by decide +kernel
theorem dX11_cameAnew_1 : decode cX11_cameAnew 1 = .ok (.iload_n 1, 1) := by decide +kernel
theorem dX11_cameAnew_2 : decode cX11_cameAnew 2 = .ok (.invokevirtual 186, 3) := by decide +kernel
theorem dX11_cameAnew_5 : decode cX11_cameAnew 5 = .ok (.ireturn, 1) := by decide +kernel
theorem dX11_isStep_0 : decode cX11_isStep 0 = .ok (.aload_n 0, 1) := by decide +kernel
theorem dX11_isStep_1 : decode cX11_isStep 1 = .ok (.iconst 0, 1) := by decide +kernel
theorem dX11_isStep_2 : decode cX11_isStep 2 = .ok (.putfield 70, 3) := by decide +kernel
theorem dX11_isStep_5 : decode cX11_isStep 5 = .ok (.aload_n 0, 1) := by decide +kernel
theorem dX11_isStep_6 : decode cX11_isStep 6 = .ok (.getfield 38, 3) := by decide +kernel
theorem dX11_isStep_9 : decode cX11_isStep 9 = .ok (.iconst 0, 1) := by decide +kernel
theorem dX11_isStep_10 : decode cX11_isStep 10 = .ok (.iaload, 1) := by decide +kernel
theorem dX11_isStep_11 : decode cX11_isStep 11 = .ok (.aload_n 0, 1) := by decide +kernel
theorem dX11_isStep_12 : decode cX11_isStep 12 = .ok (.getfield 38, 3) := by decide +kernel
theorem dX11_isStep_15 : decode cX11_isStep 15 = .ok (.aload_n 0, 1) := by decide +kernel
theorem dX11_isStep_16 : decode cX11_isStep 16 = .ok (.getfield 74, 3) := by decide +kernel
theorem dX11_isStep_19 : decode cX11_isStep 19 = .ok (.iconst 1, 1) := by decide +kernel
theorem dX11_isStep_20 : decode cX11_isStep 20 = .ok (.isub, 1) := by decide +kernel
theorem dX11_isStep_21 : decode cX11_isStep 21 = .ok (.iaload, 1) := by decide +kernel
theorem dX11_isStep_22 : decode cX11_isStep 22 = .ok (.isub, 1) := by decide +kernel
theorem dX11_isStep_23 : decode cX11_isStep 23 = .ok (.iconst 1, 1) := by decide +kernel
theorem dX11_isStep_24 : decode cX11_isStep 24 = .ok (.if_icmp .gt 7, 3) := by decide +kernel
theorem dX11_isStep_27 : decode cX11_isStep 27 = .ok (.iconst 1, 1) := by decide +kernel
theorem dX11_isStep_28 : decode cX11_isStep 28 = .ok (.goto 4, 3) := by decide +kernel
theorem dX11_isStep_31 : decode cX11_isStep 31 = .ok (.iconst 0, 1) := by decide +kernel
theorem dX11_isStep_32 : decode cX11_isStep 32 = .ok (.istore_n 1, 1) := by decide +kernel
theorem dX11_isStep_33 : decode cX11_isStep 33 = .ok (.iconst 1, 1) := by decide +kernel
theorem dX11_isStep_34 : decode cX11_isStep 34 = .ok (.istore_n 2, 1) := by decide +kernel
theorem dX11_isStep_35 : decode cX11_isStep 35 = .ok (.iload_n 2, 1) := by decide +kernel
theorem dX11_isStep_36 : decode cX11_isStep 36 = .ok (.aload_n 0, 1) := by decide +kernel
theorem dX11_isStep_37 : decode cX11_isStep 37 = .ok (.getfield 74, 3) := by decide +kernel
theorem dX11_isStep_40 : decode cX11_isStep 40 = .ok (.if_icmp .ge 36, 3) := by decide +kernel
theorem dX11_isStep_43 : decode cX11_isStep 43 = .ok (.iload_n 1, 1) := by decide +kernel
theorem dX11_isStep_44 : decode cX11_isStep 44 = .ok (.ifCond .eq 24, 3) := by decide +kernel
theorem dX11_isStep_47 : decode cX11_isStep 47 = .ok (.aload_n 0, 1) := by decide +kernel
theorem dX11_isStep_48 : decode cX11_isStep 48 = .ok (.getfield 38, 3) := by decide +kernel
theorem dX11_isStep_51 : decode cX11_isStep 51 = .ok (.iload_n 2, 1) := by decide +kernel
theorem dX11_isStep_52 : decode cX11_isStep 52 = .ok (.iaload, 1) := by decide +kernel
theorem dX11_isStep_53 : decode cX11_isStep 53 = .ok (.aload_n 0, 1) := by decide +kernel
theorem dX11_isStep_54 : decode cX11_isStep 54 = .ok (.getfield 38, 3) := by decide +kernel
theorem dX11_isStep_57 : decode cX11_isStep 57 = .ok (.iload_n 2, 1) := by decide +kernel
theorem dX11_isStep_58 : decode cX11_isStep 58 = .ok (.iconst 1, 1) := by decide +kernel
theorem dX11_isStep_59 : decode cX11_isStep 59 = .ok (.isub, 1) := by decide +kernel
theorem dX11_isStep_60 : decode cX11_isStep 60 = .ok (.iaload, 1) := by decide +kernel
theorem dX11_isStep_61 : decode cX11_isStep 61 = .ok (.if_icmp .gt 7, 3) := by decide +kernel
theorem dX11_isStep_64 : decode cX11_isStep 64 = .ok (.iconst 1, 1) := by decide +kernel
theorem dX11_isStep_65 : decode cX11_isStep 65 = .ok (.goto 4, 3) := by decide +kernel
theorem dX11_isStep_68 : decode cX11_isStep 68 = .ok (.iconst 0, 1) := by decide +kernel
theorem dX11_isStep_69 : decode cX11_isStep 69 = .ok (.istore_n 1, 1) := by decide +kernel
theorem dX11_isStep_70 : decode cX11_isStep 70 = .ok (.iinc 2 1, 3) := by decide +kernel
theorem dX11_isStep_73 : decode cX11_isStep 73 = .ok (.goto (-38), 3) := by decide +kernel
theorem dX11_isStep_76 : decode cX11_isStep 76 = .ok (.iload_n 1, 1) := by decide +kernel
theorem dX11_isStep_77 : decode cX11_isStep 77 = .ok (.ireturn, 1) := by decide +kernel
theorem dX11_misses_0 : decode cX11_misses 0 = .ok (.aload_n 0, 1) := by decide +kernel
theorem dX11_misses_1 : decode cX11_misses 1 = .ok (.iload_n 1, 1) := by decide +kernel
theorem dX11_misses_2 : decode cX11_misses 2 = .ok (.invokevirtual 138, 3) := by decide +kernel
theorem dX11_misses_5 : decode cX11_misses 5 = .ok (.ifCond .ne 7, 3) := by decide +kernel
theorem dX11_misses_8 : decode cX11_misses 8 = .ok (.iconst 1, 1) := by decide +kernel
theorem dX11_misses_9 : decode cX11_misses 9 = .ok (.goto 17, 3) := by decide +kernel
theorem dX11_misses_12 : decode cX11_misses 12 = .ok (.iload_n 2, 1) := by decide +kernel
theorem dX11_misses_13 : decode cX11_misses 13 = .ok (.iconst 0, 1) := by decide +kernel
theorem dX11_misses_14 : decode cX11_misses 14 = .ok (.iconst 2, 1) := by decide +kernel
theorem dX11_misses_15 : decode cX11_misses 15 = .ok (.invokestatic 77, 3) := by decide +kernel
theorem dX11_misses_18 : decode cX11_misses 18 = .ok (.ifCond .ne 7, 3) := by decide +kernel
theorem dX11_misses_21 : decode cX11_misses 21 = .ok (.iconst 2, 1) := by decide +kernel
theorem dX11_misses_22 : decode cX11_misses 22 = .ok (.goto 4, 3) := by decide +kernel
theorem dX11_misses_25 : decode cX11_misses 25 = .ok (.iconst 0, 1) := by decide +kernel
theorem dX11_misses_26 : decode cX11_misses 26 = .ok (.ireturn, 1) := by decide +kernel
theorem dX11_bad_0 : decode cX11_bad 0 = .ok (.aload_n 0, 1) := by decide +kernel
theorem dX11_bad_1 : decode cX11_bad 1 = .ok (.aload_n 0, 1) := by decide +kernel
theorem dX11_bad_2 : decode cX11_bad 2 = .ok (.iload_n 1, 1) := by decide +kernel
theorem dX11_bad_3 : decode cX11_bad 3 = .ok (.iload_n 2, 1) := by decide +kernel
theorem dX11_bad_4 : decode cX11_bad 4 = .ok (.invokevirtual 189, 3) := by decide +kernel
theorem dX11_bad_7 : decode cX11_bad 7 = .ok (.putfield 70, 3) := by decide +kernel
theorem dX11_bad_10 : decode cX11_bad 10 = .ok (.aload_n 0, 1) := by decide +kernel
theorem dX11_bad_11 : decode cX11_bad 11 = .ok (.getfield 70, 3) := by decide +kernel
theorem dX11_bad_14 : decode cX11_bad 14 = .ok (.ifCond .le 7, 3) := by decide +kernel
theorem dX11_bad_17 : decode cX11_bad 17 = .ok (.iconst 0, 1) := by decide +kernel
theorem dX11_bad_18 : decode cX11_bad 18 = .ok (.goto 9, 3) := by decide +kernel
theorem dX11_bad_21 : decode cX11_bad 21 = .ok (.aload_n 0, 1) := by decide +kernel
theorem dX11_bad_22 : decode cX11_bad 22 = .ok (.iload_n 1, 1) := by decide +kernel
theorem dX11_bad_23 : decode cX11_bad 23 = .ok (.iload_n 2, 1) := by decide +kernel
theorem dX11_bad_24 : decode cX11_bad 24 = .ok (.invokevirtual 170, 3) := by decide +kernel
theorem dX11_bad_27 : decode cX11_bad 27 = .ok (.ireturn, 1) := by decide +kernel
theorem dX11_tellers_0 : decode cX11_tellers 0 = .ok (.lconst 0, 1) := by decide +kernel
theorem dX11_tellers_1 : decode cX11_tellers 1 = .ok (.lstore_n 3, 1) := by decide +kernel
theorem dX11_tellers_2 : decode cX11_tellers 2 = .ok (.iconst 0, 1) := by decide +kernel
theorem dX11_tellers_3 : decode cX11_tellers 3 = .ok (.istore 5, 2) := by decide +kernel
theorem dX11_tellers_5 : decode cX11_tellers 5 = .ok (.iload 5, 2) := by decide +kernel
theorem dX11_tellers_7 : decode cX11_tellers 7 = .ok (.iconst 1, 1) := by decide +kernel
theorem dX11_tellers_8 : decode cX11_tellers 8 = .ok (.aload_n 0, 1) := by decide +kernel
theorem dX11_tellers_9 : decode cX11_tellers 9 = .ok (.getfield 74, 3) := by decide +kernel
theorem dX11_tellers_12 : decode cX11_tellers 12 = .ok (.ishl, 1) := by decide +kernel
theorem dX11_tellers_13 : decode cX11_tellers 13 = .ok (.if_icmp .ge 41, 3) := by decide +kernel
theorem dX11_tellers_16 : decode cX11_tellers 16 = .ok (.lload_n 3, 1) := by decide +kernel
theorem dX11_tellers_17 : decode cX11_tellers 17 = .ok (.aload_n 0, 1) := by decide +kernel
theorem dX11_tellers_18 : decode cX11_tellers 18 = .ok (.iload 5, 2) := by decide +kernel
theorem dX11_tellers_20 : decode cX11_tellers 20 = .ok (.aload_n 0, 1) := by decide +kernel
theorem dX11_tellers_21 : decode cX11_tellers 21 = .ok (.getfield 81, 3) := by decide +kernel
theorem dX11_tellers_24 : decode cX11_tellers 24 = .ok (.iload_n 1, 1) := by decide +kernel
theorem dX11_tellers_25 : decode cX11_tellers 25 = .ok (.iload_n 2, 1) := by decide +kernel
theorem dX11_tellers_26 : decode cX11_tellers 26 = .ok (.invokevirtual 124, 3) := by decide +kernel
theorem dX11_tellers_29 : decode cX11_tellers 29 = .ok (.aload_n 0, 1) := by decide +kernel
theorem dX11_tellers_30 : decode cX11_tellers 30 = .ok (.iload 5, 2) := by decide +kernel
theorem dX11_tellers_32 : decode cX11_tellers 32 = .ok (.invokevirtual 164, 3) := by decide +kernel
theorem dX11_tellers_35 : decode cX11_tellers 35 = .ok (.if_icmp .eq 10, 3) := by decide +kernel
theorem dX11_tellers_38 : decode cX11_tellers 38 = .ok (.lconst 1, 1) := by decide +kernel
theorem dX11_tellers_39 : decode cX11_tellers 39 = .ok (.iload 5, 2) := by decide +kernel
theorem dX11_tellers_41 : decode cX11_tellers 41 = .ok (.lshl, 1) := by decide +kernel
theorem dX11_tellers_42 : decode cX11_tellers 42 = .ok (.goto 4, 3) := by decide +kernel
theorem dX11_tellers_45 : decode cX11_tellers 45 = .ok (.lconst 0, 1) := by decide +kernel
theorem dX11_tellers_46 : decode cX11_tellers 46 = .ok (.lor, 1) := by decide +kernel
theorem dX11_tellers_47 : decode cX11_tellers 47 = .ok (.lstore_n 3, 1) := by decide +kernel
theorem dX11_tellers_48 : decode cX11_tellers 48 = .ok (.iinc 5 1, 3) := by decide +kernel
theorem dX11_tellers_51 : decode cX11_tellers 51 = .ok (.goto (-46), 3) := by decide +kernel
theorem dX11_tellers_54 : decode cX11_tellers 54 = .ok (.lload_n 3, 1) := by decide +kernel
theorem dX11_tellers_55 : decode cX11_tellers 55 = .ok (.lreturn, 1) := by decide +kernel
theorem dX11_tells_0 : decode cX11_tells 0 = .ok (.aload_n 0, 1) := by decide +kernel
theorem dX11_tells_1 : decode cX11_tells 1 = .ok (.aload_n 0, 1) := by decide +kernel
theorem dX11_tells_2 : decode cX11_tells 2 = .ok (.iload_n 1, 1) := by decide +kernel
theorem dX11_tells_3 : decode cX11_tells 3 = .ok (.iload_n 2, 1) := by decide +kernel
theorem dX11_tells_4 : decode cX11_tells 4 = .ok (.invokevirtual 189, 3) := by decide +kernel
theorem dX11_tells_7 : decode cX11_tells 7 = .ok (.putfield 70, 3) := by decide +kernel
theorem dX11_tells_10 : decode cX11_tells 10 = .ok (.aload_n 0, 1) := by decide +kernel
theorem dX11_tells_11 : decode cX11_tells 11 = .ok (.getfield 70, 3) := by decide +kernel
theorem dX11_tells_14 : decode cX11_tells 14 = .ok (.ifCond .le 7, 3) := by decide +kernel
theorem dX11_tells_17 : decode cX11_tells 17 = .ok (.lconst 0, 1) := by decide +kernel
theorem dX11_tells_18 : decode cX11_tells 18 = .ok (.goto 9, 3) := by decide +kernel
theorem dX11_tells_21 : decode cX11_tells 21 = .ok (.aload_n 0, 1) := by decide +kernel
theorem dX11_tells_22 : decode cX11_tells 22 = .ok (.iload_n 1, 1) := by decide +kernel
theorem dX11_tells_23 : decode cX11_tells 23 = .ok (.iload_n 2, 1) := by decide +kernel
theorem dX11_tells_24 : decode cX11_tells 24 = .ok (.invokevirtual 192, 3) := by decide +kernel
theorem dX11_tells_27 : decode cX11_tells 27 = .ok (.lreturn, 1) := by decide +kernel
theorem dX11_hidden_0 : decode cX11_hidden 0 = .ok (.aload_n 0, 1) := by decide +kernel
theorem dX11_hidden_1 : decode cX11_hidden 1 = .ok (.iconst 0, 1) := by decide +kernel
theorem dX11_hidden_2 : decode cX11_hidden 2 = .ok (.putfield 70, 3) := by decide +kernel
theorem dX11_hidden_5 : decode cX11_hidden 5 = .ok (.iconst 0, 1) := by decide +kernel
theorem dX11_hidden_6 : decode cX11_hidden 6 = .ok (.istore_n 3, 1) := by decide +kernel
theorem dX11_hidden_7 : decode cX11_hidden 7 = .ok (.iconst 0, 1) := by decide +kernel
theorem dX11_hidden_8 : decode cX11_hidden 8 = .ok (.istore 4, 2) := by decide +kernel
theorem dX11_hidden_10 : decode cX11_hidden 10 = .ok (.iload 4, 2) := by decide +kernel
theorem dX11_hidden_12 : decode cX11_hidden 12 = .ok (.iconst 3, 1) := by decide +kernel
theorem dX11_hidden_13 : decode cX11_hidden 13 = .ok (.aload_n 0, 1) := by decide +kernel
theorem dX11_hidden_14 : decode cX11_hidden 14 = .ok (.getfield 81, 3) := by decide +kernel
theorem dX11_hidden_17 : decode cX11_hidden 17 = .ok (.imul, 1) := by decide +kernel
theorem dX11_hidden_18 : decode cX11_hidden 18 = .ok (.if_icmp .ge 36, 3) := by decide +kernel
theorem dX11_hidden_21 : decode cX11_hidden 21 = .ok (.iload_n 3, 1) := by decide +kernel
theorem dX11_hidden_22 : decode cX11_hidden 22 = .ok (.aload_n 0, 1) := by decide +kernel
theorem dX11_hidden_23 : decode cX11_hidden 23 = .ok (.iload 4, 2) := by decide +kernel
theorem dX11_hidden_25 : decode cX11_hidden 25 = .ok (.iconst 3, 1) := by decide +kernel
theorem dX11_hidden_26 : decode cX11_hidden 26 = .ok (.idiv, 1) := by decide +kernel
theorem dX11_hidden_27 : decode cX11_hidden 27 = .ok (.iload 4, 2) := by decide +kernel
theorem dX11_hidden_29 : decode cX11_hidden 29 = .ok (.iconst 3, 1) := by decide +kernel
theorem dX11_hidden_30 : decode cX11_hidden 30 = .ok (.irem, 1) := by decide +kernel
theorem dX11_hidden_31 : decode cX11_hidden 31 = .ok (.invokevirtual 192, 3) := by decide +kernel
theorem dX11_hidden_34 : decode cX11_hidden 34 = .ok (.lload_n 1, 1) := by decide +kernel
theorem dX11_hidden_35 : decode cX11_hidden 35 = .ok (.land, 1) := by decide +kernel
theorem dX11_hidden_36 : decode cX11_hidden 36 = .ok (.lconst 0, 1) := by decide +kernel
theorem dX11_hidden_37 : decode cX11_hidden 37 = .ok (.lcmp, 1) := by decide +kernel
theorem dX11_hidden_38 : decode cX11_hidden 38 = .ok (.ifCond .ne 7, 3) := by decide +kernel
theorem dX11_hidden_41 : decode cX11_hidden 41 = .ok (.iconst 1, 1) := by decide +kernel
theorem dX11_hidden_42 : decode cX11_hidden 42 = .ok (.goto 4, 3) := by decide +kernel
theorem dX11_hidden_45 : decode cX11_hidden 45 = .ok (.iconst 0, 1) := by decide +kernel
theorem dX11_hidden_46 : decode cX11_hidden 46 = .ok (.iadd, 1) := by decide +kernel
theorem dX11_hidden_47 : decode cX11_hidden 47 = .ok (.istore_n 3, 1) := by decide +kernel
theorem dX11_hidden_48 : decode cX11_hidden 48 = .ok (.iinc 4 1, 3) := by decide +kernel
theorem dX11_hidden_51 : decode cX11_hidden 51 = .ok (.goto (-41), 3) := by decide +kernel
theorem dX11_hidden_54 : decode cX11_hidden 54 = .ok (.iload_n 3, 1) := by decide +kernel
theorem dX11_hidden_55 : decode cX11_hidden 55 = .ok (.ireturn, 1) := by decide +kernel
theorem dX11_tests_0 : decode cX11_tests 0 = .ok (.aload_n 0, 1) := by decide +kernel
theorem dX11_tests_1 : decode cX11_tests 1 = .ok (.iconst 0, 1) := by decide +kernel
theorem dX11_tests_2 : decode cX11_tests 2 = .ok (.putfield 70, 3) := by decide +kernel
theorem dX11_tests_5 : decode cX11_tests 5 = .ok (.iconst 1, 1) := by decide +kernel
theorem dX11_tests_6 : decode cX11_tests 6 = .ok (.aload_n 0, 1) := by decide +kernel
theorem dX11_tests_7 : decode cX11_tests 7 = .ok (.getfield 74, 3) := by decide +kernel
theorem dX11_tests_10 : decode cX11_tests 10 = .ok (.ishl, 1) := by decide +kernel
theorem dX11_tests_11 : decode cX11_tests 11 = .ok (.istore_n 1, 1) := by decide +kernel
theorem dX11_tests_12 : decode cX11_tests 12 = .ok (.lconst 0, 1) := by decide +kernel
theorem dX11_tests_13 : decode cX11_tests 13 = .ok (.lstore_n 2, 1) := by decide +kernel
theorem dX11_tests_14 : decode cX11_tests 14 = .ok (.lconst 0, 1) := by decide +kernel
theorem dX11_tests_15 : decode cX11_tests 15 = .ok (.lstore 4, 2) := by decide +kernel
theorem dX11_tests_17 : decode cX11_tests 17 = .ok (.iconst 0, 1) := by decide +kernel
theorem dX11_tests_18 : decode cX11_tests 18 = .ok (.istore 6, 2) := by decide +kernel
theorem dX11_tests_20 : decode cX11_tests 20 = .ok (.iload 6, 2) := by decide +kernel
theorem dX11_tests_22 : decode cX11_tests 22 = .ok (.bipush 64, 2) := by decide +kernel
theorem dX11_tests_24 : decode cX11_tests 24 = .ok (.if_icmp .ge 25, 3) := by decide +kernel
theorem dX11_tests_27 : decode cX11_tests 27 = .ok (.aload_n 0, 1) := by decide +kernel
theorem dX11_tests_28 : decode cX11_tests 28 = .ok (.getfield 53, 3) := by decide +kernel
theorem dX11_tests_31 : decode cX11_tests 31 = .ok (.iload 6, 2) := by decide +kernel
theorem dX11_tests_33 : decode cX11_tests 33 = .ok (.lconst 0, 1) := by decide +kernel
theorem dX11_tests_34 : decode cX11_tests 34 = .ok (.lastore, 1) := by decide +kernel
theorem dX11_tests_35 : decode cX11_tests 35 = .ok (.aload_n 0, 1) := by decide +kernel
theorem dX11_tests_36 : decode cX11_tests 36 = .ok (.getfield 57, 3) := by decide +kernel
theorem dX11_tests_39 : decode cX11_tests 39 = .ok (.iload 6, 2) := by decide +kernel
theorem dX11_tests_41 : decode cX11_tests 41 = .ok (.lconst 0, 1) := by decide +kernel
theorem dX11_tests_42 : decode cX11_tests 42 = .ok (.lastore, 1) := by decide +kernel
theorem dX11_tests_43 : decode cX11_tests 43 = .ok (.iinc 6 1, 3) := by decide +kernel
theorem dX11_tests_46 : decode cX11_tests 46 = .ok (.goto (-26), 3) := by decide +kernel
theorem dX11_tests_49 : decode cX11_tests 49 = .ok (.iconst 0, 1) := by decide +kernel
theorem dX11_tests_50 : decode cX11_tests 50 = .ok (.istore 6, 2) := by decide +kernel
theorem dX11_tests_52 : decode cX11_tests 52 = .ok (.iload 6, 2) := by decide +kernel
theorem dX11_tests_54 : decode cX11_tests 54 = .ok (.iconst 3, 1) := by decide +kernel
theorem dX11_tests_55 : decode cX11_tests 55 = .ok (.aload_n 0, 1) := by decide +kernel
theorem dX11_tests_56 : decode cX11_tests 56 = .ok (.getfield 81, 3) := by decide +kernel
theorem dX11_tests_59 : decode cX11_tests 59 = .ok (.imul, 1) := by decide +kernel
theorem dX11_tests_60 : decode cX11_tests 60 = .ok (.if_icmp .ge 102, 3) := by decide +kernel
theorem dX11_tests_63 : decode cX11_tests 63 = .ok (.aload_n 0, 1) := by decide +kernel
theorem dX11_tests_64 : decode cX11_tests 64 = .ok (.iload 6, 2) := by decide +kernel
theorem dX11_tests_66 : decode cX11_tests 66 = .ok (.iconst 3, 1) := by decide +kernel
theorem dX11_tests_67 : decode cX11_tests 67 = .ok (.idiv, 1) := by decide +kernel
theorem dX11_tests_68 : decode cX11_tests 68 = .ok (.iload 6, 2) := by decide +kernel
theorem dX11_tests_70 : decode cX11_tests 70 = .ok (.iconst 3, 1) := by decide +kernel
theorem dX11_tests_71 : decode cX11_tests 71 = .ok (.irem, 1) := by decide +kernel
theorem dX11_tests_72 : decode cX11_tests 72 = .ok (.invokevirtual 192, 3) := by decide +kernel
theorem dX11_tests_75 : decode cX11_tests 75 = .ok (.lstore 7, 2) := by decide +kernel
theorem dX11_tests_77 : decode cX11_tests 77 = .ok (.iconst 0, 1) := by decide +kernel
theorem dX11_tests_78 : decode cX11_tests 78 = .ok (.istore 9, 2) := by decide +kernel
theorem dX11_tests_80 : decode cX11_tests 80 = .ok (.iload 9, 2) := by decide +kernel
theorem dX11_tests_82 : decode cX11_tests 82 = .ok (.iload_n 1, 1) := by decide +kernel
theorem dX11_tests_83 : decode cX11_tests 83 = .ok (.if_icmp .ge 73, 3) := by decide +kernel
theorem dX11_tests_86 : decode cX11_tests 86 = .ok (.lload 7, 2) := by decide +kernel
theorem dX11_tests_88 : decode cX11_tests 88 = .ok (.iload 9, 2) := by decide +kernel
theorem dX11_tests_90 : decode cX11_tests 90 = .ok (.lshr, 1) := by decide +kernel
theorem dX11_tests_91 : decode cX11_tests 91 = .ok (.lconst 1, 1) := by decide +kernel
theorem dX11_tests_92 : decode cX11_tests 92 = .ok (.land, 1) := by decide +kernel
theorem dX11_tests_93 : decode cX11_tests 93 = .ok (.lstore 10, 2) := by decide +kernel
theorem dX11_tests_95 : decode cX11_tests 95 = .ok (.aload_n 0, 1) := by decide +kernel
theorem dX11_tests_96 : decode cX11_tests 96 = .ok (.getfield 53, 3) := by decide +kernel
theorem dX11_tests_99 : decode cX11_tests 99 = .ok (.iload 9, 2) := by decide +kernel
theorem dX11_tests_101 : decode cX11_tests 101 = .ok (.dup2, 1) := by decide +kernel
theorem dX11_tests_102 : decode cX11_tests 102 = .ok (.laload, 1) := by decide +kernel
theorem dX11_tests_103 : decode cX11_tests 103 = .ok (.iload 6, 2) := by decide +kernel
theorem dX11_tests_105 : decode cX11_tests 105 = .ok (.bipush 60, 2) := by decide +kernel
theorem dX11_tests_107 : decode cX11_tests 107 = .ok (.if_icmp .ge 11, 3) := by decide +kernel
theorem dX11_tests_110 : decode cX11_tests 110 = .ok (.lload 10, 2) := by decide +kernel
theorem dX11_tests_112 : decode cX11_tests 112 = .ok (.iload 6, 2) := by decide +kernel
theorem dX11_tests_114 : decode cX11_tests 114 = .ok (.lshl, 1) := by decide +kernel
theorem dX11_tests_115 : decode cX11_tests 115 = .ok (.goto 4, 3) := by decide +kernel
theorem dX11_tests_118 : decode cX11_tests 118 = .ok (.lconst 0, 1) := by decide +kernel
theorem dX11_tests_119 : decode cX11_tests 119 = .ok (.lor, 1) := by decide +kernel
theorem dX11_tests_120 : decode cX11_tests 120 = .ok (.lastore, 1) := by decide +kernel
theorem dX11_tests_121 : decode cX11_tests 121 = .ok (.aload_n 0, 1) := by decide +kernel
theorem dX11_tests_122 : decode cX11_tests 122 = .ok (.getfield 57, 3) := by decide +kernel
theorem dX11_tests_125 : decode cX11_tests 125 = .ok (.iload 9, 2) := by decide +kernel
theorem dX11_tests_127 : decode cX11_tests 127 = .ok (.dup2, 1) := by decide +kernel
theorem dX11_tests_128 : decode cX11_tests 128 = .ok (.laload, 1) := by decide +kernel
theorem dX11_tests_129 : decode cX11_tests 129 = .ok (.iload 6, 2) := by decide +kernel
theorem dX11_tests_131 : decode cX11_tests 131 = .ok (.bipush 60, 2) := by decide +kernel
theorem dX11_tests_133 : decode cX11_tests 133 = .ok (.if_icmp .ge 7, 3) := by decide +kernel
theorem dX11_tests_136 : decode cX11_tests 136 = .ok (.lconst 0, 1) := by decide +kernel
theorem dX11_tests_137 : decode cX11_tests 137 = .ok (.goto 11, 3) := by decide +kernel
theorem dX11_tests_140 : decode cX11_tests 140 = .ok (.lload 10, 2) := by decide +kernel
theorem dX11_tests_142 : decode cX11_tests 142 = .ok (.iload 6, 2) := by decide +kernel
theorem dX11_tests_144 : decode cX11_tests 144 = .ok (.bipush 60, 2) := by decide +kernel
theorem dX11_tests_146 : decode cX11_tests 146 = .ok (.isub, 1) := by decide +kernel
theorem dX11_tests_147 : decode cX11_tests 147 = .ok (.lshl, 1) := by decide +kernel
theorem dX11_tests_148 : decode cX11_tests 148 = .ok (.lor, 1) := by decide +kernel
theorem dX11_tests_149 : decode cX11_tests 149 = .ok (.lastore, 1) := by decide +kernel
theorem dX11_tests_150 : decode cX11_tests 150 = .ok (.iinc 9 1, 3) := by decide +kernel
theorem dX11_tests_153 : decode cX11_tests 153 = .ok (.goto (-73), 3) := by decide +kernel
theorem dX11_tests_156 : decode cX11_tests 156 = .ok (.iinc 6 1, 3) := by decide +kernel
theorem dX11_tests_159 : decode cX11_tests 159 = .ok (.goto (-107), 3) := by decide +kernel
theorem dX11_tests_162 : decode cX11_tests 162 = .ok (.iconst 0, 1) := by decide +kernel
theorem dX11_tests_163 : decode cX11_tests 163 = .ok (.istore 6, 2) := by decide +kernel
theorem dX11_tests_165 : decode cX11_tests 165 = .ok (.iload 6, 2) := by decide +kernel
theorem dX11_tests_167 : decode cX11_tests 167 = .ok (.iload_n 1, 1) := by decide +kernel
theorem dX11_tests_168 : decode cX11_tests 168 = .ok (.if_icmp .ge 31, 3) := by decide +kernel
theorem dX11_tests_171 : decode cX11_tests 171 = .ok (.lload_n 2, 1) := by decide +kernel
theorem dX11_tests_172 : decode cX11_tests 172 = .ok (.aload_n 0, 1) := by decide +kernel
theorem dX11_tests_173 : decode cX11_tests 173 = .ok (.getfield 53, 3) := by decide +kernel
theorem dX11_tests_176 : decode cX11_tests 176 = .ok (.iload 6, 2) := by decide +kernel
theorem dX11_tests_178 : decode cX11_tests 178 = .ok (.laload, 1) := by decide +kernel
theorem dX11_tests_179 : decode cX11_tests 179 = .ok (.lor, 1) := by decide +kernel
theorem dX11_tests_180 : decode cX11_tests 180 = .ok (.lstore_n 2, 1) := by decide +kernel
theorem dX11_tests_181 : decode cX11_tests 181 = .ok (.lload 4, 2) := by decide +kernel
theorem dX11_tests_183 : decode cX11_tests 183 = .ok (.aload_n 0, 1) := by decide +kernel
theorem dX11_tests_184 : decode cX11_tests 184 = .ok (.getfield 57, 3) := by decide +kernel
theorem dX11_tests_187 : decode cX11_tests 187 = .ok (.iload 6, 2) := by decide +kernel
theorem dX11_tests_189 : decode cX11_tests 189 = .ok (.laload, 1) := by decide +kernel
theorem dX11_tests_190 : decode cX11_tests 190 = .ok (.lor, 1) := by decide +kernel
theorem dX11_tests_191 : decode cX11_tests 191 = .ok (.lstore 4, 2) := by decide +kernel
theorem dX11_tests_193 : decode cX11_tests 193 = .ok (.iinc 6 1, 3) := by decide +kernel
theorem dX11_tests_196 : decode cX11_tests 196 = .ok (.goto (-31), 3) := by decide +kernel
theorem dX11_tests_199 : decode cX11_tests 199 = .ok (.lload_n 2, 1) := by decide +kernel
theorem dX11_tests_200 : decode cX11_tests 200 = .ok (.lconst 0, 1) := by decide +kernel
theorem dX11_tests_201 : decode cX11_tests 201 = .ok (.lcmp, 1) := by decide +kernel
theorem dX11_tests_202 : decode cX11_tests 202 = .ok (.ifCond .ne 14, 3) := by decide +kernel
theorem dX11_tests_205 : decode cX11_tests 205 = .ok (.lload 4, 2) := by decide +kernel
theorem dX11_tests_207 : decode cX11_tests 207 = .ok (.lconst 0, 1) := by decide +kernel
theorem dX11_tests_208 : decode cX11_tests 208 = .ok (.lcmp, 1) := by decide +kernel
theorem dX11_tests_209 : decode cX11_tests 209 = .ok (.ifCond .ne 7, 3) := by decide +kernel
theorem dX11_tests_212 : decode cX11_tests 212 = .ok (.iconst 0, 1) := by decide +kernel
theorem dX11_tests_213 : decode cX11_tests 213 = .ok (.goto 11, 3) := by decide +kernel
theorem dX11_tests_216 : decode cX11_tests 216 = .ok (.aload_n 0, 1) := by decide +kernel
theorem dX11_tests_217 : decode cX11_tests 217 = .ok (.iload_n 1, 1) := by decide +kernel
theorem dX11_tests_218 : decode cX11_tests 218 = .ok (.lload_n 2, 1) := by decide +kernel
theorem dX11_tests_219 : decode cX11_tests 219 = .ok (.lload 4, 2) := by decide +kernel
theorem dX11_tests_221 : decode cX11_tests 221 = .ok (.invokevirtual 196, 3) := by decide +kernel
theorem dX11_tests_224 : decode cX11_tests 224 = .ok (.ireturn, 1) := by decide +kernel
theorem dX11_chosen_0 : decode cX11_chosen 0 = .ok (.iconst 5, 1) := by decide +kernel
theorem dX11_chosen_1 : decode cX11_chosen 1 = .ok (.istore 6, 2) := by decide +kernel
theorem dX11_chosen_3 : decode cX11_chosen 3 = .ok (.iconst 0, 1) := by decide +kernel
theorem dX11_chosen_4 : decode cX11_chosen 4 = .ok (.istore 7, 2) := by decide +kernel
theorem dX11_chosen_6 : decode cX11_chosen 6 = .ok (.iload 7, 2) := by decide +kernel
theorem dX11_chosen_8 : decode cX11_chosen 8 = .ok (.iload_n 1, 1) := by decide +kernel
theorem dX11_chosen_9 : decode cX11_chosen 9 = .ok (.if_icmp .ge 257, 3) := by decide +kernel
theorem dX11_chosen_12 : decode cX11_chosen 12 = .ok (.aload_n 0, 1) := by decide +kernel
theorem dX11_chosen_13 : decode cX11_chosen 13 = .ok (.getfield 53, 3) := by decide +kernel
theorem dX11_chosen_16 : decode cX11_chosen 16 = .ok (.iload 7, 2) := by decide +kernel
theorem dX11_chosen_18 : decode cX11_chosen 18 = .ok (.laload, 1) := by decide +kernel
theorem dX11_chosen_19 : decode cX11_chosen 19 = .ok (.lload_n 2, 1) := by decide +kernel
theorem dX11_chosen_20 : decode cX11_chosen 20 = .ok (.lcmp, 1) := by decide +kernel
theorem dX11_chosen_21 : decode cX11_chosen 21 = .ok (.ifCond .ne 20, 3) := by decide +kernel
theorem dX11_chosen_24 : decode cX11_chosen 24 = .ok (.aload_n 0, 1) := by decide +kernel
theorem dX11_chosen_25 : decode cX11_chosen 25 = .ok (.getfield 57, 3) := by decide +kernel
theorem dX11_chosen_28 : decode cX11_chosen 28 = .ok (.iload 7, 2) := by decide +kernel
theorem dX11_chosen_30 : decode cX11_chosen 30 = .ok (.laload, 1) := by decide +kernel
theorem dX11_chosen_31 : decode cX11_chosen 31 = .ok (.lload 4, 2) := by decide +kernel
theorem dX11_chosen_33 : decode cX11_chosen 33 = .ok (.lcmp, 1) := by decide +kernel
theorem dX11_chosen_34 : decode cX11_chosen 34 = .ok (.ifCond .ne 7, 3) := by decide +kernel
theorem dX11_chosen_37 : decode cX11_chosen 37 = .ok (.iconst 1, 1) := by decide +kernel
theorem dX11_chosen_38 : decode cX11_chosen 38 = .ok (.goto 5, 3) := by decide +kernel
theorem dX11_chosen_41 : decode cX11_chosen 41 = .ok (.iload 6, 2) := by decide +kernel
theorem dX11_chosen_43 : decode cX11_chosen 43 = .ok (.istore 6, 2) := by decide +kernel
theorem dX11_chosen_45 : decode cX11_chosen 45 = .ok (.iload 7, 2) := by decide +kernel
theorem dX11_chosen_47 : decode cX11_chosen 47 = .ok (.iconst 1, 1) := by decide +kernel
theorem dX11_chosen_48 : decode cX11_chosen 48 = .ok (.iadd, 1) := by decide +kernel
theorem dX11_chosen_49 : decode cX11_chosen 49 = .ok (.istore 8, 2) := by decide +kernel
theorem dX11_chosen_51 : decode cX11_chosen 51 = .ok (.iload 8, 2) := by decide +kernel
theorem dX11_chosen_53 : decode cX11_chosen 53 = .ok (.iload_n 1, 1) := by decide +kernel
theorem dX11_chosen_54 : decode cX11_chosen 54 = .ok (.if_icmp .ge 206, 3) := by decide +kernel
theorem dX11_chosen_57 : decode cX11_chosen 57 = .ok (.iload 6, 2) := by decide +kernel
theorem dX11_chosen_59 : decode cX11_chosen 59 = .ok (.iconst 2, 1) := by decide +kernel
theorem dX11_chosen_60 : decode cX11_chosen 60 = .ok (.if_icmp .le 200, 3) := by decide +kernel
theorem dX11_chosen_63 : decode cX11_chosen 63 = .ok (.aload_n 0, 1) := by decide +kernel
theorem dX11_chosen_64 : decode cX11_chosen 64 = .ok (.getfield 53, 3) := by decide +kernel
theorem dX11_chosen_67 : decode cX11_chosen 67 = .ok (.iload 7, 2) := by decide +kernel
theorem dX11_chosen_69 : decode cX11_chosen 69 = .ok (.laload, 1) := by decide +kernel
theorem dX11_chosen_70 : decode cX11_chosen 70 = .ok (.aload_n 0, 1) := by decide +kernel
theorem dX11_chosen_71 : decode cX11_chosen 71 = .ok (.getfield 53, 3) := by decide +kernel
theorem dX11_chosen_74 : decode cX11_chosen 74 = .ok (.iload 8, 2) := by decide +kernel
theorem dX11_chosen_76 : decode cX11_chosen 76 = .ok (.laload, 1) := by decide +kernel
theorem dX11_chosen_77 : decode cX11_chosen 77 = .ok (.lor, 1) := by decide +kernel
theorem dX11_chosen_78 : decode cX11_chosen 78 = .ok (.lstore 9, 2) := by decide +kernel
theorem dX11_chosen_80 : decode cX11_chosen 80 = .ok (.aload_n 0, 1) := by decide +kernel
theorem dX11_chosen_81 : decode cX11_chosen 81 = .ok (.getfield 57, 3) := by decide +kernel
theorem dX11_chosen_84 : decode cX11_chosen 84 = .ok (.iload 7, 2) := by decide +kernel
theorem dX11_chosen_86 : decode cX11_chosen 86 = .ok (.laload, 1) := by decide +kernel
theorem dX11_chosen_87 : decode cX11_chosen 87 = .ok (.aload_n 0, 1) := by decide +kernel
theorem dX11_chosen_88 : decode cX11_chosen 88 = .ok (.getfield 57, 3) := by decide +kernel
theorem dX11_chosen_91 : decode cX11_chosen 91 = .ok (.iload 8, 2) := by decide +kernel
theorem dX11_chosen_93 : decode cX11_chosen 93 = .ok (.laload, 1) := by decide +kernel
theorem dX11_chosen_94 : decode cX11_chosen 94 = .ok (.lor, 1) := by decide +kernel
theorem dX11_chosen_95 : decode cX11_chosen 95 = .ok (.lstore 11, 2) := by decide +kernel
theorem dX11_chosen_97 : decode cX11_chosen 97 = .ok (.lload 9, 2) := by decide +kernel
theorem dX11_chosen_99 : decode cX11_chosen 99 = .ok (.lload_n 2, 1) := by decide +kernel
theorem dX11_chosen_100 : decode cX11_chosen 100 = .ok (.lcmp, 1) := by decide +kernel
theorem dX11_chosen_101 : decode cX11_chosen 101 = .ok (.ifCond .ne 15, 3) := by decide +kernel
theorem dX11_chosen_104 : decode cX11_chosen 104 = .ok (.lload 11, 2) := by decide +kernel
theorem dX11_chosen_106 : decode cX11_chosen 106 = .ok (.lload 4, 2) := by decide +kernel
theorem dX11_chosen_108 : decode cX11_chosen 108 = .ok (.lcmp, 1) := by decide +kernel
theorem dX11_chosen_109 : decode cX11_chosen 109 = .ok (.ifCond .ne 7, 3) := by decide +kernel
theorem dX11_chosen_112 : decode cX11_chosen 112 = .ok (.iconst 2, 1) := by decide +kernel
theorem dX11_chosen_113 : decode cX11_chosen 113 = .ok (.goto 5, 3) := by decide +kernel
theorem dX11_chosen_116 : decode cX11_chosen 116 = .ok (.iload 6, 2) := by decide +kernel
theorem dX11_chosen_118 : decode cX11_chosen 118 = .ok (.istore 6, 2) := by decide +kernel
theorem dX11_chosen_120 : decode cX11_chosen 120 = .ok (.iload 8, 2) := by decide +kernel
theorem dX11_chosen_122 : decode cX11_chosen 122 = .ok (.iconst 1, 1) := by decide +kernel
theorem dX11_chosen_123 : decode cX11_chosen 123 = .ok (.iadd, 1) := by decide +kernel
theorem dX11_chosen_124 : decode cX11_chosen 124 = .ok (.istore 13, 2) := by decide +kernel
theorem dX11_chosen_126 : decode cX11_chosen 126 = .ok (.iload 13, 2) := by decide +kernel
theorem dX11_chosen_128 : decode cX11_chosen 128 = .ok (.iload_n 1, 1) := by decide +kernel
theorem dX11_chosen_129 : decode cX11_chosen 129 = .ok (.if_icmp .ge 125, 3) := by decide +kernel
theorem dX11_chosen_132 : decode cX11_chosen 132 = .ok (.iload 6, 2) := by decide +kernel
theorem dX11_chosen_134 : decode cX11_chosen 134 = .ok (.iconst 3, 1) := by decide +kernel
theorem dX11_chosen_135 : decode cX11_chosen 135 = .ok (.if_icmp .le 119, 3) := by decide +kernel
theorem dX11_chosen_138 : decode cX11_chosen 138 = .ok (.lload 9, 2) := by decide +kernel
theorem dX11_chosen_140 : decode cX11_chosen 140 = .ok (.aload_n 0, 1) := by decide +kernel
theorem dX11_chosen_141 : decode cX11_chosen 141 = .ok (.getfield 53, 3) := by decide +kernel
theorem dX11_chosen_144 : decode cX11_chosen 144 = .ok (.iload 13, 2) := by decide +kernel
theorem dX11_chosen_146 : decode cX11_chosen 146 = .ok (.laload, 1) := by decide +kernel
theorem dX11_chosen_147 : decode cX11_chosen 147 = .ok (.lor, 1) := by decide +kernel
theorem dX11_chosen_148 : decode cX11_chosen 148 = .ok (.lstore 14, 2) := by decide +kernel
theorem dX11_chosen_150 : decode cX11_chosen 150 = .ok (.lload 11, 2) := by decide +kernel
theorem dX11_chosen_152 : decode cX11_chosen 152 = .ok (.aload_n 0, 1) := by decide +kernel
theorem dX11_chosen_153 : decode cX11_chosen 153 = .ok (.getfield 57, 3) := by decide +kernel
theorem dX11_chosen_156 : decode cX11_chosen 156 = .ok (.iload 13, 2) := by decide +kernel
theorem dX11_chosen_158 : decode cX11_chosen 158 = .ok (.laload, 1) := by decide +kernel
theorem dX11_chosen_159 : decode cX11_chosen 159 = .ok (.lor, 1) := by decide +kernel
theorem dX11_chosen_160 : decode cX11_chosen 160 = .ok (.lstore 16, 2) := by decide +kernel
theorem dX11_chosen_162 : decode cX11_chosen 162 = .ok (.lload 14, 2) := by decide +kernel
theorem dX11_chosen_164 : decode cX11_chosen 164 = .ok (.lload_n 2, 1) := by decide +kernel
theorem dX11_chosen_165 : decode cX11_chosen 165 = .ok (.lcmp, 1) := by decide +kernel
theorem dX11_chosen_166 : decode cX11_chosen 166 = .ok (.ifCond .ne 15, 3) := by decide +kernel
theorem dX11_chosen_169 : decode cX11_chosen 169 = .ok (.lload 16, 2) := by decide +kernel
theorem dX11_chosen_171 : decode cX11_chosen 171 = .ok (.lload 4, 2) := by decide +kernel
theorem dX11_chosen_173 : decode cX11_chosen 173 = .ok (.lcmp, 1) := by decide +kernel
theorem dX11_chosen_174 : decode cX11_chosen 174 = .ok (.ifCond .ne 7, 3) := by decide +kernel
theorem dX11_chosen_177 : decode cX11_chosen 177 = .ok (.iconst 3, 1) := by decide +kernel
theorem dX11_chosen_178 : decode cX11_chosen 178 = .ok (.goto 5, 3) := by decide +kernel
theorem dX11_chosen_181 : decode cX11_chosen 181 = .ok (.iload 6, 2) := by decide +kernel
theorem dX11_chosen_183 : decode cX11_chosen 183 = .ok (.istore 6, 2) := by decide +kernel
theorem dX11_chosen_185 : decode cX11_chosen 185 = .ok (.iload 13, 2) := by decide +kernel
theorem dX11_chosen_187 : decode cX11_chosen 187 = .ok (.iconst 1, 1) := by decide +kernel
theorem dX11_chosen_188 : decode cX11_chosen 188 = .ok (.iadd, 1) := by decide +kernel
theorem dX11_chosen_189 : decode cX11_chosen 189 = .ok (.istore 18, 2) := by decide +kernel
theorem dX11_chosen_191 : decode cX11_chosen 191 = .ok (.iload 18, 2) := by decide +kernel
theorem dX11_chosen_193 : decode cX11_chosen 193 = .ok (.iload_n 1, 1) := by decide +kernel
theorem dX11_chosen_194 : decode cX11_chosen 194 = .ok (.if_icmp .ge 54, 3) := by decide +kernel
theorem dX11_chosen_197 : decode cX11_chosen 197 = .ok (.iload 6, 2) := by decide +kernel
theorem dX11_chosen_199 : decode cX11_chosen 199 = .ok (.iconst 4, 1) := by decide +kernel
theorem dX11_chosen_200 : decode cX11_chosen 200 = .ok (.if_icmp .le 48, 3) := by decide +kernel
theorem dX11_chosen_203 : decode cX11_chosen 203 = .ok (.lload 14, 2) := by decide +kernel
theorem dX11_chosen_205 : decode cX11_chosen 205 = .ok (.aload_n 0, 1) := by decide +kernel
theorem dX11_chosen_206 : decode cX11_chosen 206 = .ok (.getfield 53, 3) := by decide +kernel
theorem dX11_chosen_209 : decode cX11_chosen 209 = .ok (.iload 18, 2) := by decide +kernel
theorem dX11_chosen_211 : decode cX11_chosen 211 = .ok (.laload, 1) := by decide +kernel
theorem dX11_chosen_212 : decode cX11_chosen 212 = .ok (.lor, 1) := by decide +kernel
theorem dX11_chosen_213 : decode cX11_chosen 213 = .ok (.lload_n 2, 1) := by decide +kernel
theorem dX11_chosen_214 : decode cX11_chosen 214 = .ok (.lcmp, 1) := by decide +kernel
theorem dX11_chosen_215 : decode cX11_chosen 215 = .ok (.ifCond .ne 23, 3) := by decide +kernel
theorem dX11_chosen_218 : decode cX11_chosen 218 = .ok (.lload 16, 2) := by decide +kernel
theorem dX11_chosen_220 : decode cX11_chosen 220 = .ok (.aload_n 0, 1) := by decide +kernel
theorem dX11_chosen_221 : decode cX11_chosen 221 = .ok (.getfield 57, 3) := by decide +kernel
theorem dX11_chosen_224 : decode cX11_chosen 224 = .ok (.iload 18, 2) := by decide +kernel
theorem dX11_chosen_226 : decode cX11_chosen 226 = .ok (.laload, 1) := by decide +kernel
theorem dX11_chosen_227 : decode cX11_chosen 227 = .ok (.lor, 1) := by decide +kernel
theorem dX11_chosen_228 : decode cX11_chosen 228 = .ok (.lload 4, 2) := by decide +kernel
theorem dX11_chosen_230 : decode cX11_chosen 230 = .ok (.lcmp, 1) := by decide +kernel
theorem dX11_chosen_231 : decode cX11_chosen 231 = .ok (.ifCond .ne 7, 3) := by decide +kernel
theorem dX11_chosen_234 : decode cX11_chosen 234 = .ok (.iconst 4, 1) := by decide +kernel
theorem dX11_chosen_235 : decode cX11_chosen 235 = .ok (.goto 5, 3) := by decide +kernel
theorem dX11_chosen_238 : decode cX11_chosen 238 = .ok (.iload 6, 2) := by decide +kernel
theorem dX11_chosen_240 : decode cX11_chosen 240 = .ok (.istore 6, 2) := by decide +kernel
theorem dX11_chosen_242 : decode cX11_chosen 242 = .ok (.iinc 18 1, 3) := by decide +kernel
theorem dX11_chosen_245 : decode cX11_chosen 245 = .ok (.goto (-54), 3) := by decide +kernel
theorem dX11_chosen_248 : decode cX11_chosen 248 = .ok (.iinc 13 1, 3) := by decide +kernel
theorem dX11_chosen_251 : decode cX11_chosen 251 = .ok (.goto (-125), 3) := by decide +kernel
theorem dX11_chosen_254 : decode cX11_chosen 254 = .ok (.iinc 8 1, 3) := by decide +kernel
theorem dX11_chosen_257 : decode cX11_chosen 257 = .ok (.goto (-206), 3) := by decide +kernel
theorem dX11_chosen_260 : decode cX11_chosen 260 = .ok (.iinc 7 1, 3) := by decide +kernel
theorem dX11_chosen_263 : decode cX11_chosen 263 = .ok (.goto (-257), 3) := by decide +kernel
theorem dX11_chosen_266 : decode cX11_chosen 266 = .ok (.iload 6, 2) := by decide +kernel
theorem dX11_chosen_268 : decode cX11_chosen 268 = .ok (.iconst 5, 1) := by decide +kernel
theorem dX11_chosen_269 : decode cX11_chosen 269 = .ok (.if_icmp .ne 7, 3) := by decide +kernel
theorem dX11_chosen_272 : decode cX11_chosen 272 = .ok (.iconst (-1), 1) := by decide +kernel
theorem dX11_chosen_273 : decode cX11_chosen 273 = .ok (.goto 5, 3) := by decide +kernel
theorem dX11_chosen_276 : decode cX11_chosen 276 = .ok (.iload 6, 2) := by decide +kernel
theorem dX11_chosen_278 : decode cX11_chosen 278 = .ok (.ireturn, 1) := by decide +kernel
theorem dX11_bears_0 : decode cX11_bears 0 = .ok (.aload_n 0, 1) := by decide +kernel
theorem dX11_bears_1 : decode cX11_bears 1 = .ok (.iconst 0, 1) := by decide +kernel
theorem dX11_bears_2 : decode cX11_bears 2 = .ok (.putfield 70, 3) := by decide +kernel
theorem dX11_bears_5 : decode cX11_bears 5 = .ok (.aload_n 0, 1) := by decide +kernel
theorem dX11_bears_6 : decode cX11_bears 6 = .ok (.iconst (-1), 1) := by decide +kernel
theorem dX11_bears_7 : decode cX11_bears 7 = .ok (.iconst 0, 1) := by decide +kernel
theorem dX11_bears_8 : decode cX11_bears 8 = .ok (.invokevirtual 170, 3) := by decide +kernel
theorem dX11_bears_11 : decode cX11_bears 11 = .ok (.ifCond .ne 7, 3) := by decide +kernel
theorem dX11_bears_14 : decode cX11_bears 14 = .ok (.iconst 1, 1) := by decide +kernel
theorem dX11_bears_15 : decode cX11_bears 15 = .ok (.goto 4, 3) := by decide +kernel
theorem dX11_bears_18 : decode cX11_bears 18 = .ok (.iconst 0, 1) := by decide +kernel
theorem dX11_bears_19 : decode cX11_bears 19 = .ok (.istore_n 1, 1) := by decide +kernel
theorem dX11_bears_20 : decode cX11_bears 20 = .ok (.iconst 0, 1) := by decide +kernel
theorem dX11_bears_21 : decode cX11_bears 21 = .ok (.istore_n 2, 1) := by decide +kernel
theorem dX11_bears_22 : decode cX11_bears 22 = .ok (.iload_n 2, 1) := by decide +kernel
theorem dX11_bears_23 : decode cX11_bears 23 = .ok (.aload_n 0, 1) := by decide +kernel
theorem dX11_bears_24 : decode cX11_bears 24 = .ok (.getfield 81, 3) := by decide +kernel
theorem dX11_bears_27 : decode cX11_bears 27 = .ok (.if_icmp .ge 28, 3) := by decide +kernel
theorem dX11_bears_30 : decode cX11_bears 30 = .ok (.iload_n 1, 1) := by decide +kernel
theorem dX11_bears_31 : decode cX11_bears 31 = .ok (.ifCond .eq 24, 3) := by decide +kernel
theorem dX11_bears_34 : decode cX11_bears 34 = .ok (.aload_n 0, 1) := by decide +kernel
theorem dX11_bears_35 : decode cX11_bears 35 = .ok (.iload_n 2, 1) := by decide +kernel
theorem dX11_bears_36 : decode cX11_bears 36 = .ok (.iconst 0, 1) := by decide +kernel
theorem dX11_bears_37 : decode cX11_bears 37 = .ok (.invokevirtual 170, 3) := by decide +kernel
theorem dX11_bears_40 : decode cX11_bears 40 = .ok (.ifCond .ne 7, 3) := by decide +kernel
theorem dX11_bears_43 : decode cX11_bears 43 = .ok (.iconst 1, 1) := by decide +kernel
theorem dX11_bears_44 : decode cX11_bears 44 = .ok (.goto 4, 3) := by decide +kernel
theorem dX11_bears_47 : decode cX11_bears 47 = .ok (.iconst 0, 1) := by decide +kernel
