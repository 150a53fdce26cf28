theorem dX8_row_69 : decode cX8_row 69 = .ok (.iaload, 1) := by decide +kernel
theorem dX8_row_70 : decode cX8_row 70 = .ok (.iconst 1, 1) := by decide +kernel
theorem dX8_row_71 : decode cX8_row 71 = .ok (.iadd, 1) := by decide +kernel
theorem dX8_row_72 : decode cX8_row 72 = .ok (.iastore, 1) := by decide +kernel
theorem dX8_row_73 : decode cX8_row 73 = .ok (.aload_n 0, 1) := by decide +kernel
theorem dX8_row_74 : decode cX8_row 74 = .ok (.getfield 10, 3) := by decide +kernel
theorem dX8_row_77 : decode cX8_row 77 = .ok (.getfield 95, 3) := by decide +kernel
theorem dX8_row_80 : decode cX8_row 80 = .ok (.iload_n 3, 1) := by decide +kernel
theorem dX8_row_81 : decode cX8_row 81 = .ok (.iaload, 1) := by decide +kernel
theorem dX8_row_82 : decode cX8_row 82 = .ok (.ireturn, 1) := by decide +kernel
theorem dX8_step_0 : decode cX8_step 0 = .ok (.aload_n 0, 1) := by decide +kernel
theorem dX8_step_1 : decode cX8_step 1 = .ok (.iload_n 1, 1) := by decide +kernel
theorem dX8_step_2 : decode cX8_step 2 = .ok (.invokevirtual 98, 3) := by decide +kernel
theorem dX8_step_5 : decode cX8_step 5 = .ok (.ifCond .ne 6, 3) := by decide +kernel
theorem dX8_step_8 : decode cX8_step 8 = .ok (.bipush (-101), 2) := by decide +kernel
theorem dX8_step_10 : decode cX8_step 10 = .ok (.ireturn, 1) := by decide +kernel
theorem dX8_step_11 : decode cX8_step 11 = .ok (.aload_n 0, 1) := by decide +kernel
theorem dX8_step_12 : decode cX8_step 12 = .ok (.iload_n 1, 1) := by decide +kernel
theorem dX8_step_13 : decode cX8_step 13 = .ok (.invokevirtual 101, 3) := by decide +kernel
theorem dX8_step_16 : decode cX8_step 16 = .ok (.istore_n 2, 1) := by decide +kernel
theorem dX8_step_17 : decode cX8_step 17 = .ok (.iload_n 2, 1) := by decide +kernel
theorem dX8_step_18 : decode cX8_step 18 = .ok (.bipush (-106), 2) := by decide +kernel
theorem dX8_step_20 : decode cX8_step 20 = .ok (.if_icmp .ne 6, 3) := by decide +kernel
theorem dX8_step_23 : decode cX8_step 23 = .ok (.bipush (-106), 2) := by decide +kernel
theorem dX8_step_25 : decode cX8_step 25 = .ok (.ireturn, 1) := by decide +kernel
theorem dX8_step_26 : decode cX8_step 26 = .ok (.aload_n 0, 1) := by decide +kernel
theorem dX8_step_27 : decode cX8_step 27 = .ok (.getfield 26, 3) := by decide +kernel
theorem dX8_step_30 : decode cX8_step 30 = .ok (.getfield 52, 3) := by decide +kernel
theorem dX8_step_33 : decode cX8_step 33 = .ok (.getfield 104, 3) := by decide +kernel
theorem dX8_step_36 : decode cX8_step 36 = .ok (.iload_n 2, 1) := by decide +kernel
theorem dX8_step_37 : decode cX8_step 37 = .ok (.iaload, 1) := by decide +kernel
theorem dX8_step_38 : decode cX8_step 38 = .ok (.istore_n 3, 1) := by decide +kernel
theorem dX8_step_39 : decode cX8_step 39 = .ok (.aload_n 0, 1) := by decide +kernel
theorem dX8_step_40 : decode cX8_step 40 = .ok (.getfield 26, 3) := by decide +kernel
theorem dX8_step_43 : decode cX8_step 43 = .ok (.getfield 52, 3) := by decide +kernel
theorem dX8_step_46 : decode cX8_step 46 = .ok (.getfield 107, 3) := by decide +kernel
theorem dX8_step_49 : decode cX8_step 49 = .ok (.iload_n 2, 1) := by decide +kernel
theorem dX8_step_50 : decode cX8_step 50 = .ok (.iaload, 1) := by decide +kernel
theorem dX8_step_51 : decode cX8_step 51 = .ok (.istore 4, 2) := by decide +kernel
theorem dX8_step_53 : decode cX8_step 53 = .ok (.aload_n 0, 1) := by decide +kernel
theorem dX8_step_54 : decode cX8_step 54 = .ok (.getfield 26, 3) := by decide +kernel
theorem dX8_step_57 : decode cX8_step 57 = .ok (.getfield 110, 3) := by decide +kernel
theorem dX8_step_60 : decode cX8_step 60 = .ok (.getfield 114, 3) := by decide +kernel
theorem dX8_step_63 : decode cX8_step 63 = .ok (.iload 4, 2) := by decide +kernel
theorem dX8_step_65 : decode cX8_step 65 = .ok (.dup2, 1) := by decide +kernel
theorem dX8_step_66 : decode cX8_step 66 = .ok (.iaload, 1) := by decide +kernel
theorem dX8_step_67 : decode cX8_step 67 = .ok (.iconst 1, 1) := by decide +kernel
theorem dX8_step_68 : decode cX8_step 68 = .ok (.iadd, 1) := by decide +kernel
theorem dX8_step_69 : decode cX8_step 69 = .ok (.iastore, 1) := by decide +kernel
theorem dX8_step_70 : decode cX8_step 70 = .ok (.aload_n 0, 1) := by decide +kernel
theorem dX8_step_71 : decode cX8_step 71 = .ok (.getfield 26, 3) := by decide +kernel
theorem dX8_step_74 : decode cX8_step 74 = .ok (.getfield 110, 3) := by decide +kernel
theorem dX8_step_77 : decode cX8_step 77 = .ok (.getfield 119, 3) := by decide +kernel
theorem dX8_step_80 : decode cX8_step 80 = .ok (.iload 4, 2) := by decide +kernel
theorem dX8_step_82 : decode cX8_step 82 = .ok (.dup2, 1) := by decide +kernel
theorem dX8_step_83 : decode cX8_step 83 = .ok (.laload, 1) := by decide +kernel
theorem dX8_step_84 : decode cX8_step 84 = .ok (.aload_n 0, 1) := by decide +kernel
theorem dX8_step_85 : decode cX8_step 85 = .ok (.getfield 26, 3) := by decide +kernel
theorem dX8_step_88 : decode cX8_step 88 = .ok (.getfield 52, 3) := by decide +kernel
theorem dX8_step_91 : decode cX8_step 91 = .ok (.getfield 123, 3) := by decide +kernel
theorem dX8_step_94 : decode cX8_step 94 = .ok (.iload_n 2, 1) := by decide +kernel
theorem dX8_step_95 : decode cX8_step 95 = .ok (.iaload, 1) := by decide +kernel
theorem dX8_step_96 : decode cX8_step 96 = .ok (.i2l, 1) := by decide +kernel
theorem dX8_step_97 : decode cX8_step 97 = .ok (.ladd, 1) := by decide +kernel
theorem dX8_step_98 : decode cX8_step 98 = .ok (.lastore, 1) := by decide +kernel
theorem dX8_step_99 : decode cX8_step 99 = .ok (.aload_n 0, 1) := by decide +kernel
theorem dX8_step_100 : decode cX8_step 100 = .ok (.getfield 26, 3) := by decide +kernel
theorem dX8_step_103 : decode cX8_step 103 = .ok (.getfield 52, 3) := by decide +kernel
theorem dX8_step_106 : decode cX8_step 106 = .ok (.iload_n 2, 1) := by decide +kernel
theorem dX8_step_107 : decode cX8_step 107 = .ok (.invokevirtual 126, 3) := by decide +kernel
theorem dX8_step_110 : decode cX8_step 110 = .ok (.aload_n 0, 1) := by decide +kernel
theorem dX8_step_111 : decode cX8_step 111 = .ok (.getfield 33, 3) := by decide +kernel
theorem dX8_step_114 : decode cX8_step 114 = .ok (.iload_n 3, 1) := by decide +kernel
theorem dX8_step_115 : decode cX8_step 115 = .ok (.iload 4, 2) := by decide +kernel
theorem dX8_step_117 : decode cX8_step 117 = .ok (.aload_n 0, 1) := by decide +kernel
theorem dX8_step_118 : decode cX8_step 118 = .ok (.getfield 26, 3) := by decide +kernel
theorem dX8_step_121 : decode cX8_step 121 = .ok (.getfield 110, 3) := by decide +kernel
theorem dX8_step_124 : decode cX8_step 124 = .ok (.getfield 119, 3) := by decide +kernel
theorem dX8_step_127 : decode cX8_step 127 = .ok (.iload 4, 2) := by decide +kernel
theorem dX8_step_129 : decode cX8_step 129 = .ok (.laload, 1) := by decide +kernel
theorem dX8_step_130 : decode cX8_step 130 = .ok (.invokevirtual 130, 3) := by decide +kernel
theorem dX8_step_133 : decode cX8_step 133 = .ok (.iload 4, 2) := by decide +kernel
theorem dX8_step_135 : decode cX8_step 135 = .ok (.ireturn, 1) := by decide +kernel
theorem dX8_add_0 : decode cX8_add 0 = .ok (.iload_n 1, 1) := by decide +kernel
theorem dX8_add_1 : decode cX8_add 1 = .ok (.invokestatic 77, 3) := by decide +kernel
theorem dX8_add_4 : decode cX8_add 4 = .ok (.ifCond .ne 6, 3) := by decide +kernel
theorem dX8_add_7 : decode cX8_add 7 = .ok (.bipush (-101), 2) := by decide +kernel
theorem dX8_add_9 : decode cX8_add 9 = .ok (.ireturn, 1) := by decide +kernel
theorem dX8_add_10 : decode cX8_add 10 = .ok (.iload_n 3, 1) := by decide +kernel
theorem dX8_add_11 : decode cX8_add 11 = .ok (.invokestatic 85, 3) := by decide +kernel
theorem dX8_add_14 : decode cX8_add 14 = .ok (.ifCond .ne 6, 3) := by decide +kernel
theorem dX8_add_17 : decode cX8_add 17 = .ok (.bipush (-102), 2) := by decide +kernel
theorem dX8_add_19 : decode cX8_add 19 = .ok (.ireturn, 1) := by decide +kernel
theorem dX8_add_20 : decode cX8_add 20 = .ok (.aload_n 0, 1) := by decide +kernel
theorem dX8_add_21 : decode cX8_add 21 = .ok (.getfield 10, 3) := by decide +kernel
theorem dX8_add_24 : decode cX8_add 24 = .ok (.getfield 134, 3) := by decide +kernel
theorem dX8_add_27 : decode cX8_add 27 = .ok (.aload_n 0, 1) := by decide +kernel
theorem dX8_add_28 : decode cX8_add 28 = .ok (.getfield 10, 3) := by decide +kernel
theorem dX8_add_31 : decode cX8_add 31 = .ok (.iload_n 1, 1) := by decide +kernel
theorem dX8_add_32 : decode cX8_add 32 = .ok (.invokevirtual 81, 3) := by decide +kernel
theorem dX8_add_35 : decode cX8_add 35 = .ok (.iaload, 1) := by decide +kernel
theorem dX8_add_36 : decode cX8_add 36 = .ok (.iload_n 2, 1) := by decide +kernel
theorem dX8_add_37 : decode cX8_add 37 = .ok (.if_icmp .eq 6, 3) := by decide +kernel
theorem dX8_add_40 : decode cX8_add 40 = .ok (.bipush (-104), 2) := by decide +kernel
theorem dX8_add_42 : decode cX8_add 42 = .ok (.ireturn, 1) := by decide +kernel
theorem dX8_add_43 : decode cX8_add 43 = .ok (.aload_n 0, 1) := by decide +kernel
theorem dX8_add_44 : decode cX8_add 44 = .ok (.getfield 26, 3) := by decide +kernel
theorem dX8_add_47 : decode cX8_add 47 = .ok (.getfield 110, 3) := by decide +kernel
theorem dX8_add_50 : decode cX8_add 50 = .ok (.getfield 119, 3) := by decide +kernel
theorem dX8_add_53 : decode cX8_add 53 = .ok (.iload_n 1, 1) := by decide +kernel
theorem dX8_add_54 : decode cX8_add 54 = .ok (.dup2, 1) := by decide +kernel
theorem dX8_add_55 : decode cX8_add 55 = .ok (.laload, 1) := by decide +kernel
theorem dX8_add_56 : decode cX8_add 56 = .ok (.iload_n 3, 1) := by decide +kernel
theorem dX8_add_57 : decode cX8_add 57 = .ok (.i2l, 1) := by decide +kernel
theorem dX8_add_58 : decode cX8_add 58 = .ok (.ladd, 1) := by decide +kernel
theorem dX8_add_59 : decode cX8_add 59 = .ok (.lastore, 1) := by decide +kernel
theorem dX8_add_60 : decode cX8_add 60 = .ok (.iconst 1, 1) := by decide +kernel
theorem dX8_add_61 : decode cX8_add 61 = .ok (.ireturn, 1) := by decide +kernel
theorem dX8_scale_0 : decode cX8_scale 0 = .ok (.iload_n 1, 1) := by decide +kernel
theorem dX8_scale_1 : decode cX8_scale 1 = .ok (.iconst 1, 1) := by decide +kernel
theorem dX8_scale_2 : decode cX8_scale 2 = .ok (.if_icmp .lt 12, 3) := by decide +kernel
theorem dX8_scale_5 : decode cX8_scale 5 = .ok (.iload_n 2, 1) := by decide +kernel
theorem dX8_scale_6 : decode cX8_scale 6 = .ok (.ifCond .lt 8, 3) := by decide +kernel
theorem dX8_scale_9 : decode cX8_scale 9 = .ok (.iload_n 2, 1) := by decide +kernel
theorem dX8_scale_10 : decode cX8_scale 10 = .ok (.iconst 1, 1) := by decide +kernel
theorem dX8_scale_11 : decode cX8_scale 11 = .ok (.if_icmp .le 6, 3) := by decide +kernel
theorem dX8_scale_14 : decode cX8_scale 14 = .ok (.bipush (-102), 2) := by decide +kernel
theorem dX8_scale_16 : decode cX8_scale 16 = .ok (.ireturn, 1) := by decide +kernel
theorem dX8_scale_17 : decode cX8_scale 17 = .ok (.iload_n 1, 1) := by decide +kernel
theorem dX8_scale_18 : decode cX8_scale 18 = .ok (.aload_n 0, 1) := by decide +kernel
theorem dX8_scale_19 : decode cX8_scale 19 = .ok (.getfield 10, 3) := by decide +kernel
theorem dX8_scale_22 : decode cX8_scale 22 = .ok (.getfield 137, 3) := by decide +kernel
theorem dX8_scale_25 : decode cX8_scale 25 = .ok (.if_icmp .le 6, 3) := by decide +kernel
theorem dX8_scale_28 : decode cX8_scale 28 = .ok (.bipush (-105), 2) := by decide +kernel
theorem dX8_scale_30 : decode cX8_scale 30 = .ok (.ireturn, 1) := by decide +kernel
theorem dX8_scale_31 : decode cX8_scale 31 = .ok (.iload_n 2, 1) := by decide +kernel
theorem dX8_scale_32 : decode cX8_scale 32 = .ok (.ifCond .ne 21, 3) := by decide +kernel
theorem dX8_scale_35 : decode cX8_scale 35 = .ok (.aload_n 0, 1) := by decide +kernel
theorem dX8_scale_36 : decode cX8_scale 36 = .ok (.getfield 19, 3) := by decide +kernel
theorem dX8_scale_39 : decode cX8_scale 39 = .ok (.aload_n 0, 1) := by decide +kernel
theorem dX8_scale_40 : decode cX8_scale 40 = .ok (.getfield 10, 3) := by decide +kernel
theorem dX8_scale_43 : decode cX8_scale 43 = .ok (.getfield 140, 3) := by decide +kernel
theorem dX8_scale_46 : decode cX8_scale 46 = .ok (.iload_n 1, 1) := by decide +kernel
theorem dX8_scale_47 : decode cX8_scale 47 = .ok (.invokevirtual 143, 3) := by decide +kernel
theorem dX8_scale_50 : decode cX8_scale 50 = .ok (.goto 26, 3) := by decide +kernel
theorem dX8_scale_53 : decode cX8_scale 53 = .ok (.aload_n 0, 1) := by decide +kernel
theorem dX8_scale_54 : decode cX8_scale 54 = .ok (.getfield 19, 3) := by decide +kernel
theorem dX8_scale_57 : decode cX8_scale 57 = .ok (.aload_n 0, 1) := by decide +kernel
theorem dX8_scale_58 : decode cX8_scale 58 = .ok (.getfield 10, 3) := by decide +kernel
theorem dX8_scale_61 : decode cX8_scale 61 = .ok (.iload_n 1, 1) := by decide +kernel
theorem dX8_scale_62 : decode cX8_scale 62 = .ok (.aload_n 0, 1) := by decide +kernel
theorem dX8_scale_63 : decode cX8_scale 63 = .ok (.getfield 48, 3) := by decide +kernel
theorem dX8_scale_66 : decode cX8_scale 66 = .ok (.invokevirtual 146, 3) := by decide +kernel
theorem dX8_scale_69 : decode cX8_scale 69 = .ok (.iconst (-1), 1) := by decide +kernel
theorem dX8_scale_70 : decode cX8_scale 70 = .ok (.if_icmp .ne 6, 3) := by decide +kernel
theorem dX8_scale_73 : decode cX8_scale 73 = .ok (.bipush (-106), 2) := by decide +kernel
theorem dX8_scale_75 : decode cX8_scale 75 = .ok (.ireturn, 1) := by decide +kernel
theorem dX8_scale_76 : decode cX8_scale 76 = .ok (.aload_n 0, 1) := by decide +kernel
theorem dX8_scale_77 : decode cX8_scale 77 = .ok (.getfield 10, 3) := by decide +kernel
theorem dX8_scale_80 : decode cX8_scale 80 = .ok (.aload_n 0, 1) := by decide +kernel
theorem dX8_scale_81 : decode cX8_scale 81 = .ok (.getfield 19, 3) := by decide +kernel
theorem dX8_scale_84 : decode cX8_scale 84 = .ok (.getfield 150, 3) := by decide +kernel
theorem dX8_scale_87 : decode cX8_scale 87 = .ok (.iload_n 1, 1) := by decide +kernel
theorem dX8_scale_88 : decode cX8_scale 88 = .ok (.invokevirtual 151, 3) := by decide +kernel
theorem dX8_scale_91 : decode cX8_scale 91 = .ok (.ireturn, 1) := by decide +kernel
theorem dX8_moved_0 : decode cX8_moved 0 = .ok (.iload_n 1, 1) := by decide +kernel
theorem dX8_moved_1 : decode cX8_moved 1 = .ok (.ifCond .lt 14, 3) := by decide +kernel
theorem dX8_moved_4 : decode cX8_moved 4 = .ok (.iload_n 1, 1) := by decide +kernel
theorem dX8_moved_5 : decode cX8_moved 5 = .ok (.aload_n 0, 1) := by decide +kernel
theorem dX8_moved_6 : decode cX8_moved 6 = .ok (.getfield 10, 3) := by decide +kernel
theorem dX8_moved_9 : decode cX8_moved 9 = .ok (.getfield 155, 3) := by decide +kernel
theorem dX8_moved_12 : decode cX8_moved 12 = .ok (.if_icmp .lt 8, 3) := by decide +kernel
theorem dX8_moved_15 : decode cX8_moved 15 = .ok (.bipush (-106), 2) := by decide +kernel
theorem dX8_moved_17 : decode cX8_moved 17 = .ok (.goto 12, 3) := by decide +kernel
theorem dX8_moved_20 : decode cX8_moved 20 = .ok (.aload_n 0, 1) := by decide +kernel
theorem dX8_moved_21 : decode cX8_moved 21 = .ok (.getfield 10, 3) := by decide +kernel
theorem dX8_moved_24 : decode cX8_moved 24 = .ok (.getfield 158, 3) := by decide +kernel
theorem dX8_moved_27 : decode cX8_moved 27 = .ok (.iload_n 1, 1) := by decide +kernel
theorem dX8_moved_28 : decode cX8_moved 28 = .ok (.iaload, 1) := by decide +kernel
theorem dX8_moved_29 : decode cX8_moved 29 = .ok (.ireturn, 1) := by decide +kernel
theorem dX8_least_0 : decode cX8_least 0 = .ok (.iload_n 1, 1) := by decide +kernel
theorem dX8_least_1 : decode cX8_least 1 = .ok (.iconst 1, 1) := by decide +kernel
theorem dX8_least_2 : decode cX8_least 2 = .ok (.if_icmp .lt 14, 3) := by decide +kernel
theorem dX8_least_5 : decode cX8_least 5 = .ok (.iload_n 1, 1) := by decide +kernel
theorem dX8_least_6 : decode cX8_least 6 = .ok (.aload_n 0, 1) := by decide +kernel
theorem dX8_least_7 : decode cX8_least 7 = .ok (.getfield 10, 3) := by decide +kernel
theorem dX8_least_10 : decode cX8_least 10 = .ok (.getfield 137, 3) := by decide +kernel
theorem dX8_least_13 : decode cX8_least 13 = .ok (.if_icmp .le 7, 3) := by decide +kernel
theorem dX8_least_16 : decode cX8_least 16 = .ok (.ldc2_w 161, 3) := by decide +kernel
theorem dX8_least_19 : decode cX8_least 19 = .ok (.lreturn, 1) := by decide +kernel
theorem dX8_least_20 : decode cX8_least 20 = .ok (.aload_n 0, 1) := by decide +kernel
theorem dX8_least_21 : decode cX8_least 21 = .ok (.getfield 19, 3) := by decide +kernel
theorem dX8_least_24 : decode cX8_least 24 = .ok (.aload_n 0, 1) := by decide +kernel
theorem dX8_least_25 : decode cX8_least 25 = .ok (.getfield 10, 3) := by decide +kernel
theorem dX8_least_28 : decode cX8_least 28 = .ok (.iload_n 1, 1) := by decide +kernel
theorem dX8_least_29 : decode cX8_least 29 = .ok (.aload_n 0, 1) := by decide +kernel
theorem dX8_least_30 : decode cX8_least 30 = .ok (.getfield 48, 3) := by decide +kernel
theorem dX8_least_33 : decode cX8_least 33 = .ok (.invokevirtual 146, 3) := by decide +kernel
theorem dX8_least_36 : decode cX8_least 36 = .ok (.istore_n 2, 1) := by decide +kernel
theorem dX8_least_37 : decode cX8_least 37 = .ok (.iload_n 2, 1) := by decide +kernel
theorem dX8_least_38 : decode cX8_least 38 = .ok (.iconst (-1), 1) := by decide +kernel
theorem dX8_least_39 : decode cX8_least 39 = .ok (.if_icmp .ne 9, 3) := by decide +kernel
theorem dX8_least_42 : decode cX8_least 42 = .ok (.ldc2_w 161, 3) := by decide +kernel
theorem dX8_least_45 : decode cX8_least 45 = .ok (.goto 5, 3) := by decide +kernel
theorem dX8_least_48 : decode cX8_least 48 = .ok (.iload_n 2, 1) := by decide +kernel
theorem dX8_least_49 : decode cX8_least 49 = .ok (.i2l, 1) := by decide +kernel
theorem dX8_least_50 : decode cX8_least 50 = .ok (.lreturn, 1) := by decide +kernel
theorem dX8_groupAt_0 : decode cX8_groupAt 0 = .ok (.iload_n 1, 1) := by decide +kernel
theorem dX8_groupAt_1 : decode cX8_groupAt 1 = .ok (.ifCond .lt 14, 3) := by decide +kernel
theorem dX8_groupAt_4 : decode cX8_groupAt 4 = .ok (.iload_n 1, 1) := by decide +kernel
theorem dX8_groupAt_5 : decode cX8_groupAt 5 = .ok (.aload_n 0, 1) := by decide +kernel
theorem dX8_groupAt_6 : decode cX8_groupAt 6 = .ok (.getfield 10, 3) := by decide +kernel
theorem dX8_groupAt_9 : decode cX8_groupAt 9 = .ok (.getfield 140, 3) := by decide +kernel
theorem dX8_groupAt_12 : decode cX8_groupAt 12 = .ok (.if_icmp .lt 6, 3) := by decide +kernel
theorem dX8_groupAt_15 : decode cX8_groupAt 15 = .ok (.bipush (-101), 2) := by decide +kernel
theorem dX8_groupAt_17 : decode cX8_groupAt 17 = .ok (.ireturn, 1) := by decide +kernel
theorem dX8_groupAt_18 : decode cX8_groupAt 18 = .ok (.iload_n 2, 1) := by decide +kernel
theorem dX8_groupAt_19 : decode cX8_groupAt 19 = .ok (.tableswitch 65 0 3 #[29, 39, 49, 59], 29) := by decide +kernel
theorem dX8_groupAt_48 : decode cX8_groupAt 48 = .ok (.aload_n 0, 1) := by decide +kernel
theorem dX8_groupAt_49 : decode cX8_groupAt 49 = .ok (.getfield 10, 3) := by decide +kernel
theorem dX8_groupAt_52 : decode cX8_groupAt 52 = .ok (.getfield 95, 3) := by decide +kernel
theorem dX8_groupAt_55 : decode cX8_groupAt 55 = .ok (.iload_n 1, 1) := by decide +kernel
theorem dX8_groupAt_56 : decode cX8_groupAt 56 = .ok (.iaload, 1) := by decide +kernel
theorem dX8_groupAt_57 : decode cX8_groupAt 57 = .ok (.ireturn, 1) := by decide +kernel
theorem dX8_groupAt_58 : decode cX8_groupAt 58 = .ok (.aload_n 0, 1) := by decide +kernel
theorem dX8_groupAt_59 : decode cX8_groupAt 59 = .ok (.getfield 10, 3) := by decide +kernel
theorem dX8_groupAt_62 : decode cX8_groupAt 62 = .ok (.getfield 134, 3) := by decide +kernel
theorem dX8_groupAt_65 : decode cX8_groupAt 65 = .ok (.iload_n 1, 1) := by decide +kernel
theorem dX8_groupAt_66 : decode cX8_groupAt 66 = .ok (.iaload, 1) := by decide +kernel
theorem dX8_groupAt_67 : decode cX8_groupAt 67 = .ok (.ireturn, 1) := by decide +kernel
theorem dX8_groupAt_68 : decode cX8_groupAt 68 = .ok (.aload_n 0, 1) := by decide +kernel
theorem dX8_groupAt_69 : decode cX8_groupAt 69 = .ok (.getfield 10, 3) := by decide +kernel
theorem dX8_groupAt_72 : decode cX8_groupAt 72 = .ok (.getfield 91, 3) := by decide +kernel
theorem dX8_groupAt_75 : decode cX8_groupAt 75 = .ok (.iload_n 1, 1) := by decide +kernel
theorem dX8_groupAt_76 : decode cX8_groupAt 76 = .ok (.iaload, 1) := by decide +kernel
theorem dX8_groupAt_77 : decode cX8_groupAt 77 = .ok (.ireturn, 1) := by decide +kernel
theorem dX8_groupAt_78 : decode cX8_groupAt 78 = .ok (.aload_n 0, 1) := by decide +kernel
theorem dX8_groupAt_79 : decode cX8_groupAt 79 = .ok (.iload_n 1, 1) := by decide +kernel
theorem dX8_groupAt_80 : decode cX8_groupAt 80 = .ok (.invokevirtual 163, 3) := by decide +kernel
theorem dX8_groupAt_83 : decode cX8_groupAt 83 = .ok (.ireturn, 1) := by decide +kernel
theorem dX8_groupAt_84 : decode cX8_groupAt 84 = .ok (.bipush (-102), 2) := by decide +kernel
theorem dX8_groupAt_86 : decode cX8_groupAt 86 = .ok (.ireturn, 1) := by decide +kernel
theorem dX8_taskAt_0 : decode cX8_taskAt 0 = .ok (.aload_n 0, 1) := by decide +kernel
theorem dX8_taskAt_1 : decode cX8_taskAt 1 = .ok (.iload_n 1, 1) := by decide +kernel
theorem dX8_taskAt_2 : decode cX8_taskAt 2 = .ok (.invokevirtual 98, 3) := by decide +kernel
theorem dX8_taskAt_5 : decode cX8_taskAt 5 = .ok (.ifCond .ne 6, 3) := by decide +kernel
theorem dX8_taskAt_8 : decode cX8_taskAt 8 = .ok (.bipush (-101), 2) := by decide +kernel
theorem dX8_taskAt_10 : decode cX8_taskAt 10 = .ok (.ireturn, 1) := by decide +kernel
theorem dX8_taskAt_11 : decode cX8_taskAt 11 = .ok (.iload_n 2, 1) := by decide +kernel
theorem dX8_taskAt_12 : decode cX8_taskAt 12 = .ok (.tableswitch 75 0 4 #[36, 45, 54, 63, 69], 36) := by decide +kernel
theorem dX8_taskAt_48 : decode cX8_taskAt 48 = .ok (.aload_n 0, 1) := by decide +kernel
theorem dX8_taskAt_49 : decode cX8_taskAt 49 = .ok (.getfield 10, 3) := by decide +kernel
theorem dX8_taskAt_52 : decode cX8_taskAt 52 = .ok (.iload_n 1, 1) := by decide +kernel
theorem dX8_taskAt_53 : decode cX8_taskAt 53 = .ok (.invokevirtual 166, 3) := by decide +kernel
theorem dX8_taskAt_56 : decode cX8_taskAt 56 = .ok (.ireturn, 1) := by decide +kernel
theorem dX8_taskAt_57 : decode cX8_taskAt 57 = .ok (.aload_n 0, 1) := by decide +kernel
theorem dX8_taskAt_58 : decode cX8_taskAt 58 = .ok (.getfield 10, 3) := by decide +kernel
theorem dX8_taskAt_61 : decode cX8_taskAt 61 = .ok (.iload_n 1, 1) := by decide +kernel
theorem dX8_taskAt_62 : decode cX8_taskAt 62 = .ok (.invokevirtual 169, 3) := by decide +kernel
theorem dX8_taskAt_65 : decode cX8_taskAt 65 = .ok (.ireturn, 1) := by decide +kernel
theorem dX8_taskAt_66 : decode cX8_taskAt 66 = .ok (.aload_n 0, 1) := by decide +kernel
theorem dX8_taskAt_67 : decode cX8_taskAt 67 = .ok (.getfield 10, 3) := by decide +kernel
theorem dX8_taskAt_70 : decode cX8_taskAt 70 = .ok (.iload_n 1, 1) := by decide +kernel
theorem dX8_taskAt_71 : decode cX8_taskAt 71 = .ok (.invokevirtual 172, 3) := by decide +kernel
theorem dX8_taskAt_74 : decode cX8_taskAt 74 = .ok (.ireturn, 1) := by decide +kernel
theorem dX8_taskAt_75 : decode cX8_taskAt 75 = .ok (.aload_n 0, 1) := by decide +kernel
theorem dX8_taskAt_76 : decode cX8_taskAt 76 = .ok (.iload_n 1, 1) := by decide +kernel
theorem dX8_taskAt_77 : decode cX8_taskAt 77 = .ok (.invokevirtual 175, 3) := by decide +kernel
theorem dX8_taskAt_80 : decode cX8_taskAt 80 = .ok (.ireturn, 1) := by decide +kernel
theorem dX8_taskAt_81 : decode cX8_taskAt 81 = .ok (.aload_n 0, 1) := by decide +kernel
theorem dX8_taskAt_82 : decode cX8_taskAt 82 = .ok (.iload_n 1, 1) := by decide +kernel
theorem dX8_taskAt_83 : decode cX8_taskAt 83 = .ok (.invokevirtual 178, 3) := by decide +kernel
theorem dX8_taskAt_86 : decode cX8_taskAt 86 = .ok (.ireturn, 1) := by decide +kernel
theorem dX8_taskAt_87 : decode cX8_taskAt 87 = .ok (.bipush (-102), 2) := by decide +kernel
theorem dX8_taskAt_89 : decode cX8_taskAt 89 = .ok (.ireturn, 1) := by decide +kernel
theorem dX8_counted_0 : decode cX8_counted 0 = .ok (.iload_n 1, 1) := by decide +kernel
theorem dX8_counted_1 : decode cX8_counted 1 = .ok (.invokestatic 77, 3) := by decide +kernel
theorem dX8_counted_4 : decode cX8_counted 4 = .ok (.ifCond .eq 18, 3) := by decide +kernel
theorem dX8_counted_7 : decode cX8_counted 7 = .ok (.aload_n 0, 1) := by decide +kernel
theorem dX8_counted_8 : decode cX8_counted 8 = .ok (.getfield 26, 3) := by decide +kernel
theorem dX8_counted_11 : decode cX8_counted 11 = .ok (.getfield 110, 3) := by decide +kernel
theorem dX8_counted_14 : decode cX8_counted 14 = .ok (.getfield 114, 3) := by decide +kernel
theorem dX8_counted_17 : decode cX8_counted 17 = .ok (.iload_n 1, 1) := by decide +kernel
theorem dX8_counted_18 : decode cX8_counted 18 = .ok (.iaload, 1) := by decide +kernel
theorem dX8_counted_19 : decode cX8_counted 19 = .ok (.goto 5, 3) := by decide +kernel
theorem dX8_counted_22 : decode cX8_counted 22 = .ok (.bipush (-101), 2) := by decide +kernel
theorem dX8_counted_24 : decode cX8_counted 24 = .ok (.ireturn, 1) := by decide +kernel
theorem dX8_sum_0 : decode cX8_sum 0 = .ok (.iload_n 1, 1) := by decide +kernel
theorem dX8_sum_1 : decode cX8_sum 1 = .ok (.invokestatic 77, 3) := by decide +kernel
theorem dX8_sum_4 : decode cX8_sum 4 = .ok (.ifCond .eq 18, 3) := by decide +kernel
theorem dX8_sum_7 : decode cX8_sum 7 = .ok (.aload_n 0, 1) := by decide +kernel
theorem dX8_sum_8 : decode cX8_sum 8 = .ok (.getfield 26, 3) := by decide +kernel
theorem dX8_sum_11 : decode cX8_sum 11 = .ok (.getfield 110, 3) := by decide +kernel
theorem dX8_sum_14 : decode cX8_sum 14 = .ok (.getfield 119, 3) := by decide +kernel
theorem dX8_sum_17 : decode cX8_sum 17 = .ok (.iload_n 1, 1) := by decide +kernel
theorem dX8_sum_18 : decode cX8_sum 18 = .ok (.laload, 1) := by decide +kernel
theorem dX8_sum_19 : decode cX8_sum 19 = .ok (.goto 4, 3) := by decide +kernel
theorem dX8_sum_22 : decode cX8_sum 22 = .ok (.lconst 0, 1) := by decide +kernel
theorem dX8_sum_23 : decode cX8_sum 23 = .ok (.lreturn, 1) := by decide +kernel
theorem dX8_hot_0 : decode cX8_hot 0 = .ok (.aload_n 0, 1) := by decide +kernel
theorem dX8_hot_1 : decode cX8_hot 1 = .ok (.getfield 10, 3) := by decide +kernel
theorem dX8_hot_4 : decode cX8_hot 4 = .ok (.invokevirtual 181, 3) := by decide +kernel
theorem dX8_hot_7 : decode cX8_hot 7 = .ok (.istore_n 2, 1) := by decide +kernel
theorem dX8_hot_8 : decode cX8_hot 8 = .ok (.iconst 0, 1) := by decide +kernel
theorem dX8_hot_9 : decode cX8_hot 9 = .ok (.istore_n 3, 1) := by decide +kernel
theorem dX8_hot_10 : decode cX8_hot 10 = .ok (.iload_n 3, 1) := by decide +kernel
theorem dX8_hot_11 : decode cX8_hot 11 = .ok (.aload_n 0, 1) := by decide +kernel
theorem dX8_hot_12 : decode cX8_hot 12 = .ok (.getfield 10, 3) := by decide +kernel
theorem dX8_hot_15 : decode cX8_hot 15 = .ok (.getfield 140, 3) := by decide +kernel
theorem dX8_hot_18 : decode cX8_hot 18 = .ok (.if_icmp .ge 35, 3) := by decide +kernel
theorem dX8_hot_21 : decode cX8_hot 21 = .ok (.aload_n 0, 1) := by decide +kernel
theorem dX8_hot_22 : decode cX8_hot 22 = .ok (.getfield 10, 3) := by decide +kernel
theorem dX8_hot_25 : decode cX8_hot 25 = .ok (.iload_n 3, 1) := by decide +kernel
theorem dX8_hot_26 : decode cX8_hot 26 = .ok (.iload_n 2, 1) := by decide +kernel
theorem dX8_hot_27 : decode cX8_hot 27 = .ok (.invokevirtual 185, 3) := by decide +kernel
theorem dX8_hot_30 : decode cX8_hot 30 = .ok (.ifCond .eq 17, 3) := by decide +kernel
theorem dX8_hot_33 : decode cX8_hot 33 = .ok (.aload_n 0, 1) := by decide +kernel
theorem dX8_hot_34 : decode cX8_hot 34 = .ok (.getfield 10, 3) := by decide +kernel
theorem dX8_hot_37 : decode cX8_hot 37 = .ok (.iload_n 3, 1) := by decide +kernel
theorem dX8_hot_38 : decode cX8_hot 38 = .ok (.invokevirtual 189, 3) := by decide +kernel
theorem dX8_hot_41 : decode cX8_hot 41 = .ok (.iload_n 1, 1) := by decide +kernel
theorem dX8_hot_42 : decode cX8_hot 42 = .ok (.if_icmp .ne 5, 3) := by decide +kernel
theorem dX8_hot_45 : decode cX8_hot 45 = .ok (.iload_n 3, 1) := by decide +kernel
theorem dX8_hot_46 : decode cX8_hot 46 = .ok (.ireturn, 1) := by decide +kernel
theorem dX8_hot_47 : decode cX8_hot 47 = .ok (.iinc 3 1, 3) := by decide +kernel
theorem dX8_hot_50 : decode cX8_hot 50 = .ok (.goto (-40), 3) := by decide +kernel
theorem dX8_hot_53 : decode cX8_hot 53 = .ok (.bipush (-106), 2) := by decide +kernel
theorem dX8_hot_55 : decode cX8_hot 55 = .ok (.ireturn, 1) := by decide +kernel
theorem dX8_timer_0 : decode cX8_timer 0 = .ok (.iload_n 1, 1) := by decide +kernel
theorem dX8_timer_1 : decode cX8_timer 1 = .ok (.invokestatic 77, 3) := by decide +kernel
theorem dX8_timer_4 : decode cX8_timer 4 = .ok (.ifCond .ne 6, 3) := by decide +kernel
theorem dX8_timer_7 : decode cX8_timer 7 = .ok (.bipush (-101), 2) := by decide +kernel
theorem dX8_timer_9 : decode cX8_timer 9 = .ok (.ireturn, 1) := by decide +kernel
theorem dX8_timer_10 : decode cX8_timer 10 = .ok (.iload_n 2, 1) := by decide +kernel
theorem dX8_timer_11 : decode cX8_timer 11 = .ok (.aload_n 0, 1) := by decide +kernel
theorem dX8_timer_12 : decode cX8_timer 12 = .ok (.getfield 26, 3) := by decide +kernel
theorem dX8_timer_15 : decode cX8_timer 15 = .ok (.getfield 61, 3) := by decide +kernel
theorem dX8_timer_18 : decode cX8_timer 18 = .ok (.getfield 192, 3) := by decide +kernel
theorem dX8_timer_21 : decode cX8_timer 21 = .ok (.if_icmp .le 9, 3) := by decide +kernel
theorem dX8_timer_24 : decode cX8_timer 24 = .ok (.iload_n 2, 1) := by decide +kernel
theorem dX8_timer_25 : decode cX8_timer 25 = .ok (.ldc 195, 2) := by decide +kernel
theorem dX8_timer_27 : decode cX8_timer 27 = .ok (.if_icmp .le 6, 3) := by decide +kernel
theorem dX8_timer_30 : decode cX8_timer 30 = .ok (.bipush (-102), 2) := by decide +kernel
theorem dX8_timer_32 : decode cX8_timer 32 = .ok (.ireturn, 1) := by decide +kernel
theorem dX8_timer_33 : decode cX8_timer 33 = .ok (.aload_n 0, 1) := by decide +kernel
theorem dX8_timer_34 : decode cX8_timer 34 = .ok (.getfield 26, 3) := by decide +kernel
theorem dX8_timer_37 : decode cX8_timer 37 = .ok (.getfield 61, 3) := by decide +kernel
theorem dX8_timer_40 : decode cX8_timer 40 = .ok (.getfield 65, 3) := by decide +kernel
theorem dX8_timer_43 : decode cX8_timer 43 = .ok (.bipush 40, 2) := by decide +kernel
theorem dX8_timer_45 : decode cX8_timer 45 = .ok (.if_icmp .lt 6, 3) := by decide +kernel
theorem dX8_timer_48 : decode cX8_timer 48 = .ok (.bipush (-107), 2) := by decide +kernel
theorem dX8_timer_50 : decode cX8_timer 50 = .ok (.ireturn, 1) := by decide +kernel
theorem dX8_timer_51 : decode cX8_timer 51 = .ok (.aload_n 0, 1) := by decide +kernel
theorem dX8_timer_52 : decode cX8_timer 52 = .ok (.getfield 26, 3) := by decide +kernel
theorem dX8_timer_55 : decode cX8_timer 55 = .ok (.getfield 61, 3) := by decide +kernel
theorem dX8_timer_58 : decode cX8_timer 58 = .ok (.iload_n 1, 1) := by decide +kernel
theorem dX8_timer_59 : decode cX8_timer 59 = .ok (.iload_n 2, 1) := by decide +kernel
theorem dX8_timer_60 : decode cX8_timer 60 = .ok (.invokevirtual 196, 3) := by decide +kernel
theorem dX8_timer_63 : decode cX8_timer 63 = .ok (.aload_n 0, 1) := by decide +kernel
theorem dX8_timer_64 : decode cX8_timer 64 = .ok (.getfield 26, 3) := by decide +kernel
theorem dX8_timer_67 : decode cX8_timer 67 = .ok (.getfield 61, 3) := by decide +kernel
theorem dX8_timer_70 : decode cX8_timer 70 = .ok (.getfield 65, 3) := by decide +kernel
theorem dX8_timer_73 : decode cX8_timer 73 = .ok (.ireturn, 1) := by decide +kernel
theorem dX8_tick_0 : decode cX8_tick 0 = .ok (.iload_n 1, 1) := by decide +kernel
theorem dX8_tick_1 : decode cX8_tick 1 = .ok (.aload_n 0, 1) := by decide +kernel
theorem dX8_tick_2 : decode cX8_tick 2 = .ok (.getfield 26, 3) := by decide +kernel
theorem dX8_tick_5 : decode cX8_tick 5 = .ok (.getfield 61, 3) := by decide +kernel
theorem dX8_tick_8 : decode cX8_tick 8 = .ok (.getfield 192, 3) := by decide +kernel
theorem dX8_tick_11 : decode cX8_tick 11 = .ok (.if_icmp .lt 9, 3) := by decide +kernel
theorem dX8_tick_14 : decode cX8_tick 14 = .ok (.iload_n 1, 1) := by decide +kernel
theorem dX8_tick_15 : decode cX8_tick 15 = .ok (.ldc 195, 2) := by decide +kernel
theorem dX8_tick_17 : decode cX8_tick 17 = .ok (.if_icmp .le 6, 3) := by decide +kernel
theorem dX8_tick_20 : decode cX8_tick 20 = .ok (.bipush (-102), 2) := by decide +kernel
theorem dX8_tick_22 : decode cX8_tick 22 = .ok (.ireturn, 1) := by decide +kernel
theorem dX8_tick_23 : decode cX8_tick 23 = .ok (.aload_n 0, 1) := by decide +kernel
theorem dX8_tick_24 : decode cX8_tick 24 = .ok (.getfield 26, 3) := by decide +kernel
theorem dX8_tick_27 : decode cX8_tick 27 = .ok (.getfield 61, 3) := by decide +kernel
theorem dX8_tick_30 : decode cX8_tick 30 = .ok (.iload_n 1, 1) := by decide +kernel
theorem dX8_tick_31 : decode cX8_tick 31 = .ok (.invokevirtual 197, 3) := by decide +kernel
theorem dX8_tick_34 : decode cX8_tick 34 = .ok (.istore_n 2, 1) := by decide +kernel
theorem dX8_tick_35 : decode cX8_tick 35 = .ok (.iconst 0, 1) := by decide +kernel
theorem dX8_tick_36 : decode cX8_tick 36 = .ok (.istore_n 3, 1) := by decide +kernel
theorem dX8_tick_37 : decode cX8_tick 37 = .ok (.iload_n 3, 1) := by decide +kernel
theorem dX8_tick_38 : decode cX8_tick 38 = .ok (.iload_n 2, 1) := by decide +kernel
theorem dX8_tick_39 : decode cX8_tick 39 = .ok (.if_icmp .ge 82, 3) := by decide +kernel
theorem dX8_tick_42 : decode cX8_tick 42 = .ok (.aload_n 0, 1) := by decide +kernel
theorem dX8_tick_43 : decode cX8_tick 43 = .ok (.getfield 26, 3) := by decide +kernel
theorem dX8_tick_46 : decode cX8_tick 46 = .ok (.getfield 61, 3) := by decide +kernel
theorem dX8_tick_49 : decode cX8_tick 49 = .ok (.getfield 200, 3) := by decide +kernel
theorem dX8_tick_52 : decode cX8_tick 52 = .ok (.iload_n 3, 1) := by decide +kernel
theorem dX8_tick_53 : decode cX8_tick 53 = .ok (.iaload, 1) := by decide +kernel
theorem dX8_tick_54 : decode cX8_tick 54 = .ok (.istore 4, 2) := by decide +kernel
theorem dX8_tick_56 : decode cX8_tick 56 = .ok (.aload_n 0, 1) := by decide +kernel
theorem dX8_tick_57 : decode cX8_tick 57 = .ok (.getfield 40, 3) := by decide +kernel
theorem dX8_tick_60 : decode cX8_tick 60 = .ok (.iload 4, 2) := by decide +kernel
theorem dX8_tick_62 : decode cX8_tick 62 = .ok (.aload_n 0, 1) := by decide +kernel
theorem dX8_tick_63 : decode cX8_tick 63 = .ok (.getfield 26, 3) := by decide +kernel
theorem dX8_tick_66 : decode cX8_tick 66 = .ok (.getfield 61, 3) := by decide +kernel
theorem dX8_tick_69 : decode cX8_tick 69 = .ok (.getfield 201, 3) := by decide +kernel
theorem dX8_tick_72 : decode cX8_tick 72 = .ok (.iload_n 3, 1) := by decide +kernel
theorem dX8_tick_73 : decode cX8_tick 73 = .ok (.iaload, 1) := by decide +kernel
theorem dX8_tick_74 : decode cX8_tick 74 = .ok (.aload_n 0, 1) := by decide +kernel
theorem dX8_tick_75 : decode cX8_tick 75 = .ok (.getfield 26, 3) := by decide +kernel
theorem dX8_tick_78 : decode cX8_tick 78 = .ok (.getfield 110, 3) := by decide +kernel
theorem dX8_tick_81 : decode cX8_tick 81 = .ok (.getfield 114, 3) := by decide +kernel
theorem dX8_tick_84 : decode cX8_tick 84 = .ok (.iload 4, 2) := by decide +kernel
theorem dX8_tick_86 : decode cX8_tick 86 = .ok (.iaload, 1) := by decide +kernel
theorem dX8_tick_87 : decode cX8_tick 87 = .ok (.aload_n 0, 1) := by decide +kernel
theorem dX8_tick_88 : decode cX8_tick 88 = .ok (.getfield 26, 3) := by decide +kernel
theorem dX8_tick_91 : decode cX8_tick 91 = .ok (.getfield 110, 3) := by decide +kernel
theorem dX8_tick_94 : decode cX8_tick 94 = .ok (.getfield 119, 3) := by decide +kernel
theorem dX8_tick_97 : decode cX8_tick 97 = .ok (.iload 4, 2) := by decide +kernel
theorem dX8_tick_99 : decode cX8_tick 99 = .ok (.laload, 1) := by decide +kernel
theorem dX8_tick_100 : decode cX8_tick 100 = .ok (.invokevirtual 204, 3) := by decide +kernel
theorem dX8_tick_103 : decode cX8_tick 103 = .ok (.aload_n 0, 1) := by decide +kernel
theorem dX8_tick_104 : decode cX8_tick 104 = .ok (.getfield 26, 3) := by decide +kernel
theorem dX8_tick_107 : decode cX8_tick 107 = .ok (.getfield 110, 3) := by decide +kernel
theorem dX8_tick_110 : decode cX8_tick 110 = .ok (.iload 4, 2) := by decide +kernel
theorem dX8_tick_112 : decode cX8_tick 112 = .ok (.invokevirtual 207, 3) := by decide +kernel
theorem dX8_tick_115 : decode cX8_tick 115 = .ok (.iinc 3 1, 3) := by decide +kernel
theorem dX8_tick_118 : decode cX8_tick 118 = .ok (.goto (-81), 3) := by decide +kernel
theorem dX8_tick_121 : decode cX8_tick 121 = .ok (.aload_n 0, 1) := by decide +kernel
theorem dX8_tick_122 : decode cX8_tick 122 = .ok (.getfield 26, 3) := by decide +kernel
theorem dX8_tick_125 : decode cX8_tick 125 = .ok (.getfield 61, 3) := by decide +kernel
theorem dX8_tick_128 : decode cX8_tick 128 = .ok (.iload_n 2, 1) := by decide +kernel
theorem dX8_tick_129 : decode cX8_tick 129 = .ok (.invokevirtual 210, 3) := by decide +kernel
theorem dX8_tick_132 : decode cX8_tick 132 = .ok (.aload_n 0, 1) := by decide +kernel
theorem dX8_tick_133 : decode cX8_tick 133 = .ok (.getfield 26, 3) := by decide +kernel
theorem dX8_tick_136 : decode cX8_tick 136 = .ok (.getfield 61, 3) := by decide +kernel
theorem dX8_tick_139 : decode cX8_tick 139 = .ok (.iload_n 1, 1) := by decide +kernel
theorem dX8_tick_140 : decode cX8_tick 140 = .ok (.putfield 192, 3) := by decide +kernel
theorem dX8_tick_143 : decode cX8_tick 143 = .ok (.iload_n 2, 1) := by decide +kernel
theorem dX8_tick_144 : decode cX8_tick 144 = .ok (.ireturn, 1) := by decide +kernel
theorem dX8_out_0 : decode cX8_out 0 = .ok (.iload_n 2, 1) := by decide +kernel
theorem dX8_out_1 : decode cX8_out 1 = .ok (.ifCond .lt 8, 3) := by decide +kernel
theorem dX8_out_4 : decode cX8_out 4 = .ok (.iload_n 2, 1) := by decide +kernel
theorem dX8_out_5 : decode cX8_out 5 = .ok (.iconst 2, 1) := by decide +kernel
theorem dX8_out_6 : decode cX8_out 6 = .ok (.if_icmp .le 7, 3) := by decide +kernel
theorem dX8_out_9 : decode cX8_out 9 = .ok (.ldc2_w 213, 3) := by decide +kernel
theorem dX8_out_12 : decode cX8_out 12 = .ok (.lreturn, 1) := by decide +kernel
theorem dX8_out_13 : decode cX8_out 13 = .ok (.iload_n 1, 1) := by decide +kernel
theorem dX8_out_14 : decode cX8_out 14 = .ok (.ifCond .lt 14, 3) := by decide +kernel
theorem dX8_out_17 : decode cX8_out 17 = .ok (.iload_n 1, 1) := by decide +kernel
theorem dX8_out_18 : decode cX8_out 18 = .ok (.aload_n 0, 1) := by decide +kernel
theorem dX8_out_19 : decode cX8_out 19 = .ok (.getfield 33, 3) := by decide +kernel
theorem dX8_out_22 : decode cX8_out 22 = .ok (.getfield 215, 3) := by decide +kernel
theorem dX8_out_25 : decode cX8_out 25 = .ok (.if_icmp .lt 7, 3) := by decide +kernel
theorem dX8_out_28 : decode cX8_out 28 = .ok (.ldc2_w 216, 3) := by decide +kernel
theorem dX8_out_31 : decode cX8_out 31 = .ok (.lreturn, 1) := by decide +kernel
theorem dX8_out_32 : decode cX8_out 32 = .ok (.iload_n 2, 1) := by decide +kernel
theorem dX8_out_33 : decode cX8_out 33 = .ok (.lookupswitch 49 #[(0, 27), (1, 38)], 27) := by decide +kernel
theorem dX8_out_60 : decode cX8_out 60 = .ok (.aload_n 0, 1) := by decide +kernel
theorem dX8_out_61 : decode cX8_out 61 = .ok (.getfield 33, 3) := by decide +kernel
theorem dX8_out_64 : decode cX8_out 64 = .ok (.getfield 218, 3) := by decide +kernel
theorem dX8_out_67 : decode cX8_out 67 = .ok (.iload_n 1, 1) := by decide +kernel
theorem dX8_out_68 : decode cX8_out 68 = .ok (.iaload, 1) := by decide +kernel
theorem dX8_out_69 : decode cX8_out 69 = .ok (.i2l, 1) := by decide +kernel
theorem dX8_out_70 : decode cX8_out 70 = .ok (.lreturn, 1) := by decide +kernel
theorem dX8_out_71 : decode cX8_out 71 = .ok (.aload_n 0, 1) := by decide +kernel
theorem dX8_out_72 : decode cX8_out 72 = .ok (.getfield 33, 3) := by decide +kernel
theorem dX8_out_75 : decode cX8_out 75 = .ok (.getfield 219, 3) := by decide +kernel
theorem dX8_out_78 : decode cX8_out 78 = .ok (.iload_n 1, 1) := by decide +kernel
theorem dX8_out_79 : decode cX8_out 79 = .ok (.iaload, 1) := by decide +kernel
theorem dX8_out_80 : decode cX8_out 80 = .ok (.i2l, 1) := by decide +kernel
theorem dX8_out_81 : decode cX8_out 81 = .ok (.lreturn, 1) := by decide +kernel
theorem dX8_out_82 : decode cX8_out 82 = .ok (.aload_n 0, 1) := by decide +kernel
theorem dX8_out_83 : decode cX8_out 83 = .ok (.getfield 33, 3) := by decide +kernel
theorem dX8_out_86 : decode cX8_out 86 = .ok (.getfield 220, 3) := by decide +kernel
theorem dX8_out_89 : decode cX8_out 89 = .ok (.iload_n 1, 1) := by decide +kernel
theorem dX8_out_90 : decode cX8_out 90 = .ok (.laload, 1) := by decide +kernel
theorem dX8_out_91 : decode cX8_out 91 = .ok (.lreturn, 1) := by decide +kernel
theorem dX8_log_0 : decode cX8_log 0 = .ok (.iload_n 2, 1) := by decide +kernel
theorem dX8_log_1 : decode cX8_log 1 = .ok (.ifCond .lt 8, 3) := by decide +kernel
theorem dX8_log_4 : decode cX8_log 4 = .ok (.iload_n 2, 1) := by decide +kernel
theorem dX8_log_5 : decode cX8_log 5 = .ok (.iconst 3, 1) := by decide +kernel
theorem dX8_log_6 : decode cX8_log 6 = .ok (.if_icmp .le 7, 3) := by decide +kernel
theorem dX8_log_9 : decode cX8_log 9 = .ok (.ldc2_w 213, 3) := by decide +kernel
theorem dX8_log_12 : decode cX8_log 12 = .ok (.lreturn, 1) := by decide +kernel
theorem dX8_log_13 : decode cX8_log 13 = .ok (.iload_n 1, 1) := by decide +kernel
theorem dX8_log_14 : decode cX8_log 14 = .ok (.ifCond .lt 14, 3) := by decide +kernel
theorem dX8_log_17 : decode cX8_log 17 = .ok (.iload_n 1, 1) := by decide +kernel
theorem dX8_log_18 : decode cX8_log 18 = .ok (.aload_n 0, 1) := by decide +kernel
theorem dX8_log_19 : decode cX8_log 19 = .ok (.getfield 40, 3) := by decide +kernel
theorem dX8_log_22 : decode cX8_log 22 = .ok (.getfield 221, 3) := by decide +kernel
theorem dX8_log_25 : decode cX8_log 25 = .ok (.if_icmp .lt 7, 3) := by decide +kernel
theorem dX8_log_28 : decode cX8_log 28 = .ok (.ldc2_w 216, 3) := by decide +kernel
theorem dX8_log_31 : decode cX8_log 31 = .ok (.lreturn, 1) := by decide +kernel
theorem dX8_log_32 : decode cX8_log 32 = .ok (.aload_n 0, 1) := by decide +kernel
theorem dX8_log_33 : decode cX8_log 33 = .ok (.getfield 40, 3) := by decide +kernel
theorem dX8_log_36 : decode cX8_log 36 = .ok (.iload_n 1, 1) := by decide +kernel
theorem dX8_log_37 : decode cX8_log 37 = .ok (.invokevirtual 222, 3) := by decide +kernel
theorem dX8_log_40 : decode cX8_log 40 = .ok (.istore_n 3, 1) := by decide +kernel
theorem dX8_log_41 : decode cX8_log 41 = .ok (.iload_n 2, 1) := by decide +kernel
theorem dX8_log_42 : decode cX8_log 42 = .ok (.tableswitch 59 0 2 #[26, 37, 48], 26) := by decide +kernel
theorem dX8_log_68 : decode cX8_log 68 = .ok (.aload_n 0, 1) := by decide +kernel
theorem dX8_log_69 : decode cX8_log 69 = .ok (.getfield 40, 3) := by decide +kernel
theorem dX8_log_72 : decode cX8_log 72 = .ok (.getfield 225, 3) := by decide +kernel
theorem dX8_log_75 : decode cX8_log 75 = .ok (.iload_n 3, 1) := by decide +kernel
theorem dX8_log_76 : decode cX8_log 76 = .ok (.iaload, 1) := by decide +kernel
theorem dX8_log_77 : decode cX8_log 77 = .ok (.i2l, 1) := by decide +kernel
theorem dX8_log_78 : decode cX8_log 78 = .ok (.lreturn, 1) := by decide +kernel
theorem dX8_log_79 : decode cX8_log 79 = .ok (.aload_n 0, 1) := by decide +kernel
theorem dX8_log_80 : decode cX8_log 80 = .ok (.getfield 40, 3) := by decide +kernel
theorem dX8_log_83 : decode cX8_log 83 = .ok (.getfield 226, 3) := by decide +kernel
theorem dX8_log_86 : decode cX8_log 86 = .ok (.iload_n 3, 1) := by decide +kernel
theorem dX8_log_87 : decode cX8_log 87 = .ok (.iaload, 1) := by decide +kernel
theorem dX8_log_88 : decode cX8_log 88 = .ok (.i2l, 1) := by decide +kernel
theorem dX8_log_89 : decode cX8_log 89 = .ok (.lreturn, 1) := by decide +kernel
theorem dX8_log_90 : decode cX8_log 90 = .ok (.aload_n 0, 1) := by decide +kernel
theorem dX8_log_91 : decode cX8_log 91 = .ok (.getfield 40, 3) := by decide +kernel
theorem dX8_log_94 : decode cX8_log 94 = .ok (.getfield 227, 3) := by decide +kernel
theorem dX8_log_97 : decode cX8_log 97 = .ok (.iload_n 3, 1) := by decide +kernel
theorem dX8_log_98 : decode cX8_log 98 = .ok (.iaload, 1) := by decide +kernel
theorem dX8_log_99 : decode cX8_log 99 = .ok (.i2l, 1) := by decide +kernel
theorem dX8_log_100 : decode cX8_log 100 = .ok (.lreturn, 1) := by decide +kernel
theorem dX8_log_101 : decode cX8_log 101 = .ok (.aload_n 0, 1) := by decide +kernel
theorem dX8_log_102 : decode cX8_log 102 = .ok (.getfield 40, 3) := by decide +kernel
theorem dX8_log_105 : decode cX8_log 105 = .ok (.getfield 228, 3) := by decide +kernel
theorem dX8_log_108 : decode cX8_log 108 = .ok (.iload_n 3, 1) := by decide +kernel
theorem dX8_log_109 : decode cX8_log 109 = .ok (.laload, 1) := by decide +kernel
theorem dX8_log_110 : decode cX8_log 110 = .ok (.lreturn, 1) := by decide +kernel
theorem dX8_mark_0 : decode cX8_mark 0 = .ok (.aload_n 0, 1) := by decide +kernel
theorem dX8_mark_1 : decode cX8_mark 1 = .ok (.getfield 70, 3) := by decide +kernel
theorem dX8_mark_4 : decode cX8_mark 4 = .ok (.iconst 3, 1) := by decide +kernel
theorem dX8_mark_5 : decode cX8_mark 5 = .ok (.if_icmp .lt 6, 3) := by decide +kernel
theorem dX8_mark_8 : decode cX8_mark 8 = .ok (.bipush (-107), 2) := by decide +kernel
theorem dX8_mark_10 : decode cX8_mark 10 = .ok (.ireturn, 1) := by decide +kernel
theorem dX8_mark_11 : decode cX8_mark 11 = .ok (.aload_n 0, 1) := by decide +kernel
theorem dX8_mark_12 : decode cX8_mark 12 = .ok (.getfield 70, 3) := by decide +kernel
theorem dX8_mark_15 : decode cX8_mark 15 = .ok (.istore_n 1, 1) := by decide +kernel
theorem dX8_mark_16 : decode cX8_mark 16 = .ok (.aload_n 0, 1) := by decide +kernel
theorem dX8_mark_17 : decode cX8_mark 17 = .ok (.getfield 44, 3) := by decide +kernel
theorem dX8_mark_20 : decode cX8_mark 20 = .ok (.iload_n 1, 1) := by decide +kernel
theorem dX8_mark_21 : decode cX8_mark 21 = .ok (.aaload, 1) := by decide +kernel
theorem dX8_mark_22 : decode cX8_mark 22 = .ok (.ifnonnull 16, 3) := by decide +kernel
theorem dX8_mark_25 : decode cX8_mark 25 = .ok (.aload_n 0, 1) := by decide +kernel
theorem dX8_mark_26 : decode cX8_mark 26 = .ok (.getfield 44, 3) := by decide +kernel
theorem dX8_mark_29 : decode cX8_mark 29 = .ok (.iload_n 1, 1) := by decide +kernel
theorem dX8_mark_30 : decode cX8_mark 30 = .ok (.new 23, 3) := by decide +kernel
theorem dX8_mark_33 : decode cX8_mark 33 = .ok (.dup, 1) := by decide +kernel
theorem dX8_mark_34 : decode cX8_mark 34 = .ok (.invokespecial 25, 3) := by decide +kernel
theorem dX8_mark_37 : decode cX8_mark 37 = .ok (.aastore, 1) := by decide +kernel
theorem dX8_mark_38 : decode cX8_mark 38 = .ok (.aload_n 0, 1) := by decide +kernel
theorem dX8_mark_39 : decode cX8_mark 39 = .ok (.getfield 44, 3) := by decide +kernel
theorem dX8_mark_42 : decode cX8_mark 42 = .ok (.iload_n 1, 1) := by decide +kernel
theorem dX8_mark_43 : decode cX8_mark 43 = .ok (.aaload, 1) := by decide +kernel
theorem dX8_mark_44 : decode cX8_mark 44 = .ok (.aload_n 0, 1) := by decide +kernel
theorem dX8_mark_45 : decode cX8_mark 45 = .ok (.getfield 26, 3) := by decide +kernel
theorem dX8_mark_48 : decode cX8_mark 48 = .ok (.invokevirtual 229, 3) := by decide +kernel
theorem dX8_mark_51 : decode cX8_mark 51 = .ok (.aload_n 0, 1) := by decide +kernel
theorem dX8_mark_52 : decode cX8_mark 52 = .ok (.dup, 1) := by decide +kernel
theorem dX8_mark_53 : decode cX8_mark 53 = .ok (.getfield 70, 3) := by decide +kernel
theorem dX8_mark_56 : decode cX8_mark 56 = .ok (.iconst 1, 1) := by decide +kernel
theorem dX8_mark_57 : decode cX8_mark 57 = .ok (.iadd, 1) := by decide +kernel
theorem dX8_mark_58 : decode cX8_mark 58 = .ok (.putfield 70, 3) := by decide +kernel
theorem dX8_mark_61 : decode cX8_mark 61 = .ok (.iload_n 1, 1) := by decide +kernel
theorem dX8_mark_62 : decode cX8_mark 62 = .ok (.ireturn, 1) := by decide +kernel
theorem dX8_restore_0 : decode cX8_restore 0 = .ok (.iload_n 1, 1) := by decide +kernel
theorem dX8_restore_1 : decode cX8_restore 1 = .ok (.ifCond .lt 20, 3) := by decide +kernel
theorem dX8_restore_4 : decode cX8_restore 4 = .ok (.iload_n 1, 1) := by decide +kernel
theorem dX8_restore_5 : decode cX8_restore 5 = .ok (.aload_n 0, 1) := by decide +kernel
theorem dX8_restore_6 : decode cX8_restore 6 = .ok (.getfield 70, 3) := by decide +kernel
theorem dX8_restore_9 : decode cX8_restore 9 = .ok (.if_icmp .ge 12, 3) := by decide +kernel
theorem dX8_restore_12 : decode cX8_restore 12 = .ok (.aload_n 0, 1) := by decide +kernel
theorem dX8_restore_13 : decode cX8_restore 13 = .ok (.getfield 44, 3) := by decide +kernel
theorem dX8_restore_16 : decode cX8_restore 16 = .ok (.iload_n 1, 1) := by decide +kernel
theorem dX8_restore_17 : decode cX8_restore 17 = .ok (.aaload, 1) := by decide +kernel
theorem dX8_restore_18 : decode cX8_restore 18 = .ok (.ifnonnull 6, 3) := by decide +kernel
theorem dX8_restore_21 : decode cX8_restore 21 = .ok (.bipush (-101), 2) := by decide +kernel
theorem dX8_restore_23 : decode cX8_restore 23 = .ok (.ireturn, 1) := by decide +kernel
theorem dX8_restore_24 : decode cX8_restore 24 = .ok (.iload_n 2, 1) := by decide +kernel
theorem dX8_restore_25 : decode cX8_restore 25 = .ok (.iconst 1, 1) := by decide +kernel
theorem dX8_restore_26 : decode cX8_restore 26 = .ok (.if_icmp .ge 6, 3) := by decide +kernel
theorem dX8_restore_29 : decode cX8_restore 29 = .ok (.bipush (-102), 2) := by decide +kernel
theorem dX8_restore_31 : decode cX8_restore 31 = .ok (.ireturn, 1) := by decide +kernel
theorem dX8_restore_32 : decode cX8_restore 32 = .ok (.iload_n 2, 1) := by decide +kernel
theorem dX8_restore_33 : decode cX8_restore 33 = .ok (.aload_n 0, 1) := by decide +kernel
theorem dX8_restore_34 : decode cX8_restore 34 = .ok (.getfield 10, 3) := by decide +kernel
theorem dX8_restore_37 : decode cX8_restore 37 = .ok (.getfield 137, 3) := by decide +kernel
theorem dX8_restore_40 : decode cX8_restore 40 = .ok (.if_icmp .le 6, 3) := by decide +kernel
theorem dX8_restore_43 : decode cX8_restore 43 = .ok (.bipush (-105), 2) := by decide +kernel
theorem dX8_restore_45 : decode cX8_restore 45 = .ok (.ireturn, 1) := by decide +kernel
theorem dX8_restore_46 : decode cX8_restore 46 = .ok (.aload_n 0, 1) := by decide +kernel
theorem dX8_restore_47 : decode cX8_restore 47 = .ok (.getfield 26, 3) := by decide +kernel
theorem dX8_restore_50 : decode cX8_restore 50 = .ok (.aload_n 0, 1) := by decide +kernel
theorem dX8_restore_51 : decode cX8_restore 51 = .ok (.getfield 44, 3) := by decide +kernel
theorem dX8_restore_54 : decode cX8_restore 54 = .ok (.iload_n 1, 1) := by decide +kernel
theorem dX8_restore_55 : decode cX8_restore 55 = .ok (.aaload, 1) := by decide +kernel
theorem dX8_restore_56 : decode cX8_restore 56 = .ok (.invokevirtual 229, 3) := by decide +kernel
theorem dX8_restore_59 : decode cX8_restore 59 = .ok (.aload_n 0, 1) := by decide +kernel
theorem dX8_restore_60 : decode cX8_restore 60 = .ok (.getfield 19, 3) := by decide +kernel
theorem dX8_restore_63 : decode cX8_restore 63 = .ok (.aload_n 0, 1) := by decide +kernel
theorem dX8_restore_64 : decode cX8_restore 64 = .ok (.getfield 10, 3) := by decide +kernel
theorem dX8_restore_67 : decode cX8_restore 67 = .ok (.getfield 140, 3) := by decide +kernel
theorem dX8_restore_70 : decode cX8_restore 70 = .ok (.iload_n 2, 1) := by decide +kernel
theorem dX8_restore_71 : decode cX8_restore 71 = .ok (.invokevirtual 143, 3) := by decide +kernel
theorem dX8_restore_74 : decode cX8_restore 74 = .ok (.aload_n 0, 1) := by decide +kernel
theorem dX8_restore_75 : decode cX8_restore 75 = .ok (.getfield 10, 3) := by decide +kernel
theorem dX8_restore_78 : decode cX8_restore 78 = .ok (.aload_n 0, 1) := by decide +kernel
theorem dX8_restore_79 : decode cX8_restore 79 = .ok (.getfield 19, 3) := by decide +kernel
theorem dX8_restore_82 : decode cX8_restore 82 = .ok (.getfield 150, 3) := by decide +kernel
theorem dX8_restore_85 : decode cX8_restore 85 = .ok (.iload_n 2, 1) := by decide +kernel
theorem dX8_restore_86 : decode cX8_restore 86 = .ok (.invokevirtual 233, 3) := by decide +kernel
theorem dX8_restore_89 : decode cX8_restore 89 = .ok (.aload_n 0, 1) := by decide +kernel
theorem dX8_restore_90 : decode cX8_restore 90 = .ok (.getfield 33, 3) := by decide +kernel
theorem dX8_restore_93 : decode cX8_restore 93 = .ok (.iconst 0, 1) := by decide +kernel
theorem dX8_restore_94 : decode cX8_restore 94 = .ok (.putfield 215, 3) := by decide +kernel
theorem dX8_restore_97 : decode cX8_restore 97 = .ok (.aload_n 0, 1) := by decide +kernel
theorem dX8_restore_98 : decode cX8_restore 98 = .ok (.getfield 40, 3) := by decide +kernel
theorem dX8_restore_101 : decode cX8_restore 101 = .ok (.iconst 0, 1) := by decide +kernel
theorem dX8_restore_102 : decode cX8_restore 102 = .ok (.putfield 221, 3) := by decide +kernel
theorem dX8_restore_105 : decode cX8_restore 105 = .ok (.aload_n 0, 1) := by decide +kernel
theorem dX8_restore_106 : decode cX8_restore 106 = .ok (.getfield 26, 3) := by decide +kernel
theorem dX8_restore_109 : decode cX8_restore 109 = .ok (.getfield 52, 3) := by decide +kernel
theorem dX8_restore_112 : decode cX8_restore 112 = .ok (.getfield 237, 3) := by decide +kernel
theorem dX8_restore_115 : decode cX8_restore 115 = .ok (.ireturn, 1) := by decide +kernel
theorem dX8_digest_0 : decode cX8_digest 0 = .ok (.bipush 17, 2) := by decide +kernel
theorem dX8_digest_2 : decode cX8_digest 2 = .ok (.istore_n 1, 1) := by decide +kernel
theorem dX8_digest_3 : decode cX8_digest 3 = .ok (.iconst 0, 1) := by decide +kernel
theorem dX8_digest_4 : decode cX8_digest 4 = .ok (.istore_n 2, 1) := by decide +kernel
theorem dX8_digest_5 : decode cX8_digest 5 = .ok (.iload_n 2, 1) := by decide +kernel
theorem dX8_digest_6 : decode cX8_digest 6 = .ok (.aload_n 0, 1) := by decide +kernel
theorem dX8_digest_7 : decode cX8_digest 7 = .ok (.getfield 10, 3) := by decide +kernel
theorem dX8_digest_10 : decode cX8_digest 10 = .ok (.getfield 140, 3) := by decide +kernel
theorem dX8_digest_13 : decode cX8_digest 13 = .ok (.if_icmp .ge 37, 3) := by decide +kernel
theorem dX8_digest_16 : decode cX8_digest 16 = .ok (.bipush 31, 2) := by decide +kernel
theorem dX8_digest_18 : decode cX8_digest 18 = .ok (.iload_n 1, 1) := by decide +kernel
theorem dX8_digest_19 : decode cX8_digest 19 = .ok (.imul, 1) := by decide +kernel
theorem dX8_digest_20 : decode cX8_digest 20 = .ok (.bipush 100, 2) := by decide +kernel
theorem dX8_digest_22 : decode cX8_digest 22 = .ok (.aload_n 0, 1) := by decide +kernel
theorem dX8_digest_23 : decode cX8_digest 23 = .ok (.getfield 10, 3) := by decide +kernel
theorem dX8_digest_26 : decode cX8_digest 26 = .ok (.getfield 95, 3) := by decide +kernel
theorem dX8_digest_29 : decode cX8_digest 29 = .ok (.iload_n 2, 1) := by decide +kernel
theorem dX8_digest_30 : decode cX8_digest 30 = .ok (.iaload, 1) := by decide +kernel
theorem dX8_digest_31 : decode cX8_digest 31 = .ok (.imul, 1) := by decide +kernel
theorem dX8_digest_32 : decode cX8_digest 32 = .ok (.iadd, 1) := by decide +kernel
theorem dX8_digest_33 : decode cX8_digest 33 = .ok (.aload_n 0, 1) := by decide +kernel
theorem dX8_digest_34 : decode cX8_digest 34 = .ok (.getfield 10, 3) := by decide +kernel
theorem dX8_digest_37 : decode cX8_digest 37 = .ok (.getfield 134, 3) := by decide +kernel
theorem dX8_digest_40 : decode cX8_digest 40 = .ok (.iload_n 2, 1) := by decide +kernel
theorem dX8_digest_41 : decode cX8_digest 41 = .ok (.iaload, 1) := by decide +kernel
theorem dX8_digest_42 : decode cX8_digest 42 = .ok (.iadd, 1) := by decide +kernel
theorem dX8_digest_43 : decode cX8_digest 43 = .ok (.istore_n 1, 1) := by decide +kernel
theorem dX8_digest_44 : decode cX8_digest 44 = .ok (.iinc 2 1, 3) := by decide +kernel
theorem dX8_digest_47 : decode cX8_digest 47 = .ok (.goto (-42), 3) := by decide +kernel
theorem dX8_digest_50 : decode cX8_digest 50 = .ok (.iload_n 1, 1) := by decide +kernel
theorem dX8_digest_51 : decode cX8_digest 51 = .ok (.ireturn, 1) := by decide +kernel
theorem dX8_told_0 : decode cX8_told 0 = .ok (.iload_n 1, 1) := by decide +kernel
theorem dX8_told_1 : decode cX8_told 1 = .ok (.tableswitch 168 0 11 #[63, 71, 79, 87, 98, 109, 117, 125, 136, 147, 155, 160], 63) := by decide +kernel
theorem dX8_told_64 : decode cX8_told 64 = .ok (.aload_n 0, 1) := by decide +kernel
theorem dX8_told_65 : decode cX8_told 65 = .ok (.getfield 10, 3) := by decide +kernel
theorem dX8_told_68 : decode cX8_told 68 = .ok (.getfield 140, 3) := by decide +kernel
theorem dX8_told_71 : decode cX8_told 71 = .ok (.ireturn, 1) := by decide +kernel
theorem dX8_told_72 : decode cX8_told 72 = .ok (.aload_n 0, 1) := by decide +kernel
theorem dX8_told_73 : decode cX8_told 73 = .ok (.getfield 10, 3) := by decide +kernel
theorem dX8_told_76 : decode cX8_told 76 = .ok (.getfield 137, 3) := by decide +kernel
theorem dX8_told_79 : decode cX8_told 79 = .ok (.ireturn, 1) := by decide +kernel
theorem dX8_told_80 : decode cX8_told 80 = .ok (.aload_n 0, 1) := by decide +kernel
theorem dX8_told_81 : decode cX8_told 81 = .ok (.getfield 10, 3) := by decide +kernel
theorem dX8_told_84 : decode cX8_told 84 = .ok (.getfield 238, 3) := by decide +kernel
theorem dX8_told_87 : decode cX8_told 87 = .ok (.ireturn, 1) := by decide +kernel
theorem dX8_told_88 : decode cX8_told 88 = .ok (.aload_n 0, 1) := by decide +kernel
theorem dX8_told_89 : decode cX8_told 89 = .ok (.getfield 26, 3) := by decide +kernel
theorem dX8_told_92 : decode cX8_told 92 = .ok (.getfield 52, 3) := by decide +kernel
theorem dX8_told_95 : decode cX8_told 95 = .ok (.getfield 56, 3) := by decide +kernel
theorem dX8_told_98 : decode cX8_told 98 = .ok (.ireturn, 1) := by decide +kernel
theorem dX8_told_99 : decode cX8_told 99 = .ok (.aload_n 0, 1) := by decide +kernel
theorem dX8_told_100 : decode cX8_told 100 = .ok (.getfield 26, 3) := by decide +kernel
theorem dX8_told_103 : decode cX8_told 103 = .ok (.getfield 52, 3) := by decide +kernel
theorem dX8_told_106 : decode cX8_told 106 = .ok (.getfield 237, 3) := by decide +kernel
theorem dX8_told_109 : decode cX8_told 109 = .ok (.ireturn, 1) := by decide +kernel
theorem dX8_told_110 : decode cX8_told 110 = .ok (.aload_n 0, 1) := by decide +kernel
theorem dX8_told_111 : decode cX8_told 111 = .ok (.getfield 33, 3) := by decide +kernel
theorem dX8_told_114 : decode cX8_told 114 = .ok (.getfield 215, 3) := by decide +kernel
theorem dX8_told_117 : decode cX8_told 117 = .ok (.ireturn, 1) := by decide +kernel
theorem dX8_told_118 : decode cX8_told 118 = .ok (.aload_n 0, 1) := by decide +kernel
theorem dX8_told_119 : decode cX8_told 119 = .ok (.getfield 10, 3) := by decide +kernel
theorem dX8_told_122 : decode cX8_told 122 = .ok (.invokevirtual 181, 3) := by decide +kernel
theorem dX8_told_125 : decode cX8_told 125 = .ok (.ireturn, 1) := by decide +kernel
theorem dX8_told_126 : decode cX8_told 126 = .ok (.aload_n 0, 1) := by decide +kernel
theorem dX8_told_127 : decode cX8_told 127 = .ok (.getfield 26, 3) := by decide +kernel
theorem dX8_told_130 : decode cX8_told 130 = .ok (.getfield 61, 3) := by decide +kernel
theorem dX8_told_133 : decode cX8_told 133 = .ok (.getfield 65, 3) := by decide +kernel
theorem dX8_told_136 : decode cX8_told 136 = .ok (.ireturn, 1) := by decide +kernel
theorem dX8_told_137 : decode cX8_told 137 = .ok (.aload_n 0, 1) := by decide +kernel
theorem dX8_told_138 : decode cX8_told 138 = .ok (.getfield 26, 3) := by decide +kernel
theorem dX8_told_141 : decode cX8_told 141 = .ok (.getfield 61, 3) := by decide +kernel
theorem dX8_told_144 : decode cX8_told 144 = .ok (.getfield 192, 3) := by decide +kernel
theorem dX8_told_147 : decode cX8_told 147 = .ok (.ireturn, 1) := by decide +kernel
theorem dX8_told_148 : decode cX8_told 148 = .ok (.aload_n 0, 1) := by decide +kernel
theorem dX8_told_149 : decode cX8_told 149 = .ok (.getfield 40, 3) := by decide +kernel
theorem dX8_told_152 : decode cX8_told 152 = .ok (.getfield 221, 3) := by decide +kernel
theorem dX8_told_155 : decode cX8_told 155 = .ok (.ireturn, 1) := by decide +kernel
theorem dX8_told_156 : decode cX8_told 156 = .ok (.aload_n 0, 1) := by decide +kernel
theorem dX8_told_157 : decode cX8_told 157 = .ok (.getfield 70, 3) := by decide +kernel
theorem dX8_told_160 : decode cX8_told 160 = .ok (.ireturn, 1) := by decide +kernel
theorem dX8_told_161 : decode cX8_told 161 = .ok (.aload_n 0, 1) := by decide +kernel
theorem dX8_told_162 : decode cX8_told 162 = .ok (.getfield 10, 3) := by decide +kernel
theorem dX8_told_165 : decode cX8_told 165 = .ok (.getfield 241, 3) := by decide +kernel
theorem dX8_told_168 : decode cX8_told 168 = .ok (.ireturn, 1) := by decide +kernel
theorem dX8_told_169 : decode cX8_told 169 = .ok (.bipush (-102), 2) := by decide +kernel
theorem dX8_told_171 : decode cX8_told 171 = .ok (.ireturn, 1) := by decide +kernel
theorem dX8_clear_0 : decode cX8_clear 0 = .ok (.aload_n 0, 1) := by decide +kernel
theorem dX8_clear_1 : decode cX8_clear 1 = .ok (.getfield 26, 3) := by decide +kernel
theorem dX8_clear_4 : decode cX8_clear 4 = .ok (.getfield 52, 3) := by decide +kernel
theorem dX8_clear_7 : decode cX8_clear 7 = .ok (.getfield 56, 3) := by decide +kernel
theorem dX8_clear_10 : decode cX8_clear 10 = .ok (.istore_n 1, 1) := by decide +kernel
theorem dX8_clear_11 : decode cX8_clear 11 = .ok (.aload_n 0, 1) := by decide +kernel
theorem dX8_clear_12 : decode cX8_clear 12 = .ok (.getfield 10, 3) := by decide +kernel
theorem dX8_clear_15 : decode cX8_clear 15 = .ok (.invokevirtual 244, 3) := by decide +kernel
theorem dX8_clear_18 : decode cX8_clear 18 = .ok (.aload_n 0, 1) := by decide +kernel
theorem dX8_clear_19 : decode cX8_clear 19 = .ok (.getfield 26, 3) := by decide +kernel
theorem dX8_clear_22 : decode cX8_clear 22 = .ok (.invokevirtual 247, 3) := by decide +kernel
theorem dX8_clear_25 : decode cX8_clear 25 = .ok (.aload_n 0, 1) := by decide +kernel
theorem dX8_clear_26 : decode cX8_clear 26 = .ok (.getfield 33, 3) := by decide +kernel
theorem dX8_clear_29 : decode cX8_clear 29 = .ok (.iconst 0, 1) := by decide +kernel
theorem dX8_clear_30 : decode cX8_clear 30 = .ok (.putfield 215, 3) := by decide +kernel
theorem dX8_clear_33 : decode cX8_clear 33 = .ok (.aload_n 0, 1) := by decide +kernel
theorem dX8_clear_34 : decode cX8_clear 34 = .ok (.getfield 40, 3) := by decide +kernel
theorem dX8_clear_37 : decode cX8_clear 37 = .ok (.iconst 0, 1) := by decide +kernel
theorem dX8_clear_38 : decode cX8_clear 38 = .ok (.putfield 221, 3) := by decide +kernel
theorem dX8_clear_41 : decode cX8_clear 41 = .ok (.aload_n 0, 1) := by decide +kernel
theorem dX8_clear_42 : decode cX8_clear 42 = .ok (.iconst 0, 1) := by decide +kernel
theorem dX8_clear_43 : decode cX8_clear 43 = .ok (.putfield 70, 3) := by decide +kernel
theorem dX8_clear_46 : decode cX8_clear 46 = .ok (.aload_n 0, 1) := by decide +kernel
theorem dX8_clear_47 : decode cX8_clear 47 = .ok (.bipush 20, 2) := by decide +kernel
theorem dX8_clear_49 : decode cX8_clear 49 = .ok (.putfield 48, 3) := by decide +kernel
theorem dX8_clear_52 : decode cX8_clear 52 = .ok (.iload_n 1, 1) := by decide +kernel
theorem dX8_clear_53 : decode cX8_clear 53 = .ok (.ireturn, 1) := by decide +kernel
theorem dX8_isKey_0 : decode cX8_isKey 0 = .ok (.iload_n 0, 1) := by decide +kernel
theorem dX8_isKey_1 : decode cX8_isKey 1 = .ok (.ifCond .lt 13, 3) := by decide +kernel
theorem dX8_isKey_4 : decode cX8_isKey 4 = .ok (.iload_n 0, 1) := by decide +kernel
theorem dX8_isKey_5 : decode cX8_isKey 5 = .ok (.bipush 100, 2) := by decide +kernel
theorem dX8_isKey_7 : decode cX8_isKey 7 = .ok (.if_icmp .ge 7, 3) := by decide +kernel
theorem dX8_isKey_10 : decode cX8_isKey 10 = .ok (.iconst 1, 1) := by decide +kernel
theorem dX8_isKey_11 : decode cX8_isKey 11 = .ok (.goto 4, 3) := by decide +kernel
theorem dX8_isKey_14 : decode cX8_isKey 14 = .ok (.iconst 0, 1) := by decide +kernel
theorem dX8_isKey_15 : decode cX8_isKey 15 = .ok (.ireturn, 1) := by decide +kernel
theorem dX8_isValue_0 : decode cX8_isValue 0 = .ok (.iload_n 0, 1) := by decide +kernel
theorem dX8_isValue_1 : decode cX8_isValue 1 = .ok (.sipush (-1000), 3) := by decide +kernel
theorem dX8_isValue_4 : decode cX8_isValue 4 = .ok (.if_icmp .lt 14, 3) := by decide +kernel
theorem dX8_isValue_7 : decode cX8_isValue 7 = .ok (.iload_n 0, 1) := by decide +kernel
theorem dX8_isValue_8 : decode cX8_isValue 8 = .ok (.sipush 1000, 3) := by decide +kernel
theorem dX8_isValue_11 : decode cX8_isValue 11 = .ok (.if_icmp .gt 7, 3) := by decide +kernel
theorem dX8_isValue_14 : decode cX8_isValue 14 = .ok (.iconst 1, 1) := by decide +kernel
theorem dX8_isValue_15 : decode cX8_isValue 15 = .ok (.goto 4, 3) := by decide +kernel
theorem dX8_isValue_18 : decode cX8_isValue 18 = .ok (.iconst 0, 1) := by decide +kernel
theorem dX8_isValue_19 : decode cX8_isValue 19 = .ok (.ireturn, 1) := by decide +kernel
theorem dX8_isTask_0 : decode cX8_isTask 0 = .ok (.iload_n 1, 1) := by decide +kernel
theorem dX8_isTask_1 : decode cX8_isTask 1 = .ok (.ifCond .lt 18, 3) := by decide +kernel
theorem dX8_isTask_4 : decode cX8_isTask 4 = .ok (.iload_n 1, 1) := by decide +kernel
theorem dX8_isTask_5 : decode cX8_isTask 5 = .ok (.aload_n 0, 1) := by decide +kernel
theorem dX8_isTask_6 : decode cX8_isTask 6 = .ok (.getfield 10, 3) := by decide +kernel
theorem dX8_isTask_9 : decode cX8_isTask 9 = .ok (.getfield 238, 3) := by decide +kernel
theorem dX8_isTask_12 : decode cX8_isTask 12 = .ok (.if_icmp .ge 7, 3) := by decide +kernel
theorem dX8_isTask_15 : decode cX8_isTask 15 = .ok (.iconst 1, 1) := by decide +kernel
theorem dX8_isTask_16 : decode cX8_isTask 16 = .ok (.goto 4, 3) := by decide +kernel
theorem dX8_isTask_19 : decode cX8_isTask 19 = .ok (.iconst 0, 1) := by decide +kernel
theorem dX8_isTask_20 : decode cX8_isTask 20 = .ok (.ireturn, 1) := by decide +kernel
theorem dX8_waitsFor_0 : decode cX8_waitsFor 0 = .ok (.aload_n 0, 1) := by decide +kernel
theorem dX8_waitsFor_1 : decode cX8_waitsFor 1 = .ok (.getfield 10, 3) := by decide +kernel
theorem dX8_waitsFor_4 : decode cX8_waitsFor 4 = .ok (.getfield 95, 3) := by decide +kernel
theorem dX8_waitsFor_7 : decode cX8_waitsFor 7 = .ok (.aload_n 0, 1) := by decide +kernel
theorem dX8_waitsFor_8 : decode cX8_waitsFor 8 = .ok (.getfield 10, 3) := by decide +kernel
theorem dX8_waitsFor_11 : decode cX8_waitsFor 11 = .ok (.aload_n 0, 1) := by decide +kernel
theorem dX8_waitsFor_12 : decode cX8_waitsFor 12 = .ok (.getfield 26, 3) := by decide +kernel
theorem dX8_waitsFor_15 : decode cX8_waitsFor 15 = .ok (.getfield 52, 3) := by decide +kernel
theorem dX8_waitsFor_18 : decode cX8_waitsFor 18 = .ok (.getfield 107, 3) := by decide +kernel
theorem dX8_waitsFor_21 : decode cX8_waitsFor 21 = .ok (.iload_n 2, 1) := by decide +kernel
theorem dX8_waitsFor_22 : decode cX8_waitsFor 22 = .ok (.iaload, 1) := by decide +kernel
theorem dX8_waitsFor_23 : decode cX8_waitsFor 23 = .ok (.invokevirtual 81, 3) := by decide +kernel
theorem dX8_waitsFor_26 : decode cX8_waitsFor 26 = .ok (.iaload, 1) := by decide +kernel
theorem dX8_waitsFor_27 : decode cX8_waitsFor 27 = .ok (.iload_n 1, 1) := by decide +kernel
theorem dX8_waitsFor_28 : decode cX8_waitsFor 28 = .ok (.if_icmp .ne 7, 3) := by decide +kernel
theorem dX8_waitsFor_31 : decode cX8_waitsFor 31 = .ok (.iconst 1, 1) := by decide +kernel
theorem dX8_waitsFor_32 : decode cX8_waitsFor 32 = .ok (.goto 4, 3) := by decide +kernel
theorem dX8_waitsFor_35 : decode cX8_waitsFor 35 = .ok (.iconst 0, 1) := by decide +kernel
theorem dX8_waitsFor_36 : decode cX8_waitsFor 36 = .ok (.ireturn, 1) := by decide +kernel
theorem dX8_firstInLine_0 : decode cX8_firstInLine 0 = .ok (.iconst 0, 1) := by decide +kernel
theorem dX8_firstInLine_1 : decode cX8_firstInLine 1 = .ok (.istore_n 2, 1) := by decide +kernel
theorem dX8_firstInLine_2 : decode cX8_firstInLine 2 = .ok (.iload_n 2, 1) := by decide +kernel
theorem dX8_firstInLine_3 : decode cX8_firstInLine 3 = .ok (.aload_n 0, 1) := by decide +kernel
theorem dX8_firstInLine_4 : decode cX8_firstInLine 4 = .ok (.getfield 26, 3) := by decide +kernel
theorem dX8_firstInLine_7 : decode cX8_firstInLine 7 = .ok (.getfield 52, 3) := by decide +kernel
theorem dX8_firstInLine_10 : decode cX8_firstInLine 10 = .ok (.getfield 237, 3) := by decide +kernel
theorem dX8_firstInLine_13 : decode cX8_firstInLine 13 = .ok (.if_icmp .ge 20, 3) := by decide +kernel
theorem dX8_firstInLine_16 : decode cX8_firstInLine 16 = .ok (.aload_n 0, 1) := by decide +kernel
theorem dX8_firstInLine_17 : decode cX8_firstInLine 17 = .ok (.iload_n 1, 1) := by decide +kernel
theorem dX8_firstInLine_18 : decode cX8_firstInLine 18 = .ok (.iload_n 2, 1) := by decide +kernel
theorem dX8_firstInLine_19 : decode cX8_firstInLine 19 = .ok (.invokevirtual 248, 3) := by decide +kernel
theorem dX8_firstInLine_22 : decode cX8_firstInLine 22 = .ok (.ifCond .eq 5, 3) := by decide +kernel
theorem dX8_firstInLine_25 : decode cX8_firstInLine 25 = .ok (.iload_n 2, 1) := by decide +kernel
theorem dX8_firstInLine_26 : decode cX8_firstInLine 26 = .ok (.ireturn, 1) := by decide +kernel
theorem dX8_firstInLine_27 : decode cX8_firstInLine 27 = .ok (.iinc 2 1, 3) := by decide +kernel
theorem dX8_firstInLine_30 : decode cX8_firstInLine 30 = .ok (.goto (-28), 3) := by decide +kernel
theorem dX8_firstInLine_33 : decode cX8_firstInLine 33 = .ok (.bipush (-106), 2) := by decide +kernel
theorem dX8_firstInLine_35 : decode cX8_firstInLine 35 = .ok (.ireturn, 1) := by decide +kernel
theorem dX8_firstNumberInLine_0 : decode cX8_firstNumberInLine 0 = .ok (.aload_n 0, 1) := by decide +kernel
theorem dX8_firstNumberInLine_1 : decode cX8_firstNumberInLine 1 = .ok (.iload_n 1, 1) := by decide +kernel
theorem dX8_firstNumberInLine_2 : decode cX8_firstNumberInLine 2 = .ok (.invokevirtual 101, 3) := by decide +kernel
theorem dX8_firstNumberInLine_5 : decode cX8_firstNumberInLine 5 = .ok (.istore_n 2, 1) := by decide +kernel
theorem dX8_firstNumberInLine_6 : decode cX8_firstNumberInLine 6 = .ok (.iload_n 2, 1) := by decide +kernel
theorem dX8_firstNumberInLine_7 : decode cX8_firstNumberInLine 7 = .ok (.bipush (-106), 2) := by decide +kernel
theorem dX8_firstNumberInLine_9 : decode cX8_firstNumberInLine 9 = .ok (.if_icmp .ne 8, 3) := by decide +kernel
theorem dX8_firstNumberInLine_12 : decode cX8_firstNumberInLine 12 = .ok (.bipush (-106), 2) := by decide +kernel
theorem dX8_firstNumberInLine_14 : decode cX8_firstNumberInLine 14 = .ok (.goto 15, 3) := by decide +kernel
theorem dX8_firstNumberInLine_17 : decode cX8_firstNumberInLine 17 = .ok (.aload_n 0, 1) := by decide +kernel
theorem dX8_firstNumberInLine_18 : decode cX8_firstNumberInLine 18 = .ok (.getfield 26, 3) := by decide +kernel
theorem dX8_firstNumberInLine_21 : decode cX8_firstNumberInLine 21 = .ok (.getfield 52, 3) := by decide +kernel
theorem dX8_firstNumberInLine_24 : decode cX8_firstNumberInLine 24 = .ok (.getfield 104, 3) := by decide +kernel
theorem dX8_firstNumberInLine_27 : decode cX8_firstNumberInLine 27 = .ok (.iload_n 2, 1) := by decide +kernel
theorem dX8_firstNumberInLine_28 : decode cX8_firstNumberInLine 28 = .ok (.iaload, 1) := by decide +kernel
theorem dX8_firstNumberInLine_29 : decode cX8_firstNumberInLine 29 = .ok (.ireturn, 1) := by decide +kernel
theorem dX8_lengthOfLine_0 : decode cX8_lengthOfLine 0 = .ok (.iconst 0, 1) := by decide +kernel
theorem dX8_lengthOfLine_1 : decode cX8_lengthOfLine 1 = .ok (.istore_n 2, 1) := by decide +kernel
theorem dX8_lengthOfLine_2 : decode cX8_lengthOfLine 2 = .ok (.iconst 0, 1) := by decide +kernel
theorem dX8_lengthOfLine_3 : decode cX8_lengthOfLine 3 = .ok (.istore_n 3, 1) := by decide +kernel
theorem dX8_lengthOfLine_4 : decode cX8_lengthOfLine 4 = .ok (.iload_n 3, 1) := by decide +kernel
theorem dX8_lengthOfLine_5 : decode cX8_lengthOfLine 5 = .ok (.aload_n 0, 1) := by decide +kernel
theorem dX8_lengthOfLine_6 : decode cX8_lengthOfLine 6 = .ok (.getfield 26, 3) := by decide +kernel
theorem dX8_lengthOfLine_9 : decode cX8_lengthOfLine 9 = .ok (.getfield 52, 3) := by decide +kernel
theorem dX8_lengthOfLine_12 : decode cX8_lengthOfLine 12 = .ok (.getfield 237, 3) := by decide +kernel
theorem dX8_lengthOfLine_15 : decode cX8_lengthOfLine 15 = .ok (.if_icmp .ge 21, 3) := by decide +kernel
theorem dX8_lengthOfLine_18 : decode cX8_lengthOfLine 18 = .ok (.aload_n 0, 1) := by decide +kernel
theorem dX8_lengthOfLine_19 : decode cX8_lengthOfLine 19 = .ok (.iload_n 1, 1) := by decide +kernel
theorem dX8_lengthOfLine_20 : decode cX8_lengthOfLine 20 = .ok (.iload_n 3, 1) := by decide +kernel
theorem dX8_lengthOfLine_21 : decode cX8_lengthOfLine 21 = .ok (.invokevirtual 248, 3) := by decide +kernel
theorem dX8_lengthOfLine_24 : decode cX8_lengthOfLine 24 = .ok (.ifCond .eq 6, 3) := by decide +kernel
theorem dX8_lengthOfLine_27 : decode cX8_lengthOfLine 27 = .ok (.iinc 2 1, 3) := by decide +kernel
theorem dX8_lengthOfLine_30 : decode cX8_lengthOfLine 30 = .ok (.iinc 3 1, 3) := by decide +kernel
theorem dX8_lengthOfLine_33 : decode cX8_lengthOfLine 33 = .ok (.goto (-29), 3) := by decide +kernel
theorem dX8_lengthOfLine_36 : decode cX8_lengthOfLine 36 = .ok (.iload_n 2, 1) := by decide +kernel
theorem dX8_lengthOfLine_37 : decode cX8_lengthOfLine 37 = .ok (.ireturn, 1) := by decide +kernel
theorem dX8_waitingOfGroup_0 : decode cX8_waitingOfGroup 0 = .ok (.iconst 0, 1) := by decide +kernel
theorem dX8_waitingOfGroup_1 : decode cX8_waitingOfGroup 1 = .ok (.istore_n 2, 1) := by decide +kernel
theorem dX8_waitingOfGroup_2 : decode cX8_waitingOfGroup 2 = .ok (.iconst 0, 1) := by decide +kernel
theorem dX8_waitingOfGroup_3 : decode cX8_waitingOfGroup 3 = .ok (.istore_n 3, 1) := by decide +kernel
theorem dX8_waitingOfGroup_4 : decode cX8_waitingOfGroup 4 = .ok (.iload_n 3, 1) := by decide +kernel
theorem dX8_waitingOfGroup_5 : decode cX8_waitingOfGroup 5 = .ok (.aload_n 0, 1) := by decide +kernel
theorem dX8_waitingOfGroup_6 : decode cX8_waitingOfGroup 6 = .ok (.getfield 26, 3) := by decide +kernel
theorem dX8_waitingOfGroup_9 : decode cX8_waitingOfGroup 9 = .ok (.getfield 52, 3) := by decide +kernel
theorem dX8_waitingOfGroup_12 : decode cX8_waitingOfGroup 12 = .ok (.getfield 237, 3) := by decide +kernel
theorem dX8_waitingOfGroup_15 : decode cX8_waitingOfGroup 15 = .ok (.if_icmp .ge 35, 3) := by decide +kernel
theorem dX8_waitingOfGroup_18 : decode cX8_waitingOfGroup 18 = .ok (.aload_n 0, 1) := by decide +kernel
theorem dX8_waitingOfGroup_19 : decode cX8_waitingOfGroup 19 = .ok (.getfield 10, 3) := by decide +kernel
theorem dX8_waitingOfGroup_22 : decode cX8_waitingOfGroup 22 = .ok (.aload_n 0, 1) := by decide +kernel
theorem dX8_waitingOfGroup_23 : decode cX8_waitingOfGroup 23 = .ok (.getfield 26, 3) := by decide +kernel
theorem dX8_waitingOfGroup_26 : decode cX8_waitingOfGroup 26 = .ok (.getfield 52, 3) := by decide +kernel
theorem dX8_waitingOfGroup_29 : decode cX8_waitingOfGroup 29 = .ok (.getfield 107, 3) := by decide +kernel
theorem dX8_waitingOfGroup_32 : decode cX8_waitingOfGroup 32 = .ok (.iload_n 3, 1) := by decide +kernel
theorem dX8_waitingOfGroup_33 : decode cX8_waitingOfGroup 33 = .ok (.iaload, 1) := by decide +kernel
theorem dX8_waitingOfGroup_34 : decode cX8_waitingOfGroup 34 = .ok (.invokevirtual 81, 3) := by decide +kernel
theorem dX8_waitingOfGroup_37 : decode cX8_waitingOfGroup 37 = .ok (.iload_n 1, 1) := by decide +kernel
theorem dX8_waitingOfGroup_38 : decode cX8_waitingOfGroup 38 = .ok (.if_icmp .ne 6, 3) := by decide +kernel
theorem dX8_waitingOfGroup_41 : decode cX8_waitingOfGroup 41 = .ok (.iinc 2 1, 3) := by decide +kernel
theorem dX8_waitingOfGroup_44 : decode cX8_waitingOfGroup 44 = .ok (.iinc 3 1, 3) := by decide +kernel
theorem dX8_waitingOfGroup_47 : decode cX8_waitingOfGroup 47 = .ok (.goto (-43), 3) := by decide +kernel
theorem dX8_waitingOfGroup_50 : decode cX8_waitingOfGroup 50 = .ok (.iload_n 2, 1) := by decide +kernel
theorem dX8_waitingOfGroup_51 : decode cX8_waitingOfGroup 51 = .ok (.ireturn, 1) := by decide +kernel
theorem dX9_init_0 : decode cX9_init 0 = .ok (.aload_n 0, 1) := by decide +kernel
theorem dX9_init_1 : decode cX9_init 1 = .ok (.invokespecial 1, 3) := by decide +kernel
theorem dX9_init_4 : decode cX9_init 4 = .ok (.aload_n 0, 1) := by decide +kernel
theorem dX9_init_5 : decode cX9_init 5 = .ok (.bipush 32, 2) := by decide +kernel
theorem dX9_init_7 : decode cX9_init 7 = .ok (.newarray .int, 2) := by decide +kernel
theorem dX9_init_9 : decode cX9_init 9 = .ok (.putfield 7, 3) := by decide +kernel
theorem dX9_init_12 : decode cX9_init 12 = .ok (.aload_n 0, 1) := by decide +kernel
theorem dX9_init_13 : decode cX9_init 13 = .ok (.bipush 32, 2) := by decide +kernel
theorem dX9_init_15 : decode cX9_init 15 = .ok (.newarray .int, 2) := by decide +kernel
theorem dX9_init_17 : decode cX9_init 17 = .ok (.putfield 13, 3) := by decide +kernel
theorem dX9_init_20 : decode cX9_init 20 = .ok (.aload_n 0, 1) := by decide +kernel
theorem dX9_init_21 : decode cX9_init 21 = .ok (.bipush 32, 2) := by decide +kernel
theorem dX9_init_23 : decode cX9_init 23 = .ok (.newarray .int, 2) := by decide +kernel
theorem dX9_init_25 : decode cX9_init 25 = .ok (.putfield 16, 3) := by decide +kernel
theorem dX9_init_28 : decode cX9_init 28 = .ok (.aload_n 0, 1) := by decide +kernel
theorem dX9_init_29 : decode cX9_init 29 = .ok (.bipush 32, 2) := by decide +kernel
theorem dX9_init_31 : decode cX9_init 31 = .ok (.newarray .boolean, 2) := by decide +kernel
theorem dX9_init_33 : decode cX9_init 33 = .ok (.putfield 19, 3) := by decide +kernel
theorem dX9_init_36 : decode cX9_init 36 = .ok (.aload_n 0, 1) := by decide +kernel
theorem dX9_init_37 : decode cX9_init 37 = .ok (.sipush 400, 3) := by decide +kernel
theorem dX9_init_40 : decode cX9_init 40 = .ok (.newarray .int, 2) := by decide +kernel
theorem dX9_init_42 : decode cX9_init 42 = .ok (.putfield 23, 3) := by decide +kernel
theorem dX9_init_45 : decode cX9_init 45 = .ok (.aload_n 0, 1) := by decide +kernel
theorem dX9_init_46 : decode cX9_init 46 = .ok (.sipush 400, 3) := by decide +kernel
theorem dX9_init_49 : decode cX9_init 49 = .ok (.newarray .int, 2) := by decide +kernel
theorem dX9_init_51 : decode cX9_init 51 = .ok (.putfield 26, 3) := by decide +kernel
theorem dX9_init_54 : decode cX9_init 54 = .ok (.aload_n 0, 1) := by decide +kernel
theorem dX9_init_55 : decode cX9_init 55 = .ok (.sipush 400, 3) := by decide +kernel
theorem dX9_init_58 : decode cX9_init 58 = .ok (.newarray .boolean, 2) := by decide +kernel
theorem dX9_init_60 : decode cX9_init 60 = .ok (.putfield 29, 3) := by decide +kernel
theorem dX9_init_63 : decode cX9_init 63 = .ok (.aload_n 0, 1) := by decide +kernel
theorem dX9_init_64 : decode cX9_init 64 = .ok (.bipush 100, 2) := by decide +kernel
theorem dX9_init_66 : decode cX9_init 66 = .ok (.newarray .int, 2) := by decide +kernel
theorem dX9_init_68 : decode cX9_init 68 = .ok (.putfield 32, 3) := by decide +kernel
theorem dX9_init_71 : decode cX9_init 71 = .ok (.aload_n 0, 1) := by decide +kernel
theorem dX9_init_72 : decode cX9_init 72 = .ok (.bipush 100, 2) := by decide +kernel
theorem dX9_init_74 : decode cX9_init 74 = .ok (.newarray .long, 2) := by decide +kernel
theorem dX9_init_76 : decode cX9_init 76 = .ok (.putfield 35, 3) := by decide +kernel
theorem dX9_init_79 : decode cX9_init 79 = .ok (.aload_n 0, 1) := by decide +kernel
theorem dX9_init_80 : decode cX9_init 80 = .ok (.sipush 400, 3) := by decide +kernel
theorem dX9_init_83 : decode cX9_init 83 = .ok (.newarray .int, 2) := by decide +kernel
theorem dX9_init_85 : decode cX9_init 85 = .ok (.putfield 39, 3) := by decide +kernel
theorem dX9_init_88 : decode cX9_init 88 = .ok (.aload_n 0, 1) := by decide +kernel
theorem dX9_init_89 : decode cX9_init 89 = .ok (.sipush 400, 3) := by decide +kernel
theorem dX9_init_92 : decode cX9_init 92 = .ok (.newarray .int, 2) := by decide +kernel
theorem dX9_init_94 : decode cX9_init 94 = .ok (.putfield 42, 3) := by decide +kernel
theorem dX9_init_97 : decode cX9_init 97 = .ok (.aload_n 0, 1) := by decide +kernel
theorem dX9_init_98 : decode cX9_init 98 = .ok (.sipush 400, 3) := by decide +kernel
theorem dX9_init_101 : decode cX9_init 101 = .ok (.newarray .long, 2) := by decide +kernel
theorem dX9_init_103 : decode cX9_init 103 = .ok (.putfield 45, 3) := by decide +kernel
theorem dX9_init_106 : decode cX9_init 106 = .ok (.aload_n 0, 1) := by decide +kernel
theorem dX9_init_107 : decode cX9_init 107 = .ok (.bipush 40, 2) := by decide +kernel
theorem dX9_init_109 : decode cX9_init 109 = .ok (.newarray .int, 2) := by decide +kernel
theorem dX9_init_111 : decode cX9_init 111 = .ok (.putfield 48, 3) := by decide +kernel
theorem dX9_init_114 : decode cX9_init 114 = .ok (.aload_n 0, 1) := by decide +kernel
theorem dX9_init_115 : decode cX9_init 115 = .ok (.bipush 40, 2) := by decide +kernel
theorem dX9_init_117 : decode cX9_init 117 = .ok (.newarray .int, 2) := by decide +kernel
theorem dX9_init_119 : decode cX9_init 119 = .ok (.putfield 51, 3) := by decide +kernel
theorem dX9_init_122 : decode cX9_init 122 = .ok (.aload_n 0, 1) := by decide +kernel
theorem dX9_init_123 : decode cX9_init 123 = .ok (.bipush 32, 2) := by decide +kernel
theorem dX9_init_125 : decode cX9_init 125 = .ok (.newarray .int, 2) := by decide +kernel
theorem dX9_init_127 : decode cX9_init 127 = .ok (.putfield 54, 3) := by decide +kernel
theorem dX9_init_130 : decode cX9_init 130 = .ok (.aload_n 0, 1) := by decide +kernel
theorem dX9_init_131 : decode cX9_init 131 = .ok (.bipush 32, 2) := by decide +kernel
theorem dX9_init_133 : decode cX9_init 133 = .ok (.newarray .int, 2) := by decide +kernel
theorem dX9_init_135 : decode cX9_init 135 = .ok (.putfield 57, 3) := by decide +kernel
theorem dX9_init_138 : decode cX9_init 138 = .ok (.aload_n 0, 1) := by decide +kernel
theorem dX9_init_139 : decode cX9_init 139 = .ok (.bipush 32, 2) := by decide +kernel
theorem dX9_init_141 : decode cX9_init 141 = .ok (.newarray .int, 2) := by decide +kernel
theorem dX9_init_143 : decode cX9_init 143 = .ok (.putfield 60, 3) := by decide +kernel
theorem dX9_init_146 : decode cX9_init 146 = .ok (.aload_n 0, 1) := by decide +kernel
theorem dX9_init_147 : decode cX9_init 147 = .ok (.bipush 32, 2) := by decide +kernel
theorem dX9_init_149 : decode cX9_init 149 = .ok (.newarray .long, 2) := by decide +kernel
theorem dX9_init_151 : decode cX9_init 151 = .ok (.putfield 63, 3) := by decide +kernel
theorem dX9_init_154 : decode cX9_init 154 = .ok (.aload_n 0, 1) := by decide +kernel
theorem dX9_init_155 : decode cX9_init 155 = .ok (.iconst 3, 1) := by decide +kernel
theorem dX9_init_156 : decode cX9_init 156 = .ok (.newarray .int, 2) := by decide +kernel
theorem dX9_init_158 : decode cX9_init 158 = .ok (.putfield 66, 3) := by decide +kernel
theorem dX9_init_161 : decode cX9_init 161 = .ok (.aload_n 0, 1) := by decide +kernel
theorem dX9_init_162 : decode cX9_init 162 = .ok (.sipush 1200, 3) := by decide +kernel
theorem dX9_init_165 : decode cX9_init 165 = .ok (.newarray .int, 2) := by decide +kernel
theorem dX9_init_167 : decode cX9_init 167 = .ok (.putfield 69, 3) := by decide +kernel
theorem dX9_init_170 : decode cX9_init 170 = .ok (.aload_n 0, 1) := by decide +kernel
theorem dX9_init_171 : decode cX9_init 171 = .ok (.sipush 1200, 3) := by decide +kernel
theorem dX9_init_174 : decode cX9_init 174 = .ok (.newarray .int, 2) := by decide +kernel
theorem dX9_init_176 : decode cX9_init 176 = .ok (.putfield 72, 3) := by decide +kernel
theorem dX9_init_179 : decode cX9_init 179 = .ok (.aload_n 0, 1) := by decide +kernel
theorem dX9_init_180 : decode cX9_init 180 = .ok (.sipush 1200, 3) := by decide +kernel
theorem dX9_init_183 : decode cX9_init 183 = .ok (.newarray .boolean, 2) := by decide +kernel
theorem dX9_init_185 : decode cX9_init 185 = .ok (.putfield 75, 3) := by decide +kernel
theorem dX9_init_188 : decode cX9_init 188 = .ok (.aload_n 0, 1) := by decide +kernel
theorem dX9_init_189 : decode cX9_init 189 = .ok (.sipush 300, 3) := by decide +kernel
theorem dX9_init_192 : decode cX9_init 192 = .ok (.newarray .int, 2) := by decide +kernel
theorem dX9_init_194 : decode cX9_init 194 = .ok (.putfield 78, 3) := by decide +kernel
theorem dX9_init_197 : decode cX9_init 197 = .ok (.aload_n 0, 1) := by decide +kernel
theorem dX9_init_198 : decode cX9_init 198 = .ok (.sipush 300, 3) := by decide +kernel
theorem dX9_init_201 : decode cX9_init 201 = .ok (.newarray .long, 2) := by decide +kernel
theorem dX9_init_203 : decode cX9_init 203 = .ok (.putfield 81, 3) := by decide +kernel
theorem dX9_init_206 : decode cX9_init 206 = .ok (.aload_n 0, 1) := by decide +kernel
theorem dX9_init_207 : decode cX9_init 207 = .ok (.iconst 3, 1) := by decide +kernel
theorem dX9_init_208 : decode cX9_init 208 = .ok (.newarray .int, 2) := by decide +kernel
theorem dX9_init_210 : decode cX9_init 210 = .ok (.putfield 84, 3) := by decide +kernel
theorem dX9_init_213 : decode cX9_init 213 = .ok (.aload_n 0, 1) := by decide +kernel
theorem dX9_init_214 : decode cX9_init 214 = .ok (.iconst 3, 1) := by decide +kernel
theorem dX9_init_215 : decode cX9_init 215 = .ok (.newarray .int, 2) := by decide +kernel
theorem dX9_init_217 : decode cX9_init 217 = .ok (.putfield 87, 3) := by decide +kernel
theorem dX9_init_220 : decode cX9_init 220 = .ok (.aload_n 0, 1) := by decide +kernel
theorem dX9_init_221 : decode cX9_init 221 = .ok (.bipush 120, 2) := by decide +kernel
theorem dX9_init_223 : decode cX9_init 223 = .ok (.newarray .int, 2) := by decide +kernel
theorem dX9_init_225 : decode cX9_init 225 = .ok (.putfield 90, 3) := by decide +kernel
theorem dX9_init_228 : decode cX9_init 228 = .ok (.aload_n 0, 1) := by decide +kernel
theorem dX9_init_229 : decode cX9_init 229 = .ok (.bipush 120, 2) := by decide +kernel
theorem dX9_init_231 : decode cX9_init 231 = .ok (.newarray .int, 2) := by decide +kernel
theorem dX9_init_233 : decode cX9_init 233 = .ok (.putfield 93, 3) := by decide +kernel
theorem dX9_init_236 : decode cX9_init 236 = .ok (.aload_n 0, 1) := by decide +kernel
theorem dX9_init_237 : decode cX9_init 237 = .ok (.bipush 32, 2) := by decide +kernel
theorem dX9_init_239 : decode cX9_init 239 = .ok (.newarray .int, 2) := by decide +kernel
theorem dX9_init_241 : decode cX9_init 241 = .ok (.putfield 96, 3) := by decide +kernel
theorem dX9_init_244 : decode cX9_init 244 = .ok (.aload_n 0, 1) := by decide +kernel
theorem dX9_init_245 : decode cX9_init 245 = .ok (.sipush 429, 3) := by decide +kernel
theorem dX9_init_248 : decode cX9_init 248 = .ok (.newarray .long, 2) := by decide +kernel
theorem dX9_init_250 : decode cX9_init 250 = .ok (.putfield 99, 3) := by decide +kernel
theorem dX9_init_253 : decode cX9_init 253 = .ok (.aload_n 0, 1) := by decide +kernel
theorem dX9_init_254 : decode cX9_init 254 = .ok (.invokevirtual 102, 3) := by decide +kernel
theorem dX9_init_257 : decode cX9_init 257 = .ok (.return_, 1) := by decide +kernel
theorem dX9_in_0 : decode cX9_in 0 = .ok (.lload_n 0, 1) := by decide +kernel
theorem dX9_in_1 : decode cX9_in 1 = .ok (.lload_n 2, 1) := by decide +kernel
theorem dX9_in_2 : decode cX9_in 2 = .ok (.lcmp, 1) := by decide +kernel
theorem dX9_in_3 : decode cX9_in 3 = .ok (.ifCond .lt 14, 3) := by decide +kernel
theorem dX9_in_6 : decode cX9_in 6 = .ok (.lload_n 0, 1) := by decide +kernel
theorem dX9_in_7 : decode cX9_in 7 = .ok (.lload 4, 2) := by decide +kernel
theorem dX9_in_9 : decode cX9_in 9 = .ok (.lcmp, 1) := by decide +kernel
theorem dX9_in_10 : decode cX9_in 10 = .ok (.ifCond .gt 7, 3) := by decide +kernel
theorem dX9_in_13 : decode cX9_in 13 = .ok (.iconst 1, 1) := by decide +kernel
theorem dX9_in_14 : decode cX9_in 14 = .ok (.goto 4, 3) := by decide +kernel
theorem dX9_in_17 : decode cX9_in 17 = .ok (.iconst 0, 1) := by decide +kernel
theorem dX9_in_18 : decode cX9_in 18 = .ok (.ireturn, 1) := by decide +kernel
theorem dX9_begin_0 : decode cX9_begin 0 = .ok (.aload_n 0, 1) := by decide +kernel
theorem dX9_begin_1 : decode cX9_begin 1 = .ok (.bipush 20, 2) := by decide +kernel
theorem dX9_begin_3 : decode cX9_begin 3 = .ok (.putfield 105, 3) := by decide +kernel
theorem dX9_begin_6 : decode cX9_begin 6 = .ok (.aload_n 0, 1) := by decide +kernel
theorem dX9_begin_7 : decode cX9_begin 7 = .ok (.iconst 0, 1) := by decide +kernel
theorem dX9_begin_8 : decode cX9_begin 8 = .ok (.putfield 109, 3) := by decide +kernel
theorem dX9_begin_11 : decode cX9_begin 11 = .ok (.aload_n 0, 1) := by decide +kernel
theorem dX9_begin_12 : decode cX9_begin 12 = .ok (.iconst 0, 1) := by decide +kernel
theorem dX9_begin_13 : decode cX9_begin 13 = .ok (.putfield 112, 3) := by decide +kernel
theorem dX9_begin_16 : decode cX9_begin 16 = .ok (.aload_n 0, 1) := by decide +kernel
theorem dX9_begin_17 : decode cX9_begin 17 = .ok (.iconst 0, 1) := by decide +kernel
theorem dX9_begin_18 : decode cX9_begin 18 = .ok (.putfield 115, 3) := by decide +kernel
theorem dX9_begin_21 : decode cX9_begin 21 = .ok (.aload_n 0, 1) := by decide +kernel
theorem dX9_begin_22 : decode cX9_begin 22 = .ok (.iconst 0, 1) := by decide +kernel
theorem dX9_begin_23 : decode cX9_begin 23 = .ok (.putfield 118, 3) := by decide +kernel
theorem dX9_begin_26 : decode cX9_begin 26 = .ok (.aload_n 0, 1) := by decide +kernel
theorem dX9_begin_27 : decode cX9_begin 27 = .ok (.iconst 0, 1) := by decide +kernel
theorem dX9_begin_28 : decode cX9_begin 28 = .ok (.putfield 121, 3) := by decide +kernel
theorem dX9_begin_31 : decode cX9_begin 31 = .ok (.aload_n 0, 1) := by decide +kernel
theorem dX9_begin_32 : decode cX9_begin 32 = .ok (.iconst 0, 1) := by decide +kernel
theorem dX9_begin_33 : decode cX9_begin 33 = .ok (.putfield 124, 3) := by decide +kernel
theorem dX9_begin_36 : decode cX9_begin 36 = .ok (.aload_n 0, 1) := by decide +kernel
theorem dX9_begin_37 : decode cX9_begin 37 = .ok (.iconst 0, 1) := by decide +kernel
theorem dX9_begin_38 : decode cX9_begin 38 = .ok (.putfield 127, 3) := by decide +kernel
theorem dX9_begin_41 : decode cX9_begin 41 = .ok (.iconst 0, 1) := by decide +kernel
theorem dX9_begin_42 : decode cX9_begin 42 = .ok (.istore_n 1, 1) := by decide +kernel
theorem dX9_begin_43 : decode cX9_begin 43 = .ok (.iload_n 1, 1) := by decide +kernel
theorem dX9_begin_44 : decode cX9_begin 44 = .ok (.bipush 100, 2) := by decide +kernel
theorem dX9_begin_46 : decode cX9_begin 46 = .ok (.if_icmp .ge 23, 3) := by decide +kernel
theorem dX9_begin_49 : decode cX9_begin 49 = .ok (.aload_n 0, 1) := by decide +kernel
theorem dX9_begin_50 : decode cX9_begin 50 = .ok (.getfield 32, 3) := by decide +kernel
theorem dX9_begin_53 : decode cX9_begin 53 = .ok (.iload_n 1, 1) := by decide +kernel
theorem dX9_begin_54 : decode cX9_begin 54 = .ok (.iconst 0, 1) := by decide +kernel
theorem dX9_begin_55 : decode cX9_begin 55 = .ok (.iastore, 1) := by decide +kernel
theorem dX9_begin_56 : decode cX9_begin 56 = .ok (.aload_n 0, 1) := by decide +kernel
theorem dX9_begin_57 : decode cX9_begin 57 = .ok (.getfield 35, 3) := by decide +kernel
theorem dX9_begin_60 : decode cX9_begin 60 = .ok (.iload_n 1, 1) := by decide +kernel
theorem dX9_begin_61 : decode cX9_begin 61 = .ok (.lconst 0, 1) := by decide +kernel
theorem dX9_begin_62 : decode cX9_begin 62 = .ok (.lastore, 1) := by decide +kernel
theorem dX9_begin_63 : decode cX9_begin 63 = .ok (.iinc 1 1, 3) := by decide +kernel
theorem dX9_begin_66 : decode cX9_begin 66 = .ok (.goto (-23), 3) := by decide +kernel
theorem dX9_begin_69 : decode cX9_begin 69 = .ok (.iconst 0, 1) := by decide +kernel
theorem dX9_begin_70 : decode cX9_begin 70 = .ok (.istore_n 1, 1) := by decide +kernel
theorem dX9_begin_71 : decode cX9_begin 71 = .ok (.iload_n 1, 1) := by decide +kernel
theorem dX9_begin_72 : decode cX9_begin 72 = .ok (.bipush 32, 2) := by decide +kernel
theorem dX9_begin_74 : decode cX9_begin 74 = .ok (.if_icmp .ge 16, 3) := by decide +kernel
theorem dX9_begin_77 : decode cX9_begin 77 = .ok (.aload_n 0, 1) := by decide +kernel
theorem dX9_begin_78 : decode cX9_begin 78 = .ok (.getfield 19, 3) := by decide +kernel
theorem dX9_begin_81 : decode cX9_begin 81 = .ok (.iload_n 1, 1) := by decide +kernel
theorem dX9_begin_82 : decode cX9_begin 82 = .ok (.iconst 0, 1) := by decide +kernel
theorem dX9_begin_83 : decode cX9_begin 83 = .ok (.bastore, 1) := by decide +kernel
theorem dX9_begin_84 : decode cX9_begin 84 = .ok (.iinc 1 1, 3) := by decide +kernel
theorem dX9_begin_87 : decode cX9_begin 87 = .ok (.goto (-16), 3) := by decide +kernel
theorem dX9_begin_90 : decode cX9_begin 90 = .ok (.aload_n 0, 1) := by decide +kernel
theorem dX9_begin_91 : decode cX9_begin 91 = .ok (.bipush 8, 2) := by decide +kernel
theorem dX9_begin_93 : decode cX9_begin 93 = .ok (.iconst 4, 1) := by decide +kernel
theorem dX9_begin_94 : decode cX9_begin 94 = .ok (.invokevirtual 130, 3) := by decide +kernel
theorem dX9_begin_97 : decode cX9_begin 97 = .ok (.return_, 1) := by decide +kernel
theorem dX9_layShape_0 : decode cX9_layShape 0 = .ok (.aload_n 0, 1) := by decide +kernel
theorem dX9_layShape_1 : decode cX9_layShape 1 = .ok (.iload_n 1, 1) := by decide +kernel
theorem dX9_layShape_2 : decode cX9_layShape 2 = .ok (.putfield 134, 3) := by decide +kernel
theorem dX9_layShape_5 : decode cX9_layShape 5 = .ok (.aload_n 0, 1) := by decide +kernel
theorem dX9_layShape_6 : decode cX9_layShape 6 = .ok (.iload_n 2, 1) := by decide +kernel
theorem dX9_layShape_7 : decode cX9_layShape 7 = .ok (.putfield 137, 3) := by decide +kernel
theorem dX9_layShape_10 : decode cX9_layShape 10 = .ok (.aload_n 0, 1) := by decide +kernel
theorem dX9_layShape_11 : decode cX9_layShape 11 = .ok (.iconst 1, 1) := by decide +kernel
theorem dX9_layShape_12 : decode cX9_layShape 12 = .ok (.putfield 140, 3) := by decide +kernel
theorem dX9_layShape_15 : decode cX9_layShape 15 = .ok (.iconst 0, 1) := by decide +kernel
theorem dX9_layShape_16 : decode cX9_layShape 16 = .ok (.istore_n 3, 1) := by decide +kernel
theorem dX9_layShape_17 : decode cX9_layShape 17 = .ok (.iload_n 3, 1) := by decide +kernel
theorem dX9_layShape_18 : decode cX9_layShape 18 = .ok (.bipush 32, 2) := by decide +kernel
theorem dX9_layShape_20 : decode cX9_layShape 20 = .ok (.if_icmp .ge 30, 3) := by decide +kernel
theorem dX9_layShape_23 : decode cX9_layShape 23 = .ok (.aload_n 0, 1) := by decide +kernel
theorem dX9_layShape_24 : decode cX9_layShape 24 = .ok (.getfield 7, 3) := by decide +kernel
theorem dX9_layShape_27 : decode cX9_layShape 27 = .ok (.iload_n 3, 1) := by decide +kernel
theorem dX9_layShape_28 : decode cX9_layShape 28 = .ok (.iconst 0, 1) := by decide +kernel
theorem dX9_layShape_29 : decode cX9_layShape 29 = .ok (.iastore, 1) := by decide +kernel
theorem dX9_layShape_30 : decode cX9_layShape 30 = .ok (.aload_n 0, 1) := by decide +kernel
theorem dX9_layShape_31 : decode cX9_layShape 31 = .ok (.getfield 13, 3) := by decide +kernel
theorem dX9_layShape_34 : decode cX9_layShape 34 = .ok (.iload_n 3, 1) := by decide +kernel
theorem dX9_layShape_35 : decode cX9_layShape 35 = .ok (.iconst 1, 1) := by decide +kernel
theorem dX9_layShape_36 : decode cX9_layShape 36 = .ok (.iastore, 1) := by decide +kernel
theorem dX9_layShape_37 : decode cX9_layShape 37 = .ok (.aload_n 0, 1) := by decide +kernel
theorem dX9_layShape_38 : decode cX9_layShape 38 = .ok (.getfield 16, 3) := by decide +kernel
theorem dX9_layShape_41 : decode cX9_layShape 41 = .ok (.iload_n 3, 1) := by decide +kernel
theorem dX9_layShape_42 : decode cX9_layShape 42 = .ok (.iconst 0, 1) := by decide +kernel
theorem dX9_layShape_43 : decode cX9_layShape 43 = .ok (.iastore, 1) := by decide +kernel
theorem dX9_layShape_44 : decode cX9_layShape 44 = .ok (.iinc 3 1, 3) := by decide +kernel
theorem dX9_layShape_47 : decode cX9_layShape 47 = .ok (.goto (-30), 3) := by decide +kernel
theorem dX9_layShape_50 : decode cX9_layShape 50 = .ok (.return_, 1) := by decide +kernel
theorem dX9_shape_0 : decode cX9_shape 0 = .ok (.iload_n 1, 1) := by decide +kernel
theorem dX9_shape_1 : decode cX9_shape 1 = .ok (.i2l, 1) := by decide +kernel
theorem dX9_shape_2 : decode cX9_shape 2 = .ok (.ldc2_w 143, 3) := by decide +kernel
theorem dX9_shape_5 : decode cX9_shape 5 = .ok (.ldc2_w 145, 3) := by decide +kernel
theorem dX9_shape_8 : decode cX9_shape 8 = .ok (.invokestatic 147, 3) := by decide +kernel
theorem dX9_shape_11 : decode cX9_shape 11 = .ok (.ifCond .eq 20, 3) := by decide +kernel
theorem dX9_shape_14 : decode cX9_shape 14 = .ok (.iload_n 2, 1) := by decide +kernel
theorem dX9_shape_15 : decode cX9_shape 15 = .ok (.i2l, 1) := by decide +kernel
theorem dX9_shape_16 : decode cX9_shape 16 = .ok (.lconst 1, 1) := by decide +kernel
theorem dX9_shape_17 : decode cX9_shape 17 = .ok (.ldc2_w 151, 3) := by decide +kernel
theorem dX9_shape_20 : decode cX9_shape 20 = .ok (.invokestatic 147, 3) := by decide +kernel
theorem dX9_shape_23 : decode cX9_shape 23 = .ok (.ifCond .eq 8, 3) := by decide +kernel
theorem dX9_shape_26 : decode cX9_shape 26 = .ok (.iload_n 2, 1) := by decide +kernel
theorem dX9_shape_27 : decode cX9_shape 27 = .ok (.iload_n 1, 1) := by decide +kernel
theorem dX9_shape_28 : decode cX9_shape 28 = .ok (.if_icmp .le 6, 3) := by decide +kernel
theorem dX9_shape_31 : decode cX9_shape 31 = .ok (.bipush (-102), 2) := by decide +kernel
theorem dX9_shape_33 : decode cX9_shape 33 = .ok (.ireturn, 1) := by decide +kernel
theorem dX9_shape_34 : decode cX9_shape 34 = .ok (.aload_n 0, 1) := by decide +kernel
theorem dX9_shape_35 : decode cX9_shape 35 = .ok (.getfield 109, 3) := by decide +kernel
theorem dX9_shape_38 : decode cX9_shape 38 = .ok (.ifCond .gt 17, 3) := by decide +kernel
theorem dX9_shape_41 : decode cX9_shape 41 = .ok (.aload_n 0, 1) := by decide +kernel
theorem dX9_shape_42 : decode cX9_shape 42 = .ok (.getfield 118, 3) := by decide +kernel
theorem dX9_shape_45 : decode cX9_shape 45 = .ok (.ifCond .gt 10, 3) := by decide +kernel
theorem dX9_shape_48 : decode cX9_shape 48 = .ok (.aload_n 0, 1) := by decide +kernel
theorem dX9_shape_49 : decode cX9_shape 49 = .ok (.getfield 124, 3) := by decide +kernel
theorem dX9_shape_52 : decode cX9_shape 52 = .ok (.ifCond .le 6, 3) := by decide +kernel
theorem dX9_shape_55 : decode cX9_shape 55 = .ok (.bipush (-103), 2) := by decide +kernel
theorem dX9_shape_57 : decode cX9_shape 57 = .ok (.ireturn, 1) := by decide +kernel
theorem dX9_shape_58 : decode cX9_shape 58 = .ok (.aload_n 0, 1) := by decide +kernel
theorem dX9_shape_59 : decode cX9_shape 59 = .ok (.iload_n 1, 1) := by decide +kernel
theorem dX9_shape_60 : decode cX9_shape 60 = .ok (.iload_n 2, 1) := by decide +kernel
theorem dX9_shape_61 : decode cX9_shape 61 = .ok (.invokevirtual 130, 3) := by decide +kernel
theorem dX9_shape_64 : decode cX9_shape 64 = .ok (.iconst 1, 1) := by decide +kernel
theorem dX9_shape_65 : decode cX9_shape 65 = .ok (.ireturn, 1) := by decide +kernel
theorem dX9_slack_0 : decode cX9_slack 0 = .ok (.iload_n 1, 1) := by decide +kernel
theorem dX9_slack_1 : decode cX9_slack 1 = .ok (.i2l, 1) := by decide +kernel
theorem dX9_slack_2 : decode cX9_slack 2 = .ok (.lconst 0, 1) := by decide +kernel
theorem dX9_slack_3 : decode cX9_slack 3 = .ok (.ldc2_w 153, 3) := by decide +kernel
theorem dX9_slack_6 : decode cX9_slack 6 = .ok (.invokestatic 147, 3) := by decide +kernel
theorem dX9_slack_9 : decode cX9_slack 9 = .ok (.ifCond .ne 6, 3) := by decide +kernel
theorem dX9_slack_12 : decode cX9_slack 12 = .ok (.bipush (-102), 2) := by decide +kernel
theorem dX9_slack_14 : decode cX9_slack 14 = .ok (.ireturn, 1) := by decide +kernel
theorem dX9_slack_15 : decode cX9_slack 15 = .ok (.aload_n 0, 1) := by decide +kernel
theorem dX9_slack_16 : decode cX9_slack 16 = .ok (.getfield 105, 3) := by decide +kernel
theorem dX9_slack_19 : decode cX9_slack 19 = .ok (.istore_n 2, 1) := by decide +kernel
theorem dX9_slack_20 : decode cX9_slack 20 = .ok (.aload_n 0, 1) := by decide +kernel
theorem dX9_slack_21 : decode cX9_slack 21 = .ok (.iload_n 1, 1) := by decide +kernel
theorem dX9_slack_22 : decode cX9_slack 22 = .ok (.putfield 105, 3) := by decide +kernel
theorem dX9_slack_25 : decode cX9_slack 25 = .ok (.iload_n 2, 1) := by decide +kernel
theorem dX9_slack_26 : decode cX9_slack 26 = .ok (.ireturn, 1) := by decide +kernel
theorem dX9_noKey_0 : decode cX9_noKey 0 = .ok (.iload_n 0, 1) := by decide +kernel
theorem dX9_noKey_1 : decode cX9_noKey 1 = .ok (.ifCond .lt 9, 3) := by decide +kernel
theorem dX9_noKey_4 : decode cX9_noKey 4 = .ok (.iload_n 0, 1) := by decide +kernel
theorem dX9_noKey_5 : decode cX9_noKey 5 = .ok (.bipush 100, 2) := by decide +kernel
theorem dX9_noKey_7 : decode cX9_noKey 7 = .ok (.if_icmp .lt 7, 3) := by decide +kernel
theorem dX9_noKey_10 : decode cX9_noKey 10 = .ok (.iconst 1, 1) := by decide +kernel
theorem dX9_noKey_11 : decode cX9_noKey 11 = .ok (.goto 4, 3) := by decide +kernel
theorem dX9_noKey_14 : decode cX9_noKey 14 = .ok (.iconst 0, 1) := by decide +kernel
theorem dX9_noKey_15 : decode cX9_noKey 15 = .ok (.ireturn, 1) := by decide +kernel
theorem dX9_groupOf_0 : decode cX9_groupOf 0 = .ok (.iload_n 1, 1) := by decide +kernel
theorem dX9_groupOf_1 : decode cX9_groupOf 1 = .ok (.ldc 155, 2) := by decide +kernel
theorem dX9_groupOf_3 : decode cX9_groupOf 3 = .ok (.imul, 1) := by decide +kernel
theorem dX9_groupOf_4 : decode cX9_groupOf 4 = .ok (.bipush 7, 2) := by decide +kernel
theorem dX9_groupOf_6 : decode cX9_groupOf 6 = .ok (.iload_n 1, 1) := by decide +kernel
theorem dX9_groupOf_7 : decode cX9_groupOf 7 = .ok (.imul, 1) := by decide +kernel
theorem dX9_groupOf_8 : decode cX9_groupOf 8 = .ok (.iadd, 1) := by decide +kernel
theorem dX9_groupOf_9 : decode cX9_groupOf 9 = .ok (.istore_n 2, 1) := by decide +kernel
theorem dX9_groupOf_10 : decode cX9_groupOf 10 = .ok (.iload_n 2, 1) := by decide +kernel
theorem dX9_groupOf_11 : decode cX9_groupOf 11 = .ok (.iload_n 2, 1) := by decide +kernel
theorem dX9_groupOf_12 : decode cX9_groupOf 12 = .ok (.bipush 15, 2) := by decide +kernel
theorem dX9_groupOf_14 : decode cX9_groupOf 14 = .ok (.iushr, 1) := by decide +kernel
theorem dX9_groupOf_15 : decode cX9_groupOf 15 = .ok (.ixor, 1) := by decide +kernel
theorem dX9_groupOf_16 : decode cX9_groupOf 16 = .ok (.istore_n 3, 1) := by decide +kernel
theorem dX9_groupOf_17 : decode cX9_groupOf 17 = .ok (.iload_n 3, 1) := by decide +kernel
theorem dX9_groupOf_18 : decode cX9_groupOf 18 = .ok (.iconst 1, 1) := by decide +kernel
theorem dX9_groupOf_19 : decode cX9_groupOf 19 = .ok (.iushr, 1) := by decide +kernel
theorem dX9_groupOf_20 : decode cX9_groupOf 20 = .ok (.aload_n 0, 1) := by decide +kernel
theorem dX9_groupOf_21 : decode cX9_groupOf 21 = .ok (.getfield 134, 3) := by decide +kernel
theorem dX9_groupOf_24 : decode cX9_groupOf 24 = .ok (.irem, 1) := by decide +kernel
theorem dX9_groupOf_25 : decode cX9_groupOf 25 = .ok (.ireturn, 1) := by decide +kernel
theorem dX9_group_0 : decode cX9_group 0 = .ok (.iload_n 1, 1) := by decide +kernel
theorem dX9_group_1 : decode cX9_group 1 = .ok (.invokestatic 156, 3) := by decide +kernel
theorem dX9_group_4 : decode cX9_group 4 = .ok (.ifCond .eq 8, 3) := by decide +kernel
theorem dX9_group_7 : decode cX9_group 7 = .ok (.bipush (-101), 2) := by decide +kernel
theorem dX9_group_9 : decode cX9_group 9 = .ok (.goto 8, 3) := by decide +kernel
theorem dX9_group_12 : decode cX9_group 12 = .ok (.aload_n 0, 1) := by decide +kernel
theorem dX9_group_13 : decode cX9_group 13 = .ok (.iload_n 1, 1) := by decide +kernel
theorem dX9_group_14 : decode cX9_group 14 = .ok (.invokevirtual 160, 3) := by decide +kernel
theorem dX9_group_17 : decode cX9_group 17 = .ok (.ireturn, 1) := by decide +kernel
theorem dX9_row_0 : decode cX9_row 0 = .ok (.iload_n 1, 1) := by decide +kernel
theorem dX9_row_1 : decode cX9_row 1 = .ok (.invokestatic 156, 3) := by decide +kernel
theorem dX9_row_4 : decode cX9_row 4 = .ok (.ifCond .eq 6, 3) := by decide +kernel
theorem dX9_row_7 : decode cX9_row 7 = .ok (.bipush (-101), 2) := by decide +kernel
theorem dX9_row_9 : decode cX9_row 9 = .ok (.ireturn, 1) := by decide +kernel
theorem dX9_row_10 : decode cX9_row 10 = .ok (.iload_n 2, 1) := by decide +kernel
theorem dX9_row_11 : decode cX9_row 11 = .ok (.i2l, 1) := by decide +kernel
theorem dX9_row_12 : decode cX9_row 12 = .ok (.ldc2_w 164, 3) := by decide +kernel
theorem dX9_row_15 : decode cX9_row 15 = .ok (.ldc2_w 166, 3) := by decide +kernel
theorem dX9_row_18 : decode cX9_row 18 = .ok (.invokestatic 147, 3) := by decide +kernel
theorem dX9_row_21 : decode cX9_row 21 = .ok (.ifCond .ne 6, 3) := by decide +kernel
theorem dX9_row_24 : decode cX9_row 24 = .ok (.bipush (-102), 2) := by decide +kernel
theorem dX9_row_26 : decode cX9_row 26 = .ok (.ireturn, 1) := by decide +kernel
theorem dX9_row_27 : decode cX9_row 27 = .ok (.aload_n 0, 1) := by decide +kernel
theorem dX9_row_28 : decode cX9_row 28 = .ok (.getfield 109, 3) := by decide +kernel
theorem dX9_row_31 : decode cX9_row 31 = .ok (.sipush 400, 3) := by decide +kernel
theorem dX9_row_34 : decode cX9_row 34 = .ok (.if_icmp .ne 6, 3) := by decide +kernel
theorem dX9_row_37 : decode cX9_row 37 = .ok (.bipush (-107), 2) := by decide +kernel
theorem dX9_row_39 : decode cX9_row 39 = .ok (.ireturn, 1) := by decide +kernel
theorem dX9_row_40 : decode cX9_row 40 = .ok (.aload_n 0, 1) := by decide +kernel
theorem dX9_row_41 : decode cX9_row 41 = .ok (.getfield 23, 3) := by decide +kernel
theorem dX9_row_44 : decode cX9_row 44 = .ok (.aload_n 0, 1) := by decide +kernel
theorem dX9_row_45 : decode cX9_row 45 = .ok (.getfield 109, 3) := by decide +kernel
theorem dX9_row_48 : decode cX9_row 48 = .ok (.iload_n 1, 1) := by decide +kernel
theorem dX9_row_49 : decode cX9_row 49 = .ok (.iastore, 1) := by decide +kernel
