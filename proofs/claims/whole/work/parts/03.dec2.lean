theorem dX9_row_50 : decode cX9_row 50 = .ok (.aload_n 0, 1) := by decide +kernel
theorem dX9_row_51 : decode cX9_row 51 = .ok (.getfield 26, 3) := by decide +kernel
theorem dX9_row_54 : decode cX9_row 54 = .ok (.aload_n 0, 1) := by decide +kernel
theorem dX9_row_55 : decode cX9_row 55 = .ok (.getfield 109, 3) := by decide +kernel
theorem dX9_row_58 : decode cX9_row 58 = .ok (.iload_n 2, 1) := by decide +kernel
theorem dX9_row_59 : decode cX9_row 59 = .ok (.iastore, 1) := by decide +kernel
theorem dX9_row_60 : decode cX9_row 60 = .ok (.aload_n 0, 1) := by decide +kernel
theorem dX9_row_61 : decode cX9_row 61 = .ok (.getfield 29, 3) := by decide +kernel
theorem dX9_row_64 : decode cX9_row 64 = .ok (.aload_n 0, 1) := by decide +kernel
theorem dX9_row_65 : decode cX9_row 65 = .ok (.getfield 109, 3) := by decide +kernel
theorem dX9_row_68 : decode cX9_row 68 = .ok (.iconst 1, 1) := by decide +kernel
theorem dX9_row_69 : decode cX9_row 69 = .ok (.bastore, 1) := by decide +kernel
theorem dX9_row_70 : decode cX9_row 70 = .ok (.aload_n 0, 1) := by decide +kernel
theorem dX9_row_71 : decode cX9_row 71 = .ok (.dup, 1) := by decide +kernel
theorem dX9_row_72 : decode cX9_row 72 = .ok (.getfield 109, 3) := by decide +kernel
theorem dX9_row_75 : decode cX9_row 75 = .ok (.iconst 1, 1) := by decide +kernel
theorem dX9_row_76 : decode cX9_row 76 = .ok (.iadd, 1) := by decide +kernel
theorem dX9_row_77 : decode cX9_row 77 = .ok (.putfield 109, 3) := by decide +kernel
theorem dX9_row_80 : decode cX9_row 80 = .ok (.aload_n 0, 1) := by decide +kernel
theorem dX9_row_81 : decode cX9_row 81 = .ok (.getfield 16, 3) := by decide +kernel
theorem dX9_row_84 : decode cX9_row 84 = .ok (.aload_n 0, 1) := by decide +kernel
theorem dX9_row_85 : decode cX9_row 85 = .ok (.iload_n 1, 1) := by decide +kernel
theorem dX9_row_86 : decode cX9_row 86 = .ok (.invokevirtual 160, 3) := by decide +kernel
theorem dX9_row_89 : decode cX9_row 89 = .ok (.dup2, 1) := by decide +kernel
theorem dX9_row_90 : decode cX9_row 90 = .ok (.iaload, 1) := by decide +kernel
theorem dX9_row_91 : decode cX9_row 91 = .ok (.iconst 1, 1) := by decide +kernel
theorem dX9_row_92 : decode cX9_row 92 = .ok (.iadd, 1) := by decide +kernel
theorem dX9_row_93 : decode cX9_row 93 = .ok (.iastore, 1) := by decide +kernel
theorem dX9_row_94 : decode cX9_row 94 = .ok (.aload_n 0, 1) := by decide +kernel
theorem dX9_row_95 : decode cX9_row 95 = .ok (.getfield 7, 3) := by decide +kernel
theorem dX9_row_98 : decode cX9_row 98 = .ok (.aload_n 0, 1) := by decide +kernel
theorem dX9_row_99 : decode cX9_row 99 = .ok (.iload_n 1, 1) := by decide +kernel
theorem dX9_row_100 : decode cX9_row 100 = .ok (.invokevirtual 160, 3) := by decide +kernel
theorem dX9_row_103 : decode cX9_row 103 = .ok (.iaload, 1) := by decide +kernel
theorem dX9_row_104 : decode cX9_row 104 = .ok (.ireturn, 1) := by decide +kernel
theorem dX9_firstOf_0 : decode cX9_firstOf 0 = .ok (.iconst 0, 1) := by decide +kernel
theorem dX9_firstOf_1 : decode cX9_firstOf 1 = .ok (.istore_n 2, 1) := by decide +kernel
theorem dX9_firstOf_2 : decode cX9_firstOf 2 = .ok (.iload_n 2, 1) := by decide +kernel
theorem dX9_firstOf_3 : decode cX9_firstOf 3 = .ok (.aload_n 0, 1) := by decide +kernel
theorem dX9_firstOf_4 : decode cX9_firstOf 4 = .ok (.getfield 109, 3) := by decide +kernel
theorem dX9_firstOf_7 : decode cX9_firstOf 7 = .ok (.if_icmp .ge 39, 3) := by decide +kernel
theorem dX9_firstOf_10 : decode cX9_firstOf 10 = .ok (.aload_n 0, 1) := by decide +kernel
theorem dX9_firstOf_11 : decode cX9_firstOf 11 = .ok (.getfield 29, 3) := by decide +kernel
theorem dX9_firstOf_14 : decode cX9_firstOf 14 = .ok (.iload_n 2, 1) := by decide +kernel
theorem dX9_firstOf_15 : decode cX9_firstOf 15 = .ok (.baload, 1) := by decide +kernel
theorem dX9_firstOf_16 : decode cX9_firstOf 16 = .ok (.ifCond .eq 24, 3) := by decide +kernel
theorem dX9_firstOf_19 : decode cX9_firstOf 19 = .ok (.aload_n 0, 1) := by decide +kernel
theorem dX9_firstOf_20 : decode cX9_firstOf 20 = .ok (.getfield 7, 3) := by decide +kernel
theorem dX9_firstOf_23 : decode cX9_firstOf 23 = .ok (.aload_n 0, 1) := by decide +kernel
theorem dX9_firstOf_24 : decode cX9_firstOf 24 = .ok (.aload_n 0, 1) := by decide +kernel
theorem dX9_firstOf_25 : decode cX9_firstOf 25 = .ok (.getfield 23, 3) := by decide +kernel
theorem dX9_firstOf_28 : decode cX9_firstOf 28 = .ok (.iload_n 2, 1) := by decide +kernel
theorem dX9_firstOf_29 : decode cX9_firstOf 29 = .ok (.iaload, 1) := by decide +kernel
theorem dX9_firstOf_30 : decode cX9_firstOf 30 = .ok (.invokevirtual 160, 3) := by decide +kernel
theorem dX9_firstOf_33 : decode cX9_firstOf 33 = .ok (.iaload, 1) := by decide +kernel
theorem dX9_firstOf_34 : decode cX9_firstOf 34 = .ok (.iload_n 1, 1) := by decide +kernel
theorem dX9_firstOf_35 : decode cX9_firstOf 35 = .ok (.if_icmp .ne 5, 3) := by decide +kernel
theorem dX9_firstOf_38 : decode cX9_firstOf 38 = .ok (.iload_n 2, 1) := by decide +kernel
theorem dX9_firstOf_39 : decode cX9_firstOf 39 = .ok (.ireturn, 1) := by decide +kernel
theorem dX9_firstOf_40 : decode cX9_firstOf 40 = .ok (.iinc 2 1, 3) := by decide +kernel
theorem dX9_firstOf_43 : decode cX9_firstOf 43 = .ok (.goto (-41), 3) := by decide +kernel
theorem dX9_firstOf_46 : decode cX9_firstOf 46 = .ok (.bipush (-106), 2) := by decide +kernel
theorem dX9_firstOf_48 : decode cX9_firstOf 48 = .ok (.ireturn, 1) := by decide +kernel
theorem dX9_step_0 : decode cX9_step 0 = .ok (.iload_n 1, 1) := by decide +kernel
theorem dX9_step_1 : decode cX9_step 1 = .ok (.i2l, 1) := by decide +kernel
theorem dX9_step_2 : decode cX9_step 2 = .ok (.lconst 0, 1) := by decide +kernel
theorem dX9_step_3 : decode cX9_step 3 = .ok (.aload_n 0, 1) := by decide +kernel
theorem dX9_step_4 : decode cX9_step 4 = .ok (.getfield 140, 3) := by decide +kernel
theorem dX9_step_7 : decode cX9_step 7 = .ok (.iconst 1, 1) := by decide +kernel
theorem dX9_step_8 : decode cX9_step 8 = .ok (.isub, 1) := by decide +kernel
theorem dX9_step_9 : decode cX9_step 9 = .ok (.i2l, 1) := by decide +kernel
theorem dX9_step_10 : decode cX9_step 10 = .ok (.invokestatic 147, 3) := by decide +kernel
theorem dX9_step_13 : decode cX9_step 13 = .ok (.ifCond .ne 6, 3) := by decide +kernel
theorem dX9_step_16 : decode cX9_step 16 = .ok (.bipush (-101), 2) := by decide +kernel
theorem dX9_step_18 : decode cX9_step 18 = .ok (.ireturn, 1) := by decide +kernel
theorem dX9_step_19 : decode cX9_step 19 = .ok (.aload_n 0, 1) := by decide +kernel
theorem dX9_step_20 : decode cX9_step 20 = .ok (.iload_n 1, 1) := by decide +kernel
theorem dX9_step_21 : decode cX9_step 21 = .ok (.invokevirtual 168, 3) := by decide +kernel
theorem dX9_step_24 : decode cX9_step 24 = .ok (.istore_n 2, 1) := by decide +kernel
theorem dX9_step_25 : decode cX9_step 25 = .ok (.iload_n 2, 1) := by decide +kernel
theorem dX9_step_26 : decode cX9_step 26 = .ok (.ifCond .ge 6, 3) := by decide +kernel
theorem dX9_step_29 : decode cX9_step 29 = .ok (.bipush (-106), 2) := by decide +kernel
theorem dX9_step_31 : decode cX9_step 31 = .ok (.ireturn, 1) := by decide +kernel
theorem dX9_step_32 : decode cX9_step 32 = .ok (.aload_n 0, 1) := by decide +kernel
theorem dX9_step_33 : decode cX9_step 33 = .ok (.getfield 23, 3) := by decide +kernel
theorem dX9_step_36 : decode cX9_step 36 = .ok (.iload_n 2, 1) := by decide +kernel
theorem dX9_step_37 : decode cX9_step 37 = .ok (.iaload, 1) := by decide +kernel
theorem dX9_step_38 : decode cX9_step 38 = .ok (.istore_n 3, 1) := by decide +kernel
theorem dX9_step_39 : decode cX9_step 39 = .ok (.aload_n 0, 1) := by decide +kernel
theorem dX9_step_40 : decode cX9_step 40 = .ok (.getfield 29, 3) := by decide +kernel
theorem dX9_step_43 : decode cX9_step 43 = .ok (.iload_n 2, 1) := by decide +kernel
theorem dX9_step_44 : decode cX9_step 44 = .ok (.iconst 0, 1) := by decide +kernel
theorem dX9_step_45 : decode cX9_step 45 = .ok (.bastore, 1) := by decide +kernel
theorem dX9_step_46 : decode cX9_step 46 = .ok (.aload_n 0, 1) := by decide +kernel
theorem dX9_step_47 : decode cX9_step 47 = .ok (.getfield 32, 3) := by decide +kernel
theorem dX9_step_50 : decode cX9_step 50 = .ok (.iload_n 3, 1) := by decide +kernel
theorem dX9_step_51 : decode cX9_step 51 = .ok (.dup2, 1) := by decide +kernel
theorem dX9_step_52 : decode cX9_step 52 = .ok (.iaload, 1) := by decide +kernel
theorem dX9_step_53 : decode cX9_step 53 = .ok (.iconst 1, 1) := by decide +kernel
theorem dX9_step_54 : decode cX9_step 54 = .ok (.iadd, 1) := by decide +kernel
theorem dX9_step_55 : decode cX9_step 55 = .ok (.iastore, 1) := by decide +kernel
theorem dX9_step_56 : decode cX9_step 56 = .ok (.aload_n 0, 1) := by decide +kernel
theorem dX9_step_57 : decode cX9_step 57 = .ok (.getfield 35, 3) := by decide +kernel
theorem dX9_step_60 : decode cX9_step 60 = .ok (.iload_n 3, 1) := by decide +kernel
theorem dX9_step_61 : decode cX9_step 61 = .ok (.dup2, 1) := by decide +kernel
theorem dX9_step_62 : decode cX9_step 62 = .ok (.laload, 1) := by decide +kernel
theorem dX9_step_63 : decode cX9_step 63 = .ok (.aload_n 0, 1) := by decide +kernel
theorem dX9_step_64 : decode cX9_step 64 = .ok (.getfield 26, 3) := by decide +kernel
theorem dX9_step_67 : decode cX9_step 67 = .ok (.iload_n 2, 1) := by decide +kernel
theorem dX9_step_68 : decode cX9_step 68 = .ok (.iaload, 1) := by decide +kernel
theorem dX9_step_69 : decode cX9_step 69 = .ok (.i2l, 1) := by decide +kernel
theorem dX9_step_70 : decode cX9_step 70 = .ok (.ladd, 1) := by decide +kernel
theorem dX9_step_71 : decode cX9_step 71 = .ok (.lastore, 1) := by decide +kernel
theorem dX9_step_72 : decode cX9_step 72 = .ok (.aload_n 0, 1) := by decide +kernel
theorem dX9_step_73 : decode cX9_step 73 = .ok (.getfield 39, 3) := by decide +kernel
theorem dX9_step_76 : decode cX9_step 76 = .ok (.aload_n 0, 1) := by decide +kernel
theorem dX9_step_77 : decode cX9_step 77 = .ok (.getfield 112, 3) := by decide +kernel
theorem dX9_step_80 : decode cX9_step 80 = .ok (.iload_n 2, 1) := by decide +kernel
theorem dX9_step_81 : decode cX9_step 81 = .ok (.iastore, 1) := by decide +kernel
theorem dX9_step_82 : decode cX9_step 82 = .ok (.aload_n 0, 1) := by decide +kernel
theorem dX9_step_83 : decode cX9_step 83 = .ok (.getfield 42, 3) := by decide +kernel
theorem dX9_step_86 : decode cX9_step 86 = .ok (.aload_n 0, 1) := by decide +kernel
theorem dX9_step_87 : decode cX9_step 87 = .ok (.getfield 112, 3) := by decide +kernel
theorem dX9_step_90 : decode cX9_step 90 = .ok (.iload_n 3, 1) := by decide +kernel
theorem dX9_step_91 : decode cX9_step 91 = .ok (.iastore, 1) := by decide +kernel
theorem dX9_step_92 : decode cX9_step 92 = .ok (.aload_n 0, 1) := by decide +kernel
theorem dX9_step_93 : decode cX9_step 93 = .ok (.getfield 45, 3) := by decide +kernel
theorem dX9_step_96 : decode cX9_step 96 = .ok (.aload_n 0, 1) := by decide +kernel
theorem dX9_step_97 : decode cX9_step 97 = .ok (.getfield 112, 3) := by decide +kernel
theorem dX9_step_100 : decode cX9_step 100 = .ok (.aload_n 0, 1) := by decide +kernel
theorem dX9_step_101 : decode cX9_step 101 = .ok (.getfield 35, 3) := by decide +kernel
theorem dX9_step_104 : decode cX9_step 104 = .ok (.iload_n 3, 1) := by decide +kernel
theorem dX9_step_105 : decode cX9_step 105 = .ok (.laload, 1) := by decide +kernel
theorem dX9_step_106 : decode cX9_step 106 = .ok (.lastore, 1) := by decide +kernel
theorem dX9_step_107 : decode cX9_step 107 = .ok (.aload_n 0, 1) := by decide +kernel
theorem dX9_step_108 : decode cX9_step 108 = .ok (.dup, 1) := by decide +kernel
theorem dX9_step_109 : decode cX9_step 109 = .ok (.getfield 112, 3) := by decide +kernel
theorem dX9_step_112 : decode cX9_step 112 = .ok (.iconst 1, 1) := by decide +kernel
theorem dX9_step_113 : decode cX9_step 113 = .ok (.iadd, 1) := by decide +kernel
theorem dX9_step_114 : decode cX9_step 114 = .ok (.putfield 112, 3) := by decide +kernel
theorem dX9_step_117 : decode cX9_step 117 = .ok (.iload_n 3, 1) := by decide +kernel
theorem dX9_step_118 : decode cX9_step 118 = .ok (.ireturn, 1) := by decide +kernel
theorem dX9_add_0 : decode cX9_add 0 = .ok (.iload_n 1, 1) := by decide +kernel
theorem dX9_add_1 : decode cX9_add 1 = .ok (.invokestatic 156, 3) := by decide +kernel
theorem dX9_add_4 : decode cX9_add 4 = .ok (.ifCond .eq 6, 3) := by decide +kernel
theorem dX9_add_7 : decode cX9_add 7 = .ok (.bipush (-101), 2) := by decide +kernel
theorem dX9_add_9 : decode cX9_add 9 = .ok (.ireturn, 1) := by decide +kernel
theorem dX9_add_10 : decode cX9_add 10 = .ok (.iload_n 3, 1) := by decide +kernel
theorem dX9_add_11 : decode cX9_add 11 = .ok (.i2l, 1) := by decide +kernel
theorem dX9_add_12 : decode cX9_add 12 = .ok (.ldc2_w 164, 3) := by decide +kernel
theorem dX9_add_15 : decode cX9_add 15 = .ok (.ldc2_w 166, 3) := by decide +kernel
theorem dX9_add_18 : decode cX9_add 18 = .ok (.invokestatic 147, 3) := by decide +kernel
theorem dX9_add_21 : decode cX9_add 21 = .ok (.ifCond .ne 6, 3) := by decide +kernel
theorem dX9_add_24 : decode cX9_add 24 = .ok (.bipush (-102), 2) := by decide +kernel
theorem dX9_add_26 : decode cX9_add 26 = .ok (.ireturn, 1) := by decide +kernel
theorem dX9_add_27 : decode cX9_add 27 = .ok (.aload_n 0, 1) := by decide +kernel
theorem dX9_add_28 : decode cX9_add 28 = .ok (.getfield 13, 3) := by decide +kernel
theorem dX9_add_31 : decode cX9_add 31 = .ok (.aload_n 0, 1) := by decide +kernel
theorem dX9_add_32 : decode cX9_add 32 = .ok (.iload_n 1, 1) := by decide +kernel
theorem dX9_add_33 : decode cX9_add 33 = .ok (.invokevirtual 160, 3) := by decide +kernel
theorem dX9_add_36 : decode cX9_add 36 = .ok (.iaload, 1) := by decide +kernel
theorem dX9_add_37 : decode cX9_add 37 = .ok (.iload_n 2, 1) := by decide +kernel
theorem dX9_add_38 : decode cX9_add 38 = .ok (.if_icmp .eq 6, 3) := by decide +kernel
theorem dX9_add_41 : decode cX9_add 41 = .ok (.bipush (-104), 2) := by decide +kernel
theorem dX9_add_43 : decode cX9_add 43 = .ok (.ireturn, 1) := by decide +kernel
theorem dX9_add_44 : decode cX9_add 44 = .ok (.aload_n 0, 1) := by decide +kernel
theorem dX9_add_45 : decode cX9_add 45 = .ok (.getfield 35, 3) := by decide +kernel
theorem dX9_add_48 : decode cX9_add 48 = .ok (.iload_n 1, 1) := by decide +kernel
theorem dX9_add_49 : decode cX9_add 49 = .ok (.dup2, 1) := by decide +kernel
theorem dX9_add_50 : decode cX9_add 50 = .ok (.laload, 1) := by decide +kernel
theorem dX9_add_51 : decode cX9_add 51 = .ok (.iload_n 3, 1) := by decide +kernel
theorem dX9_add_52 : decode cX9_add 52 = .ok (.i2l, 1) := by decide +kernel
theorem dX9_add_53 : decode cX9_add 53 = .ok (.ladd, 1) := by decide +kernel
theorem dX9_add_54 : decode cX9_add 54 = .ok (.lastore, 1) := by decide +kernel
theorem dX9_add_55 : decode cX9_add 55 = .ok (.iconst 1, 1) := by decide +kernel
theorem dX9_add_56 : decode cX9_add 56 = .ok (.ireturn, 1) := by decide +kernel
theorem dX9_planEven_0 : decode cX9_planEven 0 = .ok (.iconst 0, 1) := by decide +kernel
theorem dX9_planEven_1 : decode cX9_planEven 1 = .ok (.istore_n 2, 1) := by decide +kernel
theorem dX9_planEven_2 : decode cX9_planEven 2 = .ok (.iload_n 2, 1) := by decide +kernel
theorem dX9_planEven_3 : decode cX9_planEven 3 = .ok (.iload_n 1, 1) := by decide +kernel
theorem dX9_planEven_4 : decode cX9_planEven 4 = .ok (.if_icmp .ge 45, 3) := by decide +kernel
theorem dX9_planEven_7 : decode cX9_planEven 7 = .ok (.iload_n 2, 1) := by decide +kernel
theorem dX9_planEven_8 : decode cX9_planEven 8 = .ok (.aload_n 0, 1) := by decide +kernel
theorem dX9_planEven_9 : decode cX9_planEven 9 = .ok (.getfield 134, 3) := by decide +kernel
theorem dX9_planEven_12 : decode cX9_planEven 12 = .ok (.imul, 1) := by decide +kernel
theorem dX9_planEven_13 : decode cX9_planEven 13 = .ok (.iload_n 1, 1) := by decide +kernel
theorem dX9_planEven_14 : decode cX9_planEven 14 = .ok (.idiv, 1) := by decide +kernel
theorem dX9_planEven_15 : decode cX9_planEven 15 = .ok (.istore_n 3, 1) := by decide +kernel
theorem dX9_planEven_16 : decode cX9_planEven 16 = .ok (.iload_n 3, 1) := by decide +kernel
theorem dX9_planEven_17 : decode cX9_planEven 17 = .ok (.iload_n 2, 1) := by decide +kernel
theorem dX9_planEven_18 : decode cX9_planEven 18 = .ok (.iconst 1, 1) := by decide +kernel
theorem dX9_planEven_19 : decode cX9_planEven 19 = .ok (.iadd, 1) := by decide +kernel
theorem dX9_planEven_20 : decode cX9_planEven 20 = .ok (.aload_n 0, 1) := by decide +kernel
theorem dX9_planEven_21 : decode cX9_planEven 21 = .ok (.getfield 134, 3) := by decide +kernel
theorem dX9_planEven_24 : decode cX9_planEven 24 = .ok (.imul, 1) := by decide +kernel
theorem dX9_planEven_25 : decode cX9_planEven 25 = .ok (.iload_n 1, 1) := by decide +kernel
theorem dX9_planEven_26 : decode cX9_planEven 26 = .ok (.idiv, 1) := by decide +kernel
theorem dX9_planEven_27 : decode cX9_planEven 27 = .ok (.if_icmp .ge 16, 3) := by decide +kernel
theorem dX9_planEven_30 : decode cX9_planEven 30 = .ok (.aload_n 0, 1) := by decide +kernel
theorem dX9_planEven_31 : decode cX9_planEven 31 = .ok (.getfield 96, 3) := by decide +kernel
theorem dX9_planEven_34 : decode cX9_planEven 34 = .ok (.iload_n 3, 1) := by decide +kernel
theorem dX9_planEven_35 : decode cX9_planEven 35 = .ok (.iload_n 2, 1) := by decide +kernel
theorem dX9_planEven_36 : decode cX9_planEven 36 = .ok (.iastore, 1) := by decide +kernel
theorem dX9_planEven_37 : decode cX9_planEven 37 = .ok (.iinc 3 1, 3) := by decide +kernel
theorem dX9_planEven_40 : decode cX9_planEven 40 = .ok (.goto (-24), 3) := by decide +kernel
theorem dX9_planEven_43 : decode cX9_planEven 43 = .ok (.iinc 2 1, 3) := by decide +kernel
theorem dX9_planEven_46 : decode cX9_planEven 46 = .ok (.goto (-44), 3) := by decide +kernel
theorem dX9_planEven_49 : decode cX9_planEven 49 = .ok (.return_, 1) := by decide +kernel
theorem dX9_total_0 : decode cX9_total 0 = .ok (.iconst 0, 1) := by decide +kernel
theorem dX9_total_1 : decode cX9_total 1 = .ok (.istore_n 1, 1) := by decide +kernel
theorem dX9_total_2 : decode cX9_total 2 = .ok (.iconst 0, 1) := by decide +kernel
theorem dX9_total_3 : decode cX9_total 3 = .ok (.istore_n 2, 1) := by decide +kernel
theorem dX9_total_4 : decode cX9_total 4 = .ok (.iload_n 2, 1) := by decide +kernel
theorem dX9_total_5 : decode cX9_total 5 = .ok (.aload_n 0, 1) := by decide +kernel
theorem dX9_total_6 : decode cX9_total 6 = .ok (.getfield 134, 3) := by decide +kernel
theorem dX9_total_9 : decode cX9_total 9 = .ok (.if_icmp .ge 18, 3) := by decide +kernel
theorem dX9_total_12 : decode cX9_total 12 = .ok (.iload_n 1, 1) := by decide +kernel
theorem dX9_total_13 : decode cX9_total 13 = .ok (.aload_n 0, 1) := by decide +kernel
theorem dX9_total_14 : decode cX9_total 14 = .ok (.getfield 16, 3) := by decide +kernel
theorem dX9_total_17 : decode cX9_total 17 = .ok (.iload_n 2, 1) := by decide +kernel
theorem dX9_total_18 : decode cX9_total 18 = .ok (.iaload, 1) := by decide +kernel
theorem dX9_total_19 : decode cX9_total 19 = .ok (.iadd, 1) := by decide +kernel
theorem dX9_total_20 : decode cX9_total 20 = .ok (.istore_n 1, 1) := by decide +kernel
theorem dX9_total_21 : decode cX9_total 21 = .ok (.iinc 2 1, 3) := by decide +kernel
theorem dX9_total_24 : decode cX9_total 24 = .ok (.goto (-20), 3) := by decide +kernel
theorem dX9_total_27 : decode cX9_total 27 = .ok (.iload_n 1, 1) := by decide +kernel
theorem dX9_total_28 : decode cX9_total 28 = .ok (.ireturn, 1) := by decide +kernel
theorem dX9_movedOf_0 : decode cX9_movedOf 0 = .ok (.lconst 0, 1) := by decide +kernel
theorem dX9_movedOf_1 : decode cX9_movedOf 1 = .ok (.lstore 4, 2) := by decide +kernel
theorem dX9_movedOf_3 : decode cX9_movedOf 3 = .ok (.iload_n 2, 1) := by decide +kernel
theorem dX9_movedOf_4 : decode cX9_movedOf 4 = .ok (.istore 6, 2) := by decide +kernel
theorem dX9_movedOf_6 : decode cX9_movedOf 6 = .ok (.iload 6, 2) := by decide +kernel
theorem dX9_movedOf_8 : decode cX9_movedOf 8 = .ok (.iload_n 3, 1) := by decide +kernel
theorem dX9_movedOf_9 : decode cX9_movedOf 9 = .ok (.if_icmp .ge 39, 3) := by decide +kernel
theorem dX9_movedOf_12 : decode cX9_movedOf 12 = .ok (.lload 4, 2) := by decide +kernel
theorem dX9_movedOf_14 : decode cX9_movedOf 14 = .ok (.aload_n 0, 1) := by decide +kernel
theorem dX9_movedOf_15 : decode cX9_movedOf 15 = .ok (.getfield 7, 3) := by decide +kernel
theorem dX9_movedOf_18 : decode cX9_movedOf 18 = .ok (.iload 6, 2) := by decide +kernel
theorem dX9_movedOf_20 : decode cX9_movedOf 20 = .ok (.iaload, 1) := by decide +kernel
theorem dX9_movedOf_21 : decode cX9_movedOf 21 = .ok (.iload_n 1, 1) := by decide +kernel
theorem dX9_movedOf_22 : decode cX9_movedOf 22 = .ok (.if_icmp .ne 7, 3) := by decide +kernel
theorem dX9_movedOf_25 : decode cX9_movedOf 25 = .ok (.lconst 0, 1) := by decide +kernel
theorem dX9_movedOf_26 : decode cX9_movedOf 26 = .ok (.goto 13, 3) := by decide +kernel
theorem dX9_movedOf_29 : decode cX9_movedOf 29 = .ok (.aload_n 0, 1) := by decide +kernel
theorem dX9_movedOf_30 : decode cX9_movedOf 30 = .ok (.getfield 16, 3) := by decide +kernel
theorem dX9_movedOf_33 : decode cX9_movedOf 33 = .ok (.iload 6, 2) := by decide +kernel
theorem dX9_movedOf_35 : decode cX9_movedOf 35 = .ok (.iaload, 1) := by decide +kernel
theorem dX9_movedOf_36 : decode cX9_movedOf 36 = .ok (.iconst 1, 1) := by decide +kernel
theorem dX9_movedOf_37 : decode cX9_movedOf 37 = .ok (.iadd, 1) := by decide +kernel
theorem dX9_movedOf_38 : decode cX9_movedOf 38 = .ok (.i2l, 1) := by decide +kernel
theorem dX9_movedOf_39 : decode cX9_movedOf 39 = .ok (.ladd, 1) := by decide +kernel
theorem dX9_movedOf_40 : decode cX9_movedOf 40 = .ok (.lstore 4, 2) := by decide +kernel
theorem dX9_movedOf_42 : decode cX9_movedOf 42 = .ok (.iinc 6 1, 3) := by decide +kernel
theorem dX9_movedOf_45 : decode cX9_movedOf 45 = .ok (.goto (-39), 3) := by decide +kernel
theorem dX9_movedOf_48 : decode cX9_movedOf 48 = .ok (.lload 4, 2) := by decide +kernel
theorem dX9_movedOf_50 : decode cX9_movedOf 50 = .ok (.lreturn, 1) := by decide +kernel
theorem dX9_weightOf_0 : decode cX9_weightOf 0 = .ok (.iconst 0, 1) := by decide +kernel
theorem dX9_weightOf_1 : decode cX9_weightOf 1 = .ok (.istore_n 3, 1) := by decide +kernel
theorem dX9_weightOf_2 : decode cX9_weightOf 2 = .ok (.iload_n 1, 1) := by decide +kernel
theorem dX9_weightOf_3 : decode cX9_weightOf 3 = .ok (.istore 4, 2) := by decide +kernel
theorem dX9_weightOf_5 : decode cX9_weightOf 5 = .ok (.iload 4, 2) := by decide +kernel
theorem dX9_weightOf_7 : decode cX9_weightOf 7 = .ok (.iload_n 2, 1) := by decide +kernel
theorem dX9_weightOf_8 : decode cX9_weightOf 8 = .ok (.if_icmp .ge 19, 3) := by decide +kernel
theorem dX9_weightOf_11 : decode cX9_weightOf 11 = .ok (.iload_n 3, 1) := by decide +kernel
theorem dX9_weightOf_12 : decode cX9_weightOf 12 = .ok (.aload_n 0, 1) := by decide +kernel
theorem dX9_weightOf_13 : decode cX9_weightOf 13 = .ok (.getfield 16, 3) := by decide +kernel
theorem dX9_weightOf_16 : decode cX9_weightOf 16 = .ok (.iload 4, 2) := by decide +kernel
theorem dX9_weightOf_18 : decode cX9_weightOf 18 = .ok (.iaload, 1) := by decide +kernel
theorem dX9_weightOf_19 : decode cX9_weightOf 19 = .ok (.iadd, 1) := by decide +kernel
theorem dX9_weightOf_20 : decode cX9_weightOf 20 = .ok (.istore_n 3, 1) := by decide +kernel
theorem dX9_weightOf_21 : decode cX9_weightOf 21 = .ok (.iinc 4 1, 3) := by decide +kernel
theorem dX9_weightOf_24 : decode cX9_weightOf 24 = .ok (.goto (-19), 3) := by decide +kernel
theorem dX9_weightOf_27 : decode cX9_weightOf 27 = .ok (.iload_n 3, 1) := by decide +kernel
theorem dX9_weightOf_28 : decode cX9_weightOf 28 = .ok (.ireturn, 1) := by decide +kernel
theorem dX9_limit_0 : decode cX9_limit 0 = .ok (.bipush 100, 2) := by decide +kernel
theorem dX9_limit_2 : decode cX9_limit 2 = .ok (.iload_n 1, 1) := by decide +kernel
theorem dX9_limit_3 : decode cX9_limit 3 = .ok (.imul, 1) := by decide +kernel
theorem dX9_limit_4 : decode cX9_limit 4 = .ok (.istore_n 2, 1) := by decide +kernel
theorem dX9_limit_5 : decode cX9_limit 5 = .ok (.aload_n 0, 1) := by decide +kernel
theorem dX9_limit_6 : decode cX9_limit 6 = .ok (.invokevirtual 171, 3) := by decide +kernel
theorem dX9_limit_9 : decode cX9_limit 9 = .ok (.bipush 100, 2) := by decide +kernel
theorem dX9_limit_11 : decode cX9_limit 11 = .ok (.aload_n 0, 1) := by decide +kernel
theorem dX9_limit_12 : decode cX9_limit 12 = .ok (.getfield 105, 3) := by decide +kernel
theorem dX9_limit_15 : decode cX9_limit 15 = .ok (.iadd, 1) := by decide +kernel
theorem dX9_limit_16 : decode cX9_limit 16 = .ok (.imul, 1) := by decide +kernel
theorem dX9_limit_17 : decode cX9_limit 17 = .ok (.iload_n 2, 1) := by decide +kernel
theorem dX9_limit_18 : decode cX9_limit 18 = .ok (.iadd, 1) := by decide +kernel
theorem dX9_limit_19 : decode cX9_limit 19 = .ok (.iconst 1, 1) := by decide +kernel
theorem dX9_limit_20 : decode cX9_limit 20 = .ok (.isub, 1) := by decide +kernel
theorem dX9_limit_21 : decode cX9_limit 21 = .ok (.iload_n 2, 1) := by decide +kernel
theorem dX9_limit_22 : decode cX9_limit 22 = .ok (.idiv, 1) := by decide +kernel
theorem dX9_limit_23 : decode cX9_limit 23 = .ok (.ireturn, 1) := by decide +kernel
theorem dX9_tryRange_0 : decode cX9_tryRange 0 = .ok (.aload_n 0, 1) := by decide +kernel
theorem dX9_tryRange_1 : decode cX9_tryRange 1 = .ok (.getfield 99, 3) := by decide +kernel
theorem dX9_tryRange_4 : decode cX9_tryRange 4 = .ok (.bipush 33, 2) := by decide +kernel
theorem dX9_tryRange_6 : decode cX9_tryRange 6 = .ok (.iload_n 1, 1) := by decide +kernel
theorem dX9_tryRange_7 : decode cX9_tryRange 7 = .ok (.iconst 1, 1) := by decide +kernel
theorem dX9_tryRange_8 : decode cX9_tryRange 8 = .ok (.iadd, 1) := by decide +kernel
theorem dX9_tryRange_9 : decode cX9_tryRange 9 = .ok (.imul, 1) := by decide +kernel
theorem dX9_tryRange_10 : decode cX9_tryRange 10 = .ok (.iload_n 3, 1) := by decide +kernel
theorem dX9_tryRange_11 : decode cX9_tryRange 11 = .ok (.iadd, 1) := by decide +kernel
theorem dX9_tryRange_12 : decode cX9_tryRange 12 = .ok (.laload, 1) := by decide +kernel
theorem dX9_tryRange_13 : decode cX9_tryRange 13 = .ok (.lstore 5, 2) := by decide +kernel
theorem dX9_tryRange_15 : decode cX9_tryRange 15 = .ok (.lload 5, 2) := by decide +kernel
theorem dX9_tryRange_17 : decode cX9_tryRange 17 = .ok (.lconst 0, 1) := by decide +kernel
theorem dX9_tryRange_18 : decode cX9_tryRange 18 = .ok (.lcmp, 1) := by decide +kernel
theorem dX9_tryRange_19 : decode cX9_tryRange 19 = .ok (.ifCond .lt 14, 3) := by decide +kernel
theorem dX9_tryRange_22 : decode cX9_tryRange 22 = .ok (.aload_n 0, 1) := by decide +kernel
theorem dX9_tryRange_23 : decode cX9_tryRange 23 = .ok (.iload_n 2, 1) := by decide +kernel
theorem dX9_tryRange_24 : decode cX9_tryRange 24 = .ok (.iload_n 3, 1) := by decide +kernel
theorem dX9_tryRange_25 : decode cX9_tryRange 25 = .ok (.invokevirtual 175, 3) := by decide +kernel
theorem dX9_tryRange_28 : decode cX9_tryRange 28 = .ok (.iload 4, 2) := by decide +kernel
theorem dX9_tryRange_30 : decode cX9_tryRange 30 = .ok (.if_icmp .le 9, 3) := by decide +kernel
theorem dX9_tryRange_33 : decode cX9_tryRange 33 = .ok (.ldc2_w 179, 3) := by decide +kernel
theorem dX9_tryRange_36 : decode cX9_tryRange 36 = .ok (.goto 13, 3) := by decide +kernel
theorem dX9_tryRange_39 : decode cX9_tryRange 39 = .ok (.lload 5, 2) := by decide +kernel
theorem dX9_tryRange_41 : decode cX9_tryRange 41 = .ok (.aload_n 0, 1) := by decide +kernel
theorem dX9_tryRange_42 : decode cX9_tryRange 42 = .ok (.iload_n 1, 1) := by decide +kernel
theorem dX9_tryRange_43 : decode cX9_tryRange 43 = .ok (.iload_n 2, 1) := by decide +kernel
theorem dX9_tryRange_44 : decode cX9_tryRange 44 = .ok (.iload_n 3, 1) := by decide +kernel
theorem dX9_tryRange_45 : decode cX9_tryRange 45 = .ok (.invokevirtual 181, 3) := by decide +kernel
theorem dX9_tryRange_48 : decode cX9_tryRange 48 = .ok (.ladd, 1) := by decide +kernel
theorem dX9_tryRange_49 : decode cX9_tryRange 49 = .ok (.lreturn, 1) := by decide +kernel
theorem dX9_findLeast_0 : decode cX9_findLeast 0 = .ok (.aload_n 0, 1) := by decide +kernel
theorem dX9_findLeast_1 : decode cX9_findLeast 1 = .ok (.iload_n 1, 1) := by decide +kernel
theorem dX9_findLeast_2 : decode cX9_findLeast 2 = .ok (.invokevirtual 185, 3) := by decide +kernel
theorem dX9_findLeast_5 : decode cX9_findLeast 5 = .ok (.istore_n 2, 1) := by decide +kernel
theorem dX9_findLeast_6 : decode cX9_findLeast 6 = .ok (.iconst 0, 1) := by decide +kernel
theorem dX9_findLeast_7 : decode cX9_findLeast 7 = .ok (.istore_n 3, 1) := by decide +kernel
theorem dX9_findLeast_8 : decode cX9_findLeast 8 = .ok (.iload_n 3, 1) := by decide +kernel
theorem dX9_findLeast_9 : decode cX9_findLeast 9 = .ok (.aload_n 0, 1) := by decide +kernel
theorem dX9_findLeast_10 : decode cX9_findLeast 10 = .ok (.getfield 134, 3) := by decide +kernel
theorem dX9_findLeast_13 : decode cX9_findLeast 13 = .ok (.if_icmp .gt 35, 3) := by decide +kernel
theorem dX9_findLeast_16 : decode cX9_findLeast 16 = .ok (.aload_n 0, 1) := by decide +kernel
theorem dX9_findLeast_17 : decode cX9_findLeast 17 = .ok (.getfield 99, 3) := by decide +kernel
theorem dX9_findLeast_20 : decode cX9_findLeast 20 = .ok (.bipush 33, 2) := by decide +kernel
theorem dX9_findLeast_22 : decode cX9_findLeast 22 = .ok (.iload_n 1, 1) := by decide +kernel
theorem dX9_findLeast_23 : decode cX9_findLeast 23 = .ok (.imul, 1) := by decide +kernel
theorem dX9_findLeast_24 : decode cX9_findLeast 24 = .ok (.iload_n 3, 1) := by decide +kernel
theorem dX9_findLeast_25 : decode cX9_findLeast 25 = .ok (.iadd, 1) := by decide +kernel
theorem dX9_findLeast_26 : decode cX9_findLeast 26 = .ok (.iload_n 3, 1) := by decide +kernel
theorem dX9_findLeast_27 : decode cX9_findLeast 27 = .ok (.aload_n 0, 1) := by decide +kernel
theorem dX9_findLeast_28 : decode cX9_findLeast 28 = .ok (.getfield 134, 3) := by decide +kernel
theorem dX9_findLeast_31 : decode cX9_findLeast 31 = .ok (.if_icmp .ne 7, 3) := by decide +kernel
theorem dX9_findLeast_34 : decode cX9_findLeast 34 = .ok (.lconst 0, 1) := by decide +kernel
theorem dX9_findLeast_35 : decode cX9_findLeast 35 = .ok (.goto 6, 3) := by decide +kernel
theorem dX9_findLeast_38 : decode cX9_findLeast 38 = .ok (.ldc2_w 179, 3) := by decide +kernel
theorem dX9_findLeast_41 : decode cX9_findLeast 41 = .ok (.lastore, 1) := by decide +kernel
theorem dX9_findLeast_42 : decode cX9_findLeast 42 = .ok (.iinc 3 1, 3) := by decide +kernel
theorem dX9_findLeast_45 : decode cX9_findLeast 45 = .ok (.goto (-37), 3) := by decide +kernel
theorem dX9_findLeast_48 : decode cX9_findLeast 48 = .ok (.iload_n 1, 1) := by decide +kernel
theorem dX9_findLeast_49 : decode cX9_findLeast 49 = .ok (.iconst 1, 1) := by decide +kernel
theorem dX9_findLeast_50 : decode cX9_findLeast 50 = .ok (.isub, 1) := by decide +kernel
theorem dX9_findLeast_51 : decode cX9_findLeast 51 = .ok (.istore_n 3, 1) := by decide +kernel
theorem dX9_findLeast_52 : decode cX9_findLeast 52 = .ok (.iload_n 3, 1) := by decide +kernel
theorem dX9_findLeast_53 : decode cX9_findLeast 53 = .ok (.ifCond .lt 110, 3) := by decide +kernel
theorem dX9_findLeast_56 : decode cX9_findLeast 56 = .ok (.iconst 0, 1) := by decide +kernel
theorem dX9_findLeast_57 : decode cX9_findLeast 57 = .ok (.istore 4, 2) := by decide +kernel
theorem dX9_findLeast_59 : decode cX9_findLeast 59 = .ok (.iload 4, 2) := by decide +kernel
theorem dX9_findLeast_61 : decode cX9_findLeast 61 = .ok (.aload_n 0, 1) := by decide +kernel
theorem dX9_findLeast_62 : decode cX9_findLeast 62 = .ok (.getfield 134, 3) := by decide +kernel
theorem dX9_findLeast_65 : decode cX9_findLeast 65 = .ok (.if_icmp .gt 92, 3) := by decide +kernel
theorem dX9_findLeast_68 : decode cX9_findLeast 68 = .ok (.ldc2_w 179, 3) := by decide +kernel
theorem dX9_findLeast_71 : decode cX9_findLeast 71 = .ok (.lstore 5, 2) := by decide +kernel
theorem dX9_findLeast_73 : decode cX9_findLeast 73 = .ok (.iload 4, 2) := by decide +kernel
theorem dX9_findLeast_75 : decode cX9_findLeast 75 = .ok (.iconst 1, 1) := by decide +kernel
theorem dX9_findLeast_76 : decode cX9_findLeast 76 = .ok (.iadd, 1) := by decide +kernel
theorem dX9_findLeast_77 : decode cX9_findLeast 77 = .ok (.istore 7, 2) := by decide +kernel
theorem dX9_findLeast_79 : decode cX9_findLeast 79 = .ok (.iload 7, 2) := by decide +kernel
theorem dX9_findLeast_81 : decode cX9_findLeast 81 = .ok (.aload_n 0, 1) := by decide +kernel
theorem dX9_findLeast_82 : decode cX9_findLeast 82 = .ok (.getfield 134, 3) := by decide +kernel
theorem dX9_findLeast_85 : decode cX9_findLeast 85 = .ok (.if_icmp .gt 52, 3) := by decide +kernel
theorem dX9_findLeast_88 : decode cX9_findLeast 88 = .ok (.aload_n 0, 1) := by decide +kernel
theorem dX9_findLeast_89 : decode cX9_findLeast 89 = .ok (.iload_n 3, 1) := by decide +kernel
theorem dX9_findLeast_90 : decode cX9_findLeast 90 = .ok (.iload 4, 2) := by decide +kernel
theorem dX9_findLeast_92 : decode cX9_findLeast 92 = .ok (.iload 7, 2) := by decide +kernel
theorem dX9_findLeast_94 : decode cX9_findLeast 94 = .ok (.iload_n 2, 1) := by decide +kernel
theorem dX9_findLeast_95 : decode cX9_findLeast 95 = .ok (.invokevirtual 188, 3) := by decide +kernel
theorem dX9_findLeast_98 : decode cX9_findLeast 98 = .ok (.lstore 8, 2) := by decide +kernel
theorem dX9_findLeast_100 : decode cX9_findLeast 100 = .ok (.lload 8, 2) := by decide +kernel
theorem dX9_findLeast_102 : decode cX9_findLeast 102 = .ok (.lconst 0, 1) := by decide +kernel
theorem dX9_findLeast_103 : decode cX9_findLeast 103 = .ok (.lcmp, 1) := by decide +kernel
theorem dX9_findLeast_104 : decode cX9_findLeast 104 = .ok (.ifCond .lt 23, 3) := by decide +kernel
theorem dX9_findLeast_107 : decode cX9_findLeast 107 = .ok (.lload 5, 2) := by decide +kernel
theorem dX9_findLeast_109 : decode cX9_findLeast 109 = .ok (.lconst 0, 1) := by decide +kernel
theorem dX9_findLeast_110 : decode cX9_findLeast 110 = .ok (.lcmp, 1) := by decide +kernel
theorem dX9_findLeast_111 : decode cX9_findLeast 111 = .ok (.ifCond .lt 11, 3) := by decide +kernel
theorem dX9_findLeast_114 : decode cX9_findLeast 114 = .ok (.lload 8, 2) := by decide +kernel
theorem dX9_findLeast_116 : decode cX9_findLeast 116 = .ok (.lload 5, 2) := by decide +kernel
theorem dX9_findLeast_118 : decode cX9_findLeast 118 = .ok (.lcmp, 1) := by decide +kernel
theorem dX9_findLeast_119 : decode cX9_findLeast 119 = .ok (.ifCond .ge 8, 3) := by decide +kernel
theorem dX9_findLeast_122 : decode cX9_findLeast 122 = .ok (.lload 8, 2) := by decide +kernel
theorem dX9_findLeast_124 : decode cX9_findLeast 124 = .ok (.goto 5, 3) := by decide +kernel
theorem dX9_findLeast_127 : decode cX9_findLeast 127 = .ok (.lload 5, 2) := by decide +kernel
theorem dX9_findLeast_129 : decode cX9_findLeast 129 = .ok (.lstore 5, 2) := by decide +kernel
theorem dX9_findLeast_131 : decode cX9_findLeast 131 = .ok (.iinc 7 1, 3) := by decide +kernel
theorem dX9_findLeast_134 : decode cX9_findLeast 134 = .ok (.goto (-55), 3) := by decide +kernel
theorem dX9_findLeast_137 : decode cX9_findLeast 137 = .ok (.aload_n 0, 1) := by decide +kernel
theorem dX9_findLeast_138 : decode cX9_findLeast 138 = .ok (.getfield 99, 3) := by decide +kernel
theorem dX9_findLeast_141 : decode cX9_findLeast 141 = .ok (.bipush 33, 2) := by decide +kernel
theorem dX9_findLeast_143 : decode cX9_findLeast 143 = .ok (.iload_n 3, 1) := by decide +kernel
theorem dX9_findLeast_144 : decode cX9_findLeast 144 = .ok (.imul, 1) := by decide +kernel
theorem dX9_findLeast_145 : decode cX9_findLeast 145 = .ok (.iload 4, 2) := by decide +kernel
theorem dX9_findLeast_147 : decode cX9_findLeast 147 = .ok (.iadd, 1) := by decide +kernel
theorem dX9_findLeast_148 : decode cX9_findLeast 148 = .ok (.lload 5, 2) := by decide +kernel
theorem dX9_findLeast_150 : decode cX9_findLeast 150 = .ok (.lastore, 1) := by decide +kernel
theorem dX9_findLeast_151 : decode cX9_findLeast 151 = .ok (.iinc 4 1, 3) := by decide +kernel
theorem dX9_findLeast_154 : decode cX9_findLeast 154 = .ok (.goto (-95), 3) := by decide +kernel
theorem dX9_findLeast_157 : decode cX9_findLeast 157 = .ok (.iinc 3 (-1), 3) := by decide +kernel
theorem dX9_findLeast_160 : decode cX9_findLeast 160 = .ok (.goto (-108), 3) := by decide +kernel
theorem dX9_findLeast_163 : decode cX9_findLeast 163 = .ok (.return_, 1) := by decide +kernel
theorem dX9_planLeast_0 : decode cX9_planLeast 0 = .ok (.aload_n 0, 1) := by decide +kernel
theorem dX9_planLeast_1 : decode cX9_planLeast 1 = .ok (.iload_n 1, 1) := by decide +kernel
theorem dX9_planLeast_2 : decode cX9_planLeast 2 = .ok (.invokevirtual 185, 3) := by decide +kernel
theorem dX9_planLeast_5 : decode cX9_planLeast 5 = .ok (.istore_n 2, 1) := by decide +kernel
theorem dX9_planLeast_6 : decode cX9_planLeast 6 = .ok (.iconst 0, 1) := by decide +kernel
theorem dX9_planLeast_7 : decode cX9_planLeast 7 = .ok (.istore_n 3, 1) := by decide +kernel
theorem dX9_planLeast_8 : decode cX9_planLeast 8 = .ok (.iconst 0, 1) := by decide +kernel
theorem dX9_planLeast_9 : decode cX9_planLeast 9 = .ok (.istore 4, 2) := by decide +kernel
theorem dX9_planLeast_11 : decode cX9_planLeast 11 = .ok (.iload 4, 2) := by decide +kernel
theorem dX9_planLeast_13 : decode cX9_planLeast 13 = .ok (.iload_n 1, 1) := by decide +kernel
theorem dX9_planLeast_14 : decode cX9_planLeast 14 = .ok (.if_icmp .ge 74, 3) := by decide +kernel
theorem dX9_planLeast_17 : decode cX9_planLeast 17 = .ok (.iload_n 3, 1) := by decide +kernel
theorem dX9_planLeast_18 : decode cX9_planLeast 18 = .ok (.iconst 1, 1) := by decide +kernel
theorem dX9_planLeast_19 : decode cX9_planLeast 19 = .ok (.iadd, 1) := by decide +kernel
theorem dX9_planLeast_20 : decode cX9_planLeast 20 = .ok (.istore 5, 2) := by decide +kernel
theorem dX9_planLeast_22 : decode cX9_planLeast 22 = .ok (.aload_n 0, 1) := by decide +kernel
theorem dX9_planLeast_23 : decode cX9_planLeast 23 = .ok (.iload 4, 2) := by decide +kernel
theorem dX9_planLeast_25 : decode cX9_planLeast 25 = .ok (.iload_n 3, 1) := by decide +kernel
theorem dX9_planLeast_26 : decode cX9_planLeast 26 = .ok (.iload 5, 2) := by decide +kernel
theorem dX9_planLeast_28 : decode cX9_planLeast 28 = .ok (.iload_n 2, 1) := by decide +kernel
theorem dX9_planLeast_29 : decode cX9_planLeast 29 = .ok (.invokevirtual 188, 3) := by decide +kernel
theorem dX9_planLeast_32 : decode cX9_planLeast 32 = .ok (.aload_n 0, 1) := by decide +kernel
theorem dX9_planLeast_33 : decode cX9_planLeast 33 = .ok (.getfield 99, 3) := by decide +kernel
theorem dX9_planLeast_36 : decode cX9_planLeast 36 = .ok (.bipush 33, 2) := by decide +kernel
theorem dX9_planLeast_38 : decode cX9_planLeast 38 = .ok (.iload 4, 2) := by decide +kernel
theorem dX9_planLeast_40 : decode cX9_planLeast 40 = .ok (.imul, 1) := by decide +kernel
theorem dX9_planLeast_41 : decode cX9_planLeast 41 = .ok (.iload_n 3, 1) := by decide +kernel
theorem dX9_planLeast_42 : decode cX9_planLeast 42 = .ok (.iadd, 1) := by decide +kernel
theorem dX9_planLeast_43 : decode cX9_planLeast 43 = .ok (.laload, 1) := by decide +kernel
theorem dX9_planLeast_44 : decode cX9_planLeast 44 = .ok (.lcmp, 1) := by decide +kernel
theorem dX9_planLeast_45 : decode cX9_planLeast 45 = .ok (.ifCond .eq 9, 3) := by decide +kernel
theorem dX9_planLeast_48 : decode cX9_planLeast 48 = .ok (.iinc 5 1, 3) := by decide +kernel
theorem dX9_planLeast_51 : decode cX9_planLeast 51 = .ok (.goto (-29), 3) := by decide +kernel
theorem dX9_planLeast_54 : decode cX9_planLeast 54 = .ok (.iload_n 3, 1) := by decide +kernel
theorem dX9_planLeast_55 : decode cX9_planLeast 55 = .ok (.istore 6, 2) := by decide +kernel
theorem dX9_planLeast_57 : decode cX9_planLeast 57 = .ok (.iload 6, 2) := by decide +kernel
theorem dX9_planLeast_59 : decode cX9_planLeast 59 = .ok (.iload 5, 2) := by decide +kernel
theorem dX9_planLeast_61 : decode cX9_planLeast 61 = .ok (.if_icmp .ge 18, 3) := by decide +kernel
theorem dX9_planLeast_64 : decode cX9_planLeast 64 = .ok (.aload_n 0, 1) := by decide +kernel
theorem dX9_planLeast_65 : decode cX9_planLeast 65 = .ok (.getfield 96, 3) := by decide +kernel
theorem dX9_planLeast_68 : decode cX9_planLeast 68 = .ok (.iload 6, 2) := by decide +kernel
theorem dX9_planLeast_70 : decode cX9_planLeast 70 = .ok (.iload 4, 2) := by decide +kernel
theorem dX9_planLeast_72 : decode cX9_planLeast 72 = .ok (.iastore, 1) := by decide +kernel
theorem dX9_planLeast_73 : decode cX9_planLeast 73 = .ok (.iinc 6 1, 3) := by decide +kernel
theorem dX9_planLeast_76 : decode cX9_planLeast 76 = .ok (.goto (-19), 3) := by decide +kernel
theorem dX9_planLeast_79 : decode cX9_planLeast 79 = .ok (.iload 5, 2) := by decide +kernel
theorem dX9_planLeast_81 : decode cX9_planLeast 81 = .ok (.istore_n 3, 1) := by decide +kernel
theorem dX9_planLeast_82 : decode cX9_planLeast 82 = .ok (.iinc 4 1, 3) := by decide +kernel
theorem dX9_planLeast_85 : decode cX9_planLeast 85 = .ok (.goto (-74), 3) := by decide +kernel
theorem dX9_planLeast_88 : decode cX9_planLeast 88 = .ok (.return_, 1) := by decide +kernel
theorem dX9_scale_0 : decode cX9_scale 0 = .ok (.iload_n 1, 1) := by decide +kernel
theorem dX9_scale_1 : decode cX9_scale 1 = .ok (.iconst 1, 1) := by decide +kernel
theorem dX9_scale_2 : decode cX9_scale 2 = .ok (.if_icmp .lt 13, 3) := by decide +kernel
theorem dX9_scale_5 : decode cX9_scale 5 = .ok (.iload_n 2, 1) := by decide +kernel
theorem dX9_scale_6 : decode cX9_scale 6 = .ok (.i2l, 1) := by decide +kernel
theorem dX9_scale_7 : decode cX9_scale 7 = .ok (.lconst 0, 1) := by decide +kernel
theorem dX9_scale_8 : decode cX9_scale 8 = .ok (.lconst 1, 1) := by decide +kernel
theorem dX9_scale_9 : decode cX9_scale 9 = .ok (.invokestatic 147, 3) := by decide +kernel
theorem dX9_scale_12 : decode cX9_scale 12 = .ok (.ifCond .ne 6, 3) := by decide +kernel
theorem dX9_scale_15 : decode cX9_scale 15 = .ok (.bipush (-102), 2) := by decide +kernel
theorem dX9_scale_17 : decode cX9_scale 17 = .ok (.ireturn, 1) := by decide +kernel
theorem dX9_scale_18 : decode cX9_scale 18 = .ok (.iload_n 1, 1) := by decide +kernel
theorem dX9_scale_19 : decode cX9_scale 19 = .ok (.aload_n 0, 1) := by decide +kernel
theorem dX9_scale_20 : decode cX9_scale 20 = .ok (.getfield 137, 3) := by decide +kernel
theorem dX9_scale_23 : decode cX9_scale 23 = .ok (.if_icmp .le 6, 3) := by decide +kernel
theorem dX9_scale_26 : decode cX9_scale 26 = .ok (.bipush (-105), 2) := by decide +kernel
theorem dX9_scale_28 : decode cX9_scale 28 = .ok (.ireturn, 1) := by decide +kernel
theorem dX9_scale_29 : decode cX9_scale 29 = .ok (.iload_n 2, 1) := by decide +kernel
theorem dX9_scale_30 : decode cX9_scale 30 = .ok (.ifCond .ne 11, 3) := by decide +kernel
theorem dX9_scale_33 : decode cX9_scale 33 = .ok (.aload_n 0, 1) := by decide +kernel
theorem dX9_scale_34 : decode cX9_scale 34 = .ok (.iload_n 1, 1) := by decide +kernel
theorem dX9_scale_35 : decode cX9_scale 35 = .ok (.invokevirtual 192, 3) := by decide +kernel
theorem dX9_scale_38 : decode cX9_scale 38 = .ok (.goto 27, 3) := by decide +kernel
theorem dX9_scale_41 : decode cX9_scale 41 = .ok (.aload_n 0, 1) := by decide +kernel
theorem dX9_scale_42 : decode cX9_scale 42 = .ok (.iload_n 1, 1) := by decide +kernel
theorem dX9_scale_43 : decode cX9_scale 43 = .ok (.invokevirtual 196, 3) := by decide +kernel
theorem dX9_scale_46 : decode cX9_scale 46 = .ok (.aload_n 0, 1) := by decide +kernel
theorem dX9_scale_47 : decode cX9_scale 47 = .ok (.getfield 99, 3) := by decide +kernel
theorem dX9_scale_50 : decode cX9_scale 50 = .ok (.iconst 0, 1) := by decide +kernel
theorem dX9_scale_51 : decode cX9_scale 51 = .ok (.laload, 1) := by decide +kernel
theorem dX9_scale_52 : decode cX9_scale 52 = .ok (.lconst 0, 1) := by decide +kernel
theorem dX9_scale_53 : decode cX9_scale 53 = .ok (.lcmp, 1) := by decide +kernel
theorem dX9_scale_54 : decode cX9_scale 54 = .ok (.ifCond .ge 6, 3) := by decide +kernel
theorem dX9_scale_57 : decode cX9_scale 57 = .ok (.bipush (-106), 2) := by decide +kernel
theorem dX9_scale_59 : decode cX9_scale 59 = .ok (.ireturn, 1) := by decide +kernel
theorem dX9_scale_60 : decode cX9_scale 60 = .ok (.aload_n 0, 1) := by decide +kernel
theorem dX9_scale_61 : decode cX9_scale 61 = .ok (.iload_n 1, 1) := by decide +kernel
theorem dX9_scale_62 : decode cX9_scale 62 = .ok (.invokevirtual 199, 3) := by decide +kernel
theorem dX9_scale_65 : decode cX9_scale 65 = .ok (.iconst 0, 1) := by decide +kernel
theorem dX9_scale_66 : decode cX9_scale 66 = .ok (.istore_n 3, 1) := by decide +kernel
theorem dX9_scale_67 : decode cX9_scale 67 = .ok (.iconst 0, 1) := by decide +kernel
theorem dX9_scale_68 : decode cX9_scale 68 = .ok (.istore 4, 2) := by decide +kernel
theorem dX9_scale_70 : decode cX9_scale 70 = .ok (.iload 4, 2) := by decide +kernel
theorem dX9_scale_72 : decode cX9_scale 72 = .ok (.bipush 32, 2) := by decide +kernel
theorem dX9_scale_74 : decode cX9_scale 74 = .ok (.if_icmp .ge 133, 3) := by decide +kernel
theorem dX9_scale_77 : decode cX9_scale 77 = .ok (.aload_n 0, 1) := by decide +kernel
theorem dX9_scale_78 : decode cX9_scale 78 = .ok (.getfield 19, 3) := by decide +kernel
theorem dX9_scale_81 : decode cX9_scale 81 = .ok (.iload 4, 2) := by decide +kernel
theorem dX9_scale_83 : decode cX9_scale 83 = .ok (.iload 4, 2) := by decide +kernel
theorem dX9_scale_85 : decode cX9_scale 85 = .ok (.aload_n 0, 1) := by decide +kernel
theorem dX9_scale_86 : decode cX9_scale 86 = .ok (.getfield 134, 3) := by decide +kernel
theorem dX9_scale_89 : decode cX9_scale 89 = .ok (.if_icmp .ge 24, 3) := by decide +kernel
theorem dX9_scale_92 : decode cX9_scale 92 = .ok (.aload_n 0, 1) := by decide +kernel
theorem dX9_scale_93 : decode cX9_scale 93 = .ok (.getfield 96, 3) := by decide +kernel
theorem dX9_scale_96 : decode cX9_scale 96 = .ok (.iload 4, 2) := by decide +kernel
theorem dX9_scale_98 : decode cX9_scale 98 = .ok (.iaload, 1) := by decide +kernel
theorem dX9_scale_99 : decode cX9_scale 99 = .ok (.aload_n 0, 1) := by decide +kernel
theorem dX9_scale_100 : decode cX9_scale 100 = .ok (.getfield 7, 3) := by decide +kernel
theorem dX9_scale_103 : decode cX9_scale 103 = .ok (.iload 4, 2) := by decide +kernel
theorem dX9_scale_105 : decode cX9_scale 105 = .ok (.iaload, 1) := by decide +kernel
theorem dX9_scale_106 : decode cX9_scale 106 = .ok (.if_icmp .eq 7, 3) := by decide +kernel
theorem dX9_scale_109 : decode cX9_scale 109 = .ok (.iconst 1, 1) := by decide +kernel
theorem dX9_scale_110 : decode cX9_scale 110 = .ok (.goto 4, 3) := by decide +kernel
theorem dX9_scale_113 : decode cX9_scale 113 = .ok (.iconst 0, 1) := by decide +kernel
theorem dX9_scale_114 : decode cX9_scale 114 = .ok (.bastore, 1) := by decide +kernel
theorem dX9_scale_115 : decode cX9_scale 115 = .ok (.iload_n 3, 1) := by decide +kernel
theorem dX9_scale_116 : decode cX9_scale 116 = .ok (.aload_n 0, 1) := by decide +kernel
theorem dX9_scale_117 : decode cX9_scale 117 = .ok (.getfield 19, 3) := by decide +kernel
theorem dX9_scale_120 : decode cX9_scale 120 = .ok (.iload 4, 2) := by decide +kernel
theorem dX9_scale_122 : decode cX9_scale 122 = .ok (.baload, 1) := by decide +kernel
theorem dX9_scale_123 : decode cX9_scale 123 = .ok (.ifCond .eq 7, 3) := by decide +kernel
theorem dX9_scale_126 : decode cX9_scale 126 = .ok (.iconst 1, 1) := by decide +kernel
theorem dX9_scale_127 : decode cX9_scale 127 = .ok (.goto 4, 3) := by decide +kernel
theorem dX9_scale_130 : decode cX9_scale 130 = .ok (.iconst 0, 1) := by decide +kernel
theorem dX9_scale_131 : decode cX9_scale 131 = .ok (.iadd, 1) := by decide +kernel
theorem dX9_scale_132 : decode cX9_scale 132 = .ok (.istore_n 3, 1) := by decide +kernel
theorem dX9_scale_133 : decode cX9_scale 133 = .ok (.aload_n 0, 1) := by decide +kernel
theorem dX9_scale_134 : decode cX9_scale 134 = .ok (.getfield 13, 3) := by decide +kernel
theorem dX9_scale_137 : decode cX9_scale 137 = .ok (.iload 4, 2) := by decide +kernel
theorem dX9_scale_139 : decode cX9_scale 139 = .ok (.dup2, 1) := by decide +kernel
theorem dX9_scale_140 : decode cX9_scale 140 = .ok (.iaload, 1) := by decide +kernel
theorem dX9_scale_141 : decode cX9_scale 141 = .ok (.aload_n 0, 1) := by decide +kernel
theorem dX9_scale_142 : decode cX9_scale 142 = .ok (.getfield 19, 3) := by decide +kernel
theorem dX9_scale_145 : decode cX9_scale 145 = .ok (.iload 4, 2) := by decide +kernel
theorem dX9_scale_147 : decode cX9_scale 147 = .ok (.baload, 1) := by decide +kernel
theorem dX9_scale_148 : decode cX9_scale 148 = .ok (.ifCond .eq 7, 3) := by decide +kernel
theorem dX9_scale_151 : decode cX9_scale 151 = .ok (.iconst 1, 1) := by decide +kernel
theorem dX9_scale_152 : decode cX9_scale 152 = .ok (.goto 4, 3) := by decide +kernel
theorem dX9_scale_155 : decode cX9_scale 155 = .ok (.iconst 0, 1) := by decide +kernel
theorem dX9_scale_156 : decode cX9_scale 156 = .ok (.iadd, 1) := by decide +kernel
theorem dX9_scale_157 : decode cX9_scale 157 = .ok (.iastore, 1) := by decide +kernel
theorem dX9_scale_158 : decode cX9_scale 158 = .ok (.aload_n 0, 1) := by decide +kernel
theorem dX9_scale_159 : decode cX9_scale 159 = .ok (.getfield 7, 3) := by decide +kernel
theorem dX9_scale_162 : decode cX9_scale 162 = .ok (.iload 4, 2) := by decide +kernel
theorem dX9_scale_164 : decode cX9_scale 164 = .ok (.iload 4, 2) := by decide +kernel
theorem dX9_scale_166 : decode cX9_scale 166 = .ok (.aload_n 0, 1) := by decide +kernel
theorem dX9_scale_167 : decode cX9_scale 167 = .ok (.getfield 134, 3) := by decide +kernel
theorem dX9_scale_170 : decode cX9_scale 170 = .ok (.if_icmp .ge 13, 3) := by decide +kernel
theorem dX9_scale_173 : decode cX9_scale 173 = .ok (.aload_n 0, 1) := by decide +kernel
theorem dX9_scale_174 : decode cX9_scale 174 = .ok (.getfield 96, 3) := by decide +kernel
theorem dX9_scale_177 : decode cX9_scale 177 = .ok (.iload 4, 2) := by decide +kernel
theorem dX9_scale_179 : decode cX9_scale 179 = .ok (.iaload, 1) := by decide +kernel
theorem dX9_scale_180 : decode cX9_scale 180 = .ok (.goto 4, 3) := by decide +kernel
theorem dX9_scale_183 : decode cX9_scale 183 = .ok (.iconst 0, 1) := by decide +kernel
theorem dX9_scale_184 : decode cX9_scale 184 = .ok (.iastore, 1) := by decide +kernel
theorem dX9_scale_185 : decode cX9_scale 185 = .ok (.aload_n 0, 1) := by decide +kernel
theorem dX9_scale_186 : decode cX9_scale 186 = .ok (.getfield 16, 3) := by decide +kernel
theorem dX9_scale_189 : decode cX9_scale 189 = .ok (.iload 4, 2) := by decide +kernel
theorem dX9_scale_191 : decode cX9_scale 191 = .ok (.aload_n 0, 1) := by decide +kernel
theorem dX9_scale_192 : decode cX9_scale 192 = .ok (.getfield 16, 3) := by decide +kernel
theorem dX9_scale_195 : decode cX9_scale 195 = .ok (.iload 4, 2) := by decide +kernel
theorem dX9_scale_197 : decode cX9_scale 197 = .ok (.iaload, 1) := by decide +kernel
theorem dX9_scale_198 : decode cX9_scale 198 = .ok (.iconst 2, 1) := by decide +kernel
theorem dX9_scale_199 : decode cX9_scale 199 = .ok (.idiv, 1) := by decide +kernel
theorem dX9_scale_200 : decode cX9_scale 200 = .ok (.iastore, 1) := by decide +kernel
theorem dX9_scale_201 : decode cX9_scale 201 = .ok (.iinc 4 1, 3) := by decide +kernel
theorem dX9_scale_204 : decode cX9_scale 204 = .ok (.goto (-134), 3) := by decide +kernel
theorem dX9_scale_207 : decode cX9_scale 207 = .ok (.aload_n 0, 1) := by decide +kernel
theorem dX9_scale_208 : decode cX9_scale 208 = .ok (.iload_n 1, 1) := by decide +kernel
theorem dX9_scale_209 : decode cX9_scale 209 = .ok (.putfield 140, 3) := by decide +kernel
theorem dX9_scale_212 : decode cX9_scale 212 = .ok (.aload_n 0, 1) := by decide +kernel
theorem dX9_scale_213 : decode cX9_scale 213 = .ok (.dup, 1) := by decide +kernel
theorem dX9_scale_214 : decode cX9_scale 214 = .ok (.getfield 127, 3) := by decide +kernel
theorem dX9_scale_217 : decode cX9_scale 217 = .ok (.iconst 1, 1) := by decide +kernel
theorem dX9_scale_218 : decode cX9_scale 218 = .ok (.iadd, 1) := by decide +kernel
theorem dX9_scale_219 : decode cX9_scale 219 = .ok (.putfield 127, 3) := by decide +kernel
theorem dX9_scale_222 : decode cX9_scale 222 = .ok (.iload_n 3, 1) := by decide +kernel
theorem dX9_scale_223 : decode cX9_scale 223 = .ok (.ireturn, 1) := by decide +kernel
theorem dX9_moved_0 : decode cX9_moved 0 = .ok (.iconst 0, 1) := by decide +kernel
theorem dX9_moved_1 : decode cX9_moved 1 = .ok (.istore_n 2, 1) := by decide +kernel
theorem dX9_moved_2 : decode cX9_moved 2 = .ok (.iconst 0, 1) := by decide +kernel
theorem dX9_moved_3 : decode cX9_moved 3 = .ok (.istore_n 3, 1) := by decide +kernel
theorem dX9_moved_4 : decode cX9_moved 4 = .ok (.iload_n 3, 1) := by decide +kernel
theorem dX9_moved_5 : decode cX9_moved 5 = .ok (.bipush 32, 2) := by decide +kernel
theorem dX9_moved_7 : decode cX9_moved 7 = .ok (.if_icmp .ge 28, 3) := by decide +kernel
theorem dX9_moved_10 : decode cX9_moved 10 = .ok (.aload_n 0, 1) := by decide +kernel
theorem dX9_moved_11 : decode cX9_moved 11 = .ok (.getfield 19, 3) := by decide +kernel
theorem dX9_moved_14 : decode cX9_moved 14 = .ok (.iload_n 3, 1) := by decide +kernel
theorem dX9_moved_15 : decode cX9_moved 15 = .ok (.baload, 1) := by decide +kernel
theorem dX9_moved_16 : decode cX9_moved 16 = .ok (.ifCond .eq 13, 3) := by decide +kernel
theorem dX9_moved_19 : decode cX9_moved 19 = .ok (.iload_n 2, 1) := by decide +kernel
theorem dX9_moved_20 : decode cX9_moved 20 = .ok (.iload_n 1, 1) := by decide +kernel
theorem dX9_moved_21 : decode cX9_moved 21 = .ok (.if_icmp .ne 5, 3) := by decide +kernel
theorem dX9_moved_24 : decode cX9_moved 24 = .ok (.iload_n 3, 1) := by decide +kernel
theorem dX9_moved_25 : decode cX9_moved 25 = .ok (.ireturn, 1) := by decide +kernel
theorem dX9_moved_26 : decode cX9_moved 26 = .ok (.iinc 2 1, 3) := by decide +kernel
theorem dX9_moved_29 : decode cX9_moved 29 = .ok (.iinc 3 1, 3) := by decide +kernel
theorem dX9_moved_32 : decode cX9_moved 32 = .ok (.goto (-28), 3) := by decide +kernel
theorem dX9_moved_35 : decode cX9_moved 35 = .ok (.bipush (-106), 2) := by decide +kernel
theorem dX9_moved_37 : decode cX9_moved 37 = .ok (.ireturn, 1) := by decide +kernel
theorem dX9_least_0 : decode cX9_least 0 = .ok (.iload_n 1, 1) := by decide +kernel
theorem dX9_least_1 : decode cX9_least 1 = .ok (.i2l, 1) := by decide +kernel
theorem dX9_least_2 : decode cX9_least 2 = .ok (.lconst 1, 1) := by decide +kernel
theorem dX9_least_3 : decode cX9_least 3 = .ok (.aload_n 0, 1) := by decide +kernel
theorem dX9_least_4 : decode cX9_least 4 = .ok (.getfield 137, 3) := by decide +kernel
theorem dX9_least_7 : decode cX9_least 7 = .ok (.i2l, 1) := by decide +kernel
theorem dX9_least_8 : decode cX9_least 8 = .ok (.invokestatic 147, 3) := by decide +kernel
theorem dX9_least_11 : decode cX9_least 11 = .ok (.ifCond .ne 7, 3) := by decide +kernel
theorem dX9_least_14 : decode cX9_least 14 = .ok (.ldc2_w 179, 3) := by decide +kernel
theorem dX9_least_17 : decode cX9_least 17 = .ok (.lreturn, 1) := by decide +kernel
theorem dX9_least_18 : decode cX9_least 18 = .ok (.aload_n 0, 1) := by decide +kernel
theorem dX9_least_19 : decode cX9_least 19 = .ok (.iload_n 1, 1) := by decide +kernel
theorem dX9_least_20 : decode cX9_least 20 = .ok (.invokevirtual 196, 3) := by decide +kernel
theorem dX9_least_23 : decode cX9_least 23 = .ok (.aload_n 0, 1) := by decide +kernel
theorem dX9_least_24 : decode cX9_least 24 = .ok (.getfield 99, 3) := by decide +kernel
theorem dX9_least_27 : decode cX9_least 27 = .ok (.iconst 0, 1) := by decide +kernel
theorem dX9_least_28 : decode cX9_least 28 = .ok (.laload, 1) := by decide +kernel
theorem dX9_least_29 : decode cX9_least 29 = .ok (.lreturn, 1) := by decide +kernel
theorem dX9_waitingOf_0 : decode cX9_waitingOf 0 = .ok (.iconst 0, 1) := by decide +kernel
theorem dX9_waitingOf_1 : decode cX9_waitingOf 1 = .ok (.istore_n 2, 1) := by decide +kernel
theorem dX9_waitingOf_2 : decode cX9_waitingOf 2 = .ok (.iconst 0, 1) := by decide +kernel
theorem dX9_waitingOf_3 : decode cX9_waitingOf 3 = .ok (.istore_n 3, 1) := by decide +kernel
theorem dX9_waitingOf_4 : decode cX9_waitingOf 4 = .ok (.iload_n 3, 1) := by decide +kernel
theorem dX9_waitingOf_5 : decode cX9_waitingOf 5 = .ok (.aload_n 0, 1) := by decide +kernel
theorem dX9_waitingOf_6 : decode cX9_waitingOf 6 = .ok (.getfield 109, 3) := by decide +kernel
theorem dX9_waitingOf_9 : decode cX9_waitingOf 9 = .ok (.if_icmp .ge 40, 3) := by decide +kernel
theorem dX9_waitingOf_12 : decode cX9_waitingOf 12 = .ok (.iload_n 2, 1) := by decide +kernel
theorem dX9_waitingOf_13 : decode cX9_waitingOf 13 = .ok (.aload_n 0, 1) := by decide +kernel
theorem dX9_waitingOf_14 : decode cX9_waitingOf 14 = .ok (.getfield 29, 3) := by decide +kernel
theorem dX9_waitingOf_17 : decode cX9_waitingOf 17 = .ok (.iload_n 3, 1) := by decide +kernel
theorem dX9_waitingOf_18 : decode cX9_waitingOf 18 = .ok (.baload, 1) := by decide +kernel
theorem dX9_waitingOf_19 : decode cX9_waitingOf 19 = .ok (.ifCond .eq 21, 3) := by decide +kernel
theorem dX9_waitingOf_22 : decode cX9_waitingOf 22 = .ok (.aload_n 0, 1) := by decide +kernel
theorem dX9_waitingOf_23 : decode cX9_waitingOf 23 = .ok (.aload_n 0, 1) := by decide +kernel
theorem dX9_waitingOf_24 : decode cX9_waitingOf 24 = .ok (.getfield 23, 3) := by decide +kernel
theorem dX9_waitingOf_27 : decode cX9_waitingOf 27 = .ok (.iload_n 3, 1) := by decide +kernel
theorem dX9_waitingOf_28 : decode cX9_waitingOf 28 = .ok (.iaload, 1) := by decide +kernel
theorem dX9_waitingOf_29 : decode cX9_waitingOf 29 = .ok (.invokevirtual 160, 3) := by decide +kernel
theorem dX9_waitingOf_32 : decode cX9_waitingOf 32 = .ok (.iload_n 1, 1) := by decide +kernel
theorem dX9_waitingOf_33 : decode cX9_waitingOf 33 = .ok (.if_icmp .ne 7, 3) := by decide +kernel
theorem dX9_waitingOf_36 : decode cX9_waitingOf 36 = .ok (.iconst 1, 1) := by decide +kernel
theorem dX9_waitingOf_37 : decode cX9_waitingOf 37 = .ok (.goto 4, 3) := by decide +kernel
theorem dX9_waitingOf_40 : decode cX9_waitingOf 40 = .ok (.iconst 0, 1) := by decide +kernel
theorem dX9_waitingOf_41 : decode cX9_waitingOf 41 = .ok (.iadd, 1) := by decide +kernel
theorem dX9_waitingOf_42 : decode cX9_waitingOf 42 = .ok (.istore_n 2, 1) := by decide +kernel
theorem dX9_waitingOf_43 : decode cX9_waitingOf 43 = .ok (.iinc 3 1, 3) := by decide +kernel
theorem dX9_waitingOf_46 : decode cX9_waitingOf 46 = .ok (.goto (-42), 3) := by decide +kernel
theorem dX9_waitingOf_49 : decode cX9_waitingOf 49 = .ok (.iload_n 2, 1) := by decide +kernel
theorem dX9_waitingOf_50 : decode cX9_waitingOf 50 = .ok (.ireturn, 1) := by decide +kernel
theorem dX9_groupAt_0 : decode cX9_groupAt 0 = .ok (.iload_n 1, 1) := by decide +kernel
theorem dX9_groupAt_1 : decode cX9_groupAt 1 = .ok (.i2l, 1) := by decide +kernel
theorem dX9_groupAt_2 : decode cX9_groupAt 2 = .ok (.lconst 0, 1) := by decide +kernel
theorem dX9_groupAt_3 : decode cX9_groupAt 3 = .ok (.aload_n 0, 1) := by decide +kernel
theorem dX9_groupAt_4 : decode cX9_groupAt 4 = .ok (.getfield 134, 3) := by decide +kernel
theorem dX9_groupAt_7 : decode cX9_groupAt 7 = .ok (.iconst 1, 1) := by decide +kernel
theorem dX9_groupAt_8 : decode cX9_groupAt 8 = .ok (.isub, 1) := by decide +kernel
theorem dX9_groupAt_9 : decode cX9_groupAt 9 = .ok (.i2l, 1) := by decide +kernel
theorem dX9_groupAt_10 : decode cX9_groupAt 10 = .ok (.invokestatic 147, 3) := by decide +kernel
theorem dX9_groupAt_13 : decode cX9_groupAt 13 = .ok (.ifCond .ne 6, 3) := by decide +kernel
theorem dX9_groupAt_16 : decode cX9_groupAt 16 = .ok (.bipush (-101), 2) := by decide +kernel
theorem dX9_groupAt_18 : decode cX9_groupAt 18 = .ok (.ireturn, 1) := by decide +kernel
theorem dX9_groupAt_19 : decode cX9_groupAt 19 = .ok (.iload_n 2, 1) := by decide +kernel
theorem dX9_groupAt_20 : decode cX9_groupAt 20 = .ok (.tableswitch 59 0 3 #[32, 39, 46, 53], 32) := by decide +kernel
theorem dX9_groupAt_52 : decode cX9_groupAt 52 = .ok (.aload_n 0, 1) := by decide +kernel
theorem dX9_groupAt_53 : decode cX9_groupAt 53 = .ok (.getfield 7, 3) := by decide +kernel
theorem dX9_groupAt_56 : decode cX9_groupAt 56 = .ok (.iload_n 1, 1) := by decide +kernel
theorem dX9_groupAt_57 : decode cX9_groupAt 57 = .ok (.iaload, 1) := by decide +kernel
theorem dX9_groupAt_58 : decode cX9_groupAt 58 = .ok (.ireturn, 1) := by decide +kernel
theorem dX9_groupAt_59 : decode cX9_groupAt 59 = .ok (.aload_n 0, 1) := by decide +kernel
theorem dX9_groupAt_60 : decode cX9_groupAt 60 = .ok (.getfield 13, 3) := by decide +kernel
theorem dX9_groupAt_63 : decode cX9_groupAt 63 = .ok (.iload_n 1, 1) := by decide +kernel
theorem dX9_groupAt_64 : decode cX9_groupAt 64 = .ok (.iaload, 1) := by decide +kernel
theorem dX9_groupAt_65 : decode cX9_groupAt 65 = .ok (.ireturn, 1) := by decide +kernel
theorem dX9_groupAt_66 : decode cX9_groupAt 66 = .ok (.aload_n 0, 1) := by decide +kernel
theorem dX9_groupAt_67 : decode cX9_groupAt 67 = .ok (.getfield 16, 3) := by decide +kernel
theorem dX9_groupAt_70 : decode cX9_groupAt 70 = .ok (.iload_n 1, 1) := by decide +kernel
theorem dX9_groupAt_71 : decode cX9_groupAt 71 = .ok (.iaload, 1) := by decide +kernel
theorem dX9_groupAt_72 : decode cX9_groupAt 72 = .ok (.ireturn, 1) := by decide +kernel
theorem dX9_groupAt_73 : decode cX9_groupAt 73 = .ok (.aload_n 0, 1) := by decide +kernel
theorem dX9_groupAt_74 : decode cX9_groupAt 74 = .ok (.iload_n 1, 1) := by decide +kernel
theorem dX9_groupAt_75 : decode cX9_groupAt 75 = .ok (.invokevirtual 202, 3) := by decide +kernel
theorem dX9_groupAt_78 : decode cX9_groupAt 78 = .ok (.ireturn, 1) := by decide +kernel
theorem dX9_groupAt_79 : decode cX9_groupAt 79 = .ok (.bipush (-102), 2) := by decide +kernel
theorem dX9_groupAt_81 : decode cX9_groupAt 81 = .ok (.ireturn, 1) := by decide +kernel
theorem dX9_taskAt_0 : decode cX9_taskAt 0 = .ok (.iload_n 1, 1) := by decide +kernel
theorem dX9_taskAt_1 : decode cX9_taskAt 1 = .ok (.i2l, 1) := by decide +kernel
theorem dX9_taskAt_2 : decode cX9_taskAt 2 = .ok (.lconst 0, 1) := by decide +kernel
theorem dX9_taskAt_3 : decode cX9_taskAt 3 = .ok (.aload_n 0, 1) := by decide +kernel
theorem dX9_taskAt_4 : decode cX9_taskAt 4 = .ok (.getfield 140, 3) := by decide +kernel
theorem dX9_taskAt_7 : decode cX9_taskAt 7 = .ok (.iconst 1, 1) := by decide +kernel
theorem dX9_taskAt_8 : decode cX9_taskAt 8 = .ok (.isub, 1) := by decide +kernel
theorem dX9_taskAt_9 : decode cX9_taskAt 9 = .ok (.i2l, 1) := by decide +kernel
theorem dX9_taskAt_10 : decode cX9_taskAt 10 = .ok (.invokestatic 147, 3) := by decide +kernel
theorem dX9_taskAt_13 : decode cX9_taskAt 13 = .ok (.ifCond .ne 6, 3) := by decide +kernel
theorem dX9_taskAt_16 : decode cX9_taskAt 16 = .ok (.bipush (-101), 2) := by decide +kernel
theorem dX9_taskAt_18 : decode cX9_taskAt 18 = .ok (.ireturn, 1) := by decide +kernel
theorem dX9_taskAt_19 : decode cX9_taskAt 19 = .ok (.bipush (-106), 2) := by decide +kernel
theorem dX9_taskAt_21 : decode cX9_taskAt 21 = .ok (.istore_n 3, 1) := by decide +kernel
theorem dX9_taskAt_22 : decode cX9_taskAt 22 = .ok (.iconst 0, 1) := by decide +kernel
theorem dX9_taskAt_23 : decode cX9_taskAt 23 = .ok (.istore 4, 2) := by decide +kernel
theorem dX9_taskAt_25 : decode cX9_taskAt 25 = .ok (.iconst 0, 1) := by decide +kernel
theorem dX9_taskAt_26 : decode cX9_taskAt 26 = .ok (.istore 5, 2) := by decide +kernel
theorem dX9_taskAt_28 : decode cX9_taskAt 28 = .ok (.iconst 0, 1) := by decide +kernel
theorem dX9_taskAt_29 : decode cX9_taskAt 29 = .ok (.istore 6, 2) := by decide +kernel
theorem dX9_taskAt_31 : decode cX9_taskAt 31 = .ok (.aload_n 0, 1) := by decide +kernel
theorem dX9_taskAt_32 : decode cX9_taskAt 32 = .ok (.getfield 134, 3) := by decide +kernel
theorem dX9_taskAt_35 : decode cX9_taskAt 35 = .ok (.iconst 1, 1) := by decide +kernel
theorem dX9_taskAt_36 : decode cX9_taskAt 36 = .ok (.isub, 1) := by decide +kernel
theorem dX9_taskAt_37 : decode cX9_taskAt 37 = .ok (.istore 7, 2) := by decide +kernel
theorem dX9_taskAt_39 : decode cX9_taskAt 39 = .ok (.iload 7, 2) := by decide +kernel
theorem dX9_taskAt_41 : decode cX9_taskAt 41 = .ok (.ifCond .lt 49, 3) := by decide +kernel
theorem dX9_taskAt_44 : decode cX9_taskAt 44 = .ok (.aload_n 0, 1) := by decide +kernel
theorem dX9_taskAt_45 : decode cX9_taskAt 45 = .ok (.getfield 7, 3) := by decide +kernel
theorem dX9_taskAt_48 : decode cX9_taskAt 48 = .ok (.iload 7, 2) := by decide +kernel
theorem dX9_taskAt_50 : decode cX9_taskAt 50 = .ok (.iaload, 1) := by decide +kernel
theorem dX9_taskAt_51 : decode cX9_taskAt 51 = .ok (.iload_n 1, 1) := by decide +kernel
theorem dX9_taskAt_52 : decode cX9_taskAt 52 = .ok (.if_icmp .ne 32, 3) := by decide +kernel
theorem dX9_taskAt_55 : decode cX9_taskAt 55 = .ok (.iload 7, 2) := by decide +kernel
theorem dX9_taskAt_57 : decode cX9_taskAt 57 = .ok (.istore_n 3, 1) := by decide +kernel
theorem dX9_taskAt_58 : decode cX9_taskAt 58 = .ok (.iinc 4 1, 3) := by decide +kernel
theorem dX9_taskAt_61 : decode cX9_taskAt 61 = .ok (.iload 5, 2) := by decide +kernel
theorem dX9_taskAt_63 : decode cX9_taskAt 63 = .ok (.aload_n 0, 1) := by decide +kernel
theorem dX9_taskAt_64 : decode cX9_taskAt 64 = .ok (.getfield 16, 3) := by decide +kernel
theorem dX9_taskAt_67 : decode cX9_taskAt 67 = .ok (.iload 7, 2) := by decide +kernel
theorem dX9_taskAt_69 : decode cX9_taskAt 69 = .ok (.iaload, 1) := by decide +kernel
theorem dX9_taskAt_70 : decode cX9_taskAt 70 = .ok (.iadd, 1) := by decide +kernel
theorem dX9_taskAt_71 : decode cX9_taskAt 71 = .ok (.istore 5, 2) := by decide +kernel
theorem dX9_taskAt_73 : decode cX9_taskAt 73 = .ok (.iload 6, 2) := by decide +kernel
theorem dX9_taskAt_75 : decode cX9_taskAt 75 = .ok (.aload_n 0, 1) := by decide +kernel
theorem dX9_taskAt_76 : decode cX9_taskAt 76 = .ok (.iload 7, 2) := by decide +kernel
theorem dX9_taskAt_78 : decode cX9_taskAt 78 = .ok (.invokevirtual 202, 3) := by decide +kernel
theorem dX9_taskAt_81 : decode cX9_taskAt 81 = .ok (.iadd, 1) := by decide +kernel
theorem dX9_taskAt_82 : decode cX9_taskAt 82 = .ok (.istore 6, 2) := by decide +kernel
theorem dX9_taskAt_84 : decode cX9_taskAt 84 = .ok (.iinc 7 (-1), 3) := by decide +kernel
theorem dX9_taskAt_87 : decode cX9_taskAt 87 = .ok (.goto (-48), 3) := by decide +kernel
theorem dX9_taskAt_90 : decode cX9_taskAt 90 = .ok (.iload_n 2, 1) := by decide +kernel
theorem dX9_taskAt_91 : decode cX9_taskAt 91 = .ok (.tableswitch 50 0 4 #[33, 35, 38, 41, 44], 33) := by decide +kernel
theorem dX9_taskAt_124 : decode cX9_taskAt 124 = .ok (.iload_n 3, 1) := by decide +kernel
theorem dX9_taskAt_125 : decode cX9_taskAt 125 = .ok (.ireturn, 1) := by decide +kernel
theorem dX9_taskAt_126 : decode cX9_taskAt 126 = .ok (.iload 4, 2) := by decide +kernel
theorem dX9_taskAt_128 : decode cX9_taskAt 128 = .ok (.ireturn, 1) := by decide +kernel
theorem dX9_taskAt_129 : decode cX9_taskAt 129 = .ok (.iload 5, 2) := by decide +kernel
theorem dX9_taskAt_131 : decode cX9_taskAt 131 = .ok (.ireturn, 1) := by decide +kernel
theorem dX9_taskAt_132 : decode cX9_taskAt 132 = .ok (.iload 6, 2) := by decide +kernel
theorem dX9_taskAt_134 : decode cX9_taskAt 134 = .ok (.ireturn, 1) := by decide +kernel
theorem dX9_taskAt_135 : decode cX9_taskAt 135 = .ok (.aload_n 0, 1) := by decide +kernel
theorem dX9_taskAt_136 : decode cX9_taskAt 136 = .ok (.iload_n 1, 1) := by decide +kernel
theorem dX9_taskAt_137 : decode cX9_taskAt 137 = .ok (.invokevirtual 168, 3) := by decide +kernel
theorem dX9_taskAt_140 : decode cX9_taskAt 140 = .ok (.ireturn, 1) := by decide +kernel
theorem dX9_taskAt_141 : decode cX9_taskAt 141 = .ok (.bipush (-102), 2) := by decide +kernel
theorem dX9_taskAt_143 : decode cX9_taskAt 143 = .ok (.ireturn, 1) := by decide +kernel
theorem dX9_counted_0 : decode cX9_counted 0 = .ok (.iload_n 1, 1) := by decide +kernel
theorem dX9_counted_1 : decode cX9_counted 1 = .ok (.invokestatic 156, 3) := by decide +kernel
theorem dX9_counted_4 : decode cX9_counted 4 = .ok (.ifCond .eq 8, 3) := by decide +kernel
theorem dX9_counted_7 : decode cX9_counted 7 = .ok (.bipush (-101), 2) := by decide +kernel
theorem dX9_counted_9 : decode cX9_counted 9 = .ok (.goto 9, 3) := by decide +kernel
theorem dX9_counted_12 : decode cX9_counted 12 = .ok (.aload_n 0, 1) := by decide +kernel
theorem dX9_counted_13 : decode cX9_counted 13 = .ok (.getfield 32, 3) := by decide +kernel
theorem dX9_counted_16 : decode cX9_counted 16 = .ok (.iload_n 1, 1) := by decide +kernel
theorem dX9_counted_17 : decode cX9_counted 17 = .ok (.iaload, 1) := by decide +kernel
theorem dX9_counted_18 : decode cX9_counted 18 = .ok (.ireturn, 1) := by decide +kernel
theorem dX9_sum_0 : decode cX9_sum 0 = .ok (.iload_n 1, 1) := by decide +kernel
theorem dX9_sum_1 : decode cX9_sum 1 = .ok (.invokestatic 156, 3) := by decide +kernel
theorem dX9_sum_4 : decode cX9_sum 4 = .ok (.ifCond .eq 7, 3) := by decide +kernel
theorem dX9_sum_7 : decode cX9_sum 7 = .ok (.lconst 0, 1) := by decide +kernel
theorem dX9_sum_8 : decode cX9_sum 8 = .ok (.goto 9, 3) := by decide +kernel
theorem dX9_sum_11 : decode cX9_sum 11 = .ok (.aload_n 0, 1) := by decide +kernel
theorem dX9_sum_12 : decode cX9_sum 12 = .ok (.getfield 35, 3) := by decide +kernel
theorem dX9_sum_15 : decode cX9_sum 15 = .ok (.iload_n 1, 1) := by decide +kernel
theorem dX9_sum_16 : decode cX9_sum 16 = .ok (.laload, 1) := by decide +kernel
theorem dX9_sum_17 : decode cX9_sum 17 = .ok (.lreturn, 1) := by decide +kernel
theorem dX9_before_0 : decode cX9_before 0 = .ok (.iconst 0, 1) := by decide +kernel
theorem dX9_before_1 : decode cX9_before 1 = .ok (.istore_n 3, 1) := by decide +kernel
theorem dX9_before_2 : decode cX9_before 2 = .ok (.iconst 0, 1) := by decide +kernel
theorem dX9_before_3 : decode cX9_before 3 = .ok (.istore 4, 2) := by decide +kernel
theorem dX9_before_5 : decode cX9_before 5 = .ok (.iload 4, 2) := by decide +kernel
theorem dX9_before_7 : decode cX9_before 7 = .ok (.aload_n 0, 1) := by decide +kernel
theorem dX9_before_8 : decode cX9_before 8 = .ok (.getfield 134, 3) := by decide +kernel
theorem dX9_before_11 : decode cX9_before 11 = .ok (.if_icmp .ge 85, 3) := by decide +kernel
theorem dX9_before_14 : decode cX9_before 14 = .ok (.aload_n 0, 1) := by decide +kernel
theorem dX9_before_15 : decode cX9_before 15 = .ok (.getfield 16, 3) := by decide +kernel
theorem dX9_before_18 : decode cX9_before 18 = .ok (.iload 4, 2) := by decide +kernel
theorem dX9_before_20 : decode cX9_before 20 = .ok (.iaload, 1) := by decide +kernel
theorem dX9_before_21 : decode cX9_before 21 = .ok (.aload_n 0, 1) := by decide +kernel
theorem dX9_before_22 : decode cX9_before 22 = .ok (.getfield 16, 3) := by decide +kernel
theorem dX9_before_25 : decode cX9_before 25 = .ok (.iload_n 1, 1) := by decide +kernel
theorem dX9_before_26 : decode cX9_before 26 = .ok (.iaload, 1) := by decide +kernel
theorem dX9_before_27 : decode cX9_before 27 = .ok (.if_icmp .gt 25, 3) := by decide +kernel
theorem dX9_before_30 : decode cX9_before 30 = .ok (.aload_n 0, 1) := by decide +kernel
theorem dX9_before_31 : decode cX9_before 31 = .ok (.getfield 16, 3) := by decide +kernel
theorem dX9_before_34 : decode cX9_before 34 = .ok (.iload 4, 2) := by decide +kernel
theorem dX9_before_36 : decode cX9_before 36 = .ok (.iaload, 1) := by decide +kernel
theorem dX9_before_37 : decode cX9_before 37 = .ok (.aload_n 0, 1) := by decide +kernel
theorem dX9_before_38 : decode cX9_before 38 = .ok (.getfield 16, 3) := by decide +kernel
theorem dX9_before_41 : decode cX9_before 41 = .ok (.iload_n 1, 1) := by decide +kernel
theorem dX9_before_42 : decode cX9_before 42 = .ok (.iaload, 1) := by decide +kernel
theorem dX9_before_43 : decode cX9_before 43 = .ok (.if_icmp .ne 13, 3) := by decide +kernel
theorem dX9_before_46 : decode cX9_before 46 = .ok (.iload 4, 2) := by decide +kernel
theorem dX9_before_48 : decode cX9_before 48 = .ok (.iload_n 1, 1) := by decide +kernel
theorem dX9_before_49 : decode cX9_before 49 = .ok (.if_icmp .ge 7, 3) := by decide +kernel
theorem dX9_before_52 : decode cX9_before 52 = .ok (.iconst 1, 1) := by decide +kernel
theorem dX9_before_53 : decode cX9_before 53 = .ok (.goto 4, 3) := by decide +kernel
theorem dX9_before_56 : decode cX9_before 56 = .ok (.iconst 0, 1) := by decide +kernel
theorem dX9_before_57 : decode cX9_before 57 = .ok (.istore 5, 2) := by decide +kernel
theorem dX9_before_59 : decode cX9_before 59 = .ok (.iload_n 3, 1) := by decide +kernel
theorem dX9_before_60 : decode cX9_before 60 = .ok (.iload 5, 2) := by decide +kernel
theorem dX9_before_62 : decode cX9_before 62 = .ok (.ifCond .eq 25, 3) := by decide +kernel
theorem dX9_before_65 : decode cX9_before 65 = .ok (.aload_n 0, 1) := by decide +kernel
theorem dX9_before_66 : decode cX9_before 66 = .ok (.getfield 16, 3) := by decide +kernel
theorem dX9_before_69 : decode cX9_before 69 = .ok (.iload 4, 2) := by decide +kernel
theorem dX9_before_71 : decode cX9_before 71 = .ok (.iaload, 1) := by decide +kernel
theorem dX9_before_72 : decode cX9_before 72 = .ok (.aload_n 0, 1) := by decide +kernel
theorem dX9_before_73 : decode cX9_before 73 = .ok (.getfield 134, 3) := by decide +kernel
theorem dX9_before_76 : decode cX9_before 76 = .ok (.imul, 1) := by decide +kernel
theorem dX9_before_77 : decode cX9_before 77 = .ok (.iconst 2, 1) := by decide +kernel
theorem dX9_before_78 : decode cX9_before 78 = .ok (.iload_n 2, 1) := by decide +kernel
theorem dX9_before_79 : decode cX9_before 79 = .ok (.imul, 1) := by decide +kernel
theorem dX9_before_80 : decode cX9_before 80 = .ok (.if_icmp .le 7, 3) := by decide +kernel
theorem dX9_before_83 : decode cX9_before 83 = .ok (.iconst 1, 1) := by decide +kernel
theorem dX9_before_84 : decode cX9_before 84 = .ok (.goto 4, 3) := by decide +kernel
theorem dX9_before_87 : decode cX9_before 87 = .ok (.iconst 0, 1) := by decide +kernel
theorem dX9_before_88 : decode cX9_before 88 = .ok (.iadd, 1) := by decide +kernel
theorem dX9_before_89 : decode cX9_before 89 = .ok (.istore_n 3, 1) := by decide +kernel
theorem dX9_before_90 : decode cX9_before 90 = .ok (.iinc 4 1, 3) := by decide +kernel
theorem dX9_before_93 : decode cX9_before 93 = .ok (.goto (-88), 3) := by decide +kernel
theorem dX9_before_96 : decode cX9_before 96 = .ok (.iload_n 3, 1) := by decide +kernel
theorem dX9_before_97 : decode cX9_before 97 = .ok (.ireturn, 1) := by decide +kernel
theorem dX9_hot_0 : decode cX9_hot 0 = .ok (.aload_n 0, 1) := by decide +kernel
theorem dX9_hot_1 : decode cX9_hot 1 = .ok (.invokevirtual 171, 3) := by decide +kernel
theorem dX9_hot_4 : decode cX9_hot 4 = .ok (.istore_n 2, 1) := by decide +kernel
theorem dX9_hot_5 : decode cX9_hot 5 = .ok (.bipush (-106), 2) := by decide +kernel
theorem dX9_hot_7 : decode cX9_hot 7 = .ok (.istore_n 3, 1) := by decide +kernel
theorem dX9_hot_8 : decode cX9_hot 8 = .ok (.iconst 0, 1) := by decide +kernel
theorem dX9_hot_9 : decode cX9_hot 9 = .ok (.istore 4, 2) := by decide +kernel
theorem dX9_hot_11 : decode cX9_hot 11 = .ok (.iload 4, 2) := by decide +kernel
theorem dX9_hot_13 : decode cX9_hot 13 = .ok (.aload_n 0, 1) := by decide +kernel
theorem dX9_hot_14 : decode cX9_hot 14 = .ok (.getfield 134, 3) := by decide +kernel
theorem dX9_hot_17 : decode cX9_hot 17 = .ok (.if_icmp .ge 45, 3) := by decide +kernel
theorem dX9_hot_20 : decode cX9_hot 20 = .ok (.aload_n 0, 1) := by decide +kernel
theorem dX9_hot_21 : decode cX9_hot 21 = .ok (.getfield 16, 3) := by decide +kernel
theorem dX9_hot_24 : decode cX9_hot 24 = .ok (.iload 4, 2) := by decide +kernel
theorem dX9_hot_26 : decode cX9_hot 26 = .ok (.iaload, 1) := by decide +kernel
theorem dX9_hot_27 : decode cX9_hot 27 = .ok (.aload_n 0, 1) := by decide +kernel
theorem dX9_hot_28 : decode cX9_hot 28 = .ok (.getfield 134, 3) := by decide +kernel
theorem dX9_hot_31 : decode cX9_hot 31 = .ok (.imul, 1) := by decide +kernel
theorem dX9_hot_32 : decode cX9_hot 32 = .ok (.iconst 2, 1) := by decide +kernel
theorem dX9_hot_33 : decode cX9_hot 33 = .ok (.iload_n 2, 1) := by decide +kernel
theorem dX9_hot_34 : decode cX9_hot 34 = .ok (.imul, 1) := by decide +kernel
theorem dX9_hot_35 : decode cX9_hot 35 = .ok (.if_icmp .le 19, 3) := by decide +kernel
theorem dX9_hot_38 : decode cX9_hot 38 = .ok (.aload_n 0, 1) := by decide +kernel
theorem dX9_hot_39 : decode cX9_hot 39 = .ok (.iload 4, 2) := by decide +kernel
theorem dX9_hot_41 : decode cX9_hot 41 = .ok (.iload_n 2, 1) := by decide +kernel
theorem dX9_hot_42 : decode cX9_hot 42 = .ok (.invokevirtual 205, 3) := by decide +kernel
theorem dX9_hot_45 : decode cX9_hot 45 = .ok (.iload_n 1, 1) := by decide +kernel
theorem dX9_hot_46 : decode cX9_hot 46 = .ok (.if_icmp .ne 8, 3) := by decide +kernel
theorem dX9_hot_49 : decode cX9_hot 49 = .ok (.iload 4, 2) := by decide +kernel
theorem dX9_hot_51 : decode cX9_hot 51 = .ok (.goto 4, 3) := by decide +kernel
theorem dX9_hot_54 : decode cX9_hot 54 = .ok (.iload_n 3, 1) := by decide +kernel
theorem dX9_hot_55 : decode cX9_hot 55 = .ok (.istore_n 3, 1) := by decide +kernel
theorem dX9_hot_56 : decode cX9_hot 56 = .ok (.iinc 4 1, 3) := by decide +kernel
theorem dX9_hot_59 : decode cX9_hot 59 = .ok (.goto (-48), 3) := by decide +kernel
theorem dX9_hot_62 : decode cX9_hot 62 = .ok (.iload_n 3, 1) := by decide +kernel
theorem dX9_hot_63 : decode cX9_hot 63 = .ok (.ireturn, 1) := by decide +kernel
theorem dX9_timer_0 : decode cX9_timer 0 = .ok (.iload_n 1, 1) := by decide +kernel
theorem dX9_timer_1 : decode cX9_timer 1 = .ok (.invokestatic 156, 3) := by decide +kernel
theorem dX9_timer_4 : decode cX9_timer 4 = .ok (.ifCond .eq 6, 3) := by decide +kernel
theorem dX9_timer_7 : decode cX9_timer 7 = .ok (.bipush (-101), 2) := by decide +kernel
theorem dX9_timer_9 : decode cX9_timer 9 = .ok (.ireturn, 1) := by decide +kernel
theorem dX9_timer_10 : decode cX9_timer 10 = .ok (.iload_n 2, 1) := by decide +kernel
theorem dX9_timer_11 : decode cX9_timer 11 = .ok (.aload_n 0, 1) := by decide +kernel
theorem dX9_timer_12 : decode cX9_timer 12 = .ok (.getfield 115, 3) := by decide +kernel
theorem dX9_timer_15 : decode cX9_timer 15 = .ok (.if_icmp .le 9, 3) := by decide +kernel
theorem dX9_timer_18 : decode cX9_timer 18 = .ok (.iload_n 2, 1) := by decide +kernel
theorem dX9_timer_19 : decode cX9_timer 19 = .ok (.ldc 208, 2) := by decide +kernel
theorem dX9_timer_21 : decode cX9_timer 21 = .ok (.if_icmp .le 6, 3) := by decide +kernel
theorem dX9_timer_24 : decode cX9_timer 24 = .ok (.bipush (-102), 2) := by decide +kernel
theorem dX9_timer_26 : decode cX9_timer 26 = .ok (.ireturn, 1) := by decide +kernel
theorem dX9_timer_27 : decode cX9_timer 27 = .ok (.aload_n 0, 1) := by decide +kernel
theorem dX9_timer_28 : decode cX9_timer 28 = .ok (.getfield 118, 3) := by decide +kernel
theorem dX9_timer_31 : decode cX9_timer 31 = .ok (.bipush 40, 2) := by decide +kernel
theorem dX9_timer_33 : decode cX9_timer 33 = .ok (.if_icmp .ne 6, 3) := by decide +kernel
theorem dX9_timer_36 : decode cX9_timer 36 = .ok (.bipush (-107), 2) := by decide +kernel
theorem dX9_timer_38 : decode cX9_timer 38 = .ok (.ireturn, 1) := by decide +kernel
theorem dX9_timer_39 : decode cX9_timer 39 = .ok (.aload_n 0, 1) := by decide +kernel
theorem dX9_timer_40 : decode cX9_timer 40 = .ok (.getfield 48, 3) := by decide +kernel
theorem dX9_timer_43 : decode cX9_timer 43 = .ok (.aload_n 0, 1) := by decide +kernel
theorem dX9_timer_44 : decode cX9_timer 44 = .ok (.getfield 118, 3) := by decide +kernel
theorem dX9_timer_47 : decode cX9_timer 47 = .ok (.iload_n 1, 1) := by decide +kernel
theorem dX9_timer_48 : decode cX9_timer 48 = .ok (.iastore, 1) := by decide +kernel
theorem dX9_timer_49 : decode cX9_timer 49 = .ok (.aload_n 0, 1) := by decide +kernel
theorem dX9_timer_50 : decode cX9_timer 50 = .ok (.getfield 51, 3) := by decide +kernel
theorem dX9_timer_53 : decode cX9_timer 53 = .ok (.aload_n 0, 1) := by decide +kernel
theorem dX9_timer_54 : decode cX9_timer 54 = .ok (.getfield 118, 3) := by decide +kernel
theorem dX9_timer_57 : decode cX9_timer 57 = .ok (.iload_n 2, 1) := by decide +kernel
theorem dX9_timer_58 : decode cX9_timer 58 = .ok (.iastore, 1) := by decide +kernel
theorem dX9_timer_59 : decode cX9_timer 59 = .ok (.aload_n 0, 1) := by decide +kernel
theorem dX9_timer_60 : decode cX9_timer 60 = .ok (.dup, 1) := by decide +kernel
theorem dX9_timer_61 : decode cX9_timer 61 = .ok (.getfield 118, 3) := by decide +kernel
theorem dX9_timer_64 : decode cX9_timer 64 = .ok (.iconst 1, 1) := by decide +kernel
theorem dX9_timer_65 : decode cX9_timer 65 = .ok (.iadd, 1) := by decide +kernel
theorem dX9_timer_66 : decode cX9_timer 66 = .ok (.putfield 118, 3) := by decide +kernel
theorem dX9_timer_69 : decode cX9_timer 69 = .ok (.aload_n 0, 1) := by decide +kernel
theorem dX9_timer_70 : decode cX9_timer 70 = .ok (.getfield 118, 3) := by decide +kernel
theorem dX9_timer_73 : decode cX9_timer 73 = .ok (.ireturn, 1) := by decide +kernel
theorem dX9_due_0 : decode cX9_due 0 = .ok (.bipush (-106), 2) := by decide +kernel
theorem dX9_due_2 : decode cX9_due 2 = .ok (.istore_n 2, 1) := by decide +kernel
theorem dX9_due_3 : decode cX9_due 3 = .ok (.iconst 0, 1) := by decide +kernel
theorem dX9_due_4 : decode cX9_due 4 = .ok (.istore_n 3, 1) := by decide +kernel
theorem dX9_due_5 : decode cX9_due 5 = .ok (.iload_n 3, 1) := by decide +kernel
theorem dX9_due_6 : decode cX9_due 6 = .ok (.aload_n 0, 1) := by decide +kernel
theorem dX9_due_7 : decode cX9_due 7 = .ok (.getfield 118, 3) := by decide +kernel
theorem dX9_due_10 : decode cX9_due 10 = .ok (.if_icmp .ge 100, 3) := by decide +kernel
theorem dX9_due_13 : decode cX9_due 13 = .ok (.iload_n 2, 1) := by decide +kernel
theorem dX9_due_14 : decode cX9_due 14 = .ok (.ifCond .ge 7, 3) := by decide +kernel
theorem dX9_due_17 : decode cX9_due 17 = .ok (.iconst 0, 1) := by decide +kernel
theorem dX9_due_18 : decode cX9_due 18 = .ok (.goto 4, 3) := by decide +kernel
theorem dX9_due_21 : decode cX9_due 21 = .ok (.iload_n 2, 1) := by decide +kernel
theorem dX9_due_22 : decode cX9_due 22 = .ok (.istore 4, 2) := by decide +kernel
theorem dX9_due_24 : decode cX9_due 24 = .ok (.aload_n 0, 1) := by decide +kernel
theorem dX9_due_25 : decode cX9_due 25 = .ok (.getfield 51, 3) := by decide +kernel
theorem dX9_due_28 : decode cX9_due 28 = .ok (.iload_n 3, 1) := by decide +kernel
theorem dX9_due_29 : decode cX9_due 29 = .ok (.iaload, 1) := by decide +kernel
theorem dX9_due_30 : decode cX9_due 30 = .ok (.aload_n 0, 1) := by decide +kernel
theorem dX9_due_31 : decode cX9_due 31 = .ok (.getfield 51, 3) := by decide +kernel
theorem dX9_due_34 : decode cX9_due 34 = .ok (.iload 4, 2) := by decide +kernel
theorem dX9_due_36 : decode cX9_due 36 = .ok (.iaload, 1) := by decide +kernel
theorem dX9_due_37 : decode cX9_due 37 = .ok (.if_icmp .lt 35, 3) := by decide +kernel
theorem dX9_due_40 : decode cX9_due 40 = .ok (.aload_n 0, 1) := by decide +kernel
theorem dX9_due_41 : decode cX9_due 41 = .ok (.getfield 51, 3) := by decide +kernel
theorem dX9_due_44 : decode cX9_due 44 = .ok (.iload_n 3, 1) := by decide +kernel
theorem dX9_due_45 : decode cX9_due 45 = .ok (.iaload, 1) := by decide +kernel
theorem dX9_due_46 : decode cX9_due 46 = .ok (.aload_n 0, 1) := by decide +kernel
theorem dX9_due_47 : decode cX9_due 47 = .ok (.getfield 51, 3) := by decide +kernel
theorem dX9_due_50 : decode cX9_due 50 = .ok (.iload 4, 2) := by decide +kernel
theorem dX9_due_52 : decode cX9_due 52 = .ok (.iaload, 1) := by decide +kernel
theorem dX9_due_53 : decode cX9_due 53 = .ok (.if_icmp .ne 23, 3) := by decide +kernel
theorem dX9_due_56 : decode cX9_due 56 = .ok (.aload_n 0, 1) := by decide +kernel
theorem dX9_due_57 : decode cX9_due 57 = .ok (.getfield 48, 3) := by decide +kernel
theorem dX9_due_60 : decode cX9_due 60 = .ok (.iload_n 3, 1) := by decide +kernel
theorem dX9_due_61 : decode cX9_due 61 = .ok (.iaload, 1) := by decide +kernel
theorem dX9_due_62 : decode cX9_due 62 = .ok (.aload_n 0, 1) := by decide +kernel
theorem dX9_due_63 : decode cX9_due 63 = .ok (.getfield 48, 3) := by decide +kernel
theorem dX9_due_66 : decode cX9_due 66 = .ok (.iload 4, 2) := by decide +kernel
theorem dX9_due_68 : decode cX9_due 68 = .ok (.iaload, 1) := by decide +kernel
theorem dX9_due_69 : decode cX9_due 69 = .ok (.if_icmp .ge 7, 3) := by decide +kernel
theorem dX9_due_72 : decode cX9_due 72 = .ok (.iconst 1, 1) := by decide +kernel
theorem dX9_due_73 : decode cX9_due 73 = .ok (.goto 4, 3) := by decide +kernel
theorem dX9_due_76 : decode cX9_due 76 = .ok (.iconst 0, 1) := by decide +kernel
theorem dX9_due_77 : decode cX9_due 77 = .ok (.istore 5, 2) := by decide +kernel
theorem dX9_due_79 : decode cX9_due 79 = .ok (.aload_n 0, 1) := by decide +kernel
theorem dX9_due_80 : decode cX9_due 80 = .ok (.getfield 51, 3) := by decide +kernel
theorem dX9_due_83 : decode cX9_due 83 = .ok (.iload_n 3, 1) := by decide +kernel
theorem dX9_due_84 : decode cX9_due 84 = .ok (.iaload, 1) := by decide +kernel
theorem dX9_due_85 : decode cX9_due 85 = .ok (.iload_n 1, 1) := by decide +kernel
theorem dX9_due_86 : decode cX9_due 86 = .ok (.if_icmp .gt 16, 3) := by decide +kernel
theorem dX9_due_89 : decode cX9_due 89 = .ok (.iload_n 2, 1) := by decide +kernel
theorem dX9_due_90 : decode cX9_due 90 = .ok (.ifCond .lt 8, 3) := by decide +kernel
theorem dX9_due_93 : decode cX9_due 93 = .ok (.iload 5, 2) := by decide +kernel
theorem dX9_due_95 : decode cX9_due 95 = .ok (.ifCond .eq 7, 3) := by decide +kernel
theorem dX9_due_98 : decode cX9_due 98 = .ok (.iload_n 3, 1) := by decide +kernel
theorem dX9_due_99 : decode cX9_due 99 = .ok (.goto 4, 3) := by decide +kernel
theorem dX9_due_102 : decode cX9_due 102 = .ok (.iload_n 2, 1) := by decide +kernel
theorem dX9_due_103 : decode cX9_due 103 = .ok (.istore_n 2, 1) := by decide +kernel
theorem dX9_due_104 : decode cX9_due 104 = .ok (.iinc 3 1, 3) := by decide +kernel
theorem dX9_due_107 : decode cX9_due 107 = .ok (.goto (-102), 3) := by decide +kernel
theorem dX9_due_110 : decode cX9_due 110 = .ok (.iload_n 2, 1) := by decide +kernel
theorem dX9_due_111 : decode cX9_due 111 = .ok (.ireturn, 1) := by decide +kernel
theorem dX9_ring_0 : decode cX9_ring 0 = .ok (.aload_n 0, 1) := by decide +kernel
theorem dX9_ring_1 : decode cX9_ring 1 = .ok (.getfield 48, 3) := by decide +kernel
theorem dX9_ring_4 : decode cX9_ring 4 = .ok (.iload_n 1, 1) := by decide +kernel
theorem dX9_ring_5 : decode cX9_ring 5 = .ok (.iaload, 1) := by decide +kernel
theorem dX9_ring_6 : decode cX9_ring 6 = .ok (.istore_n 2, 1) := by decide +kernel
theorem dX9_ring_7 : decode cX9_ring 7 = .ok (.aload_n 0, 1) := by decide +kernel
theorem dX9_ring_8 : decode cX9_ring 8 = .ok (.getfield 121, 3) := by decide +kernel
theorem dX9_ring_11 : decode cX9_ring 11 = .ok (.bipush 32, 2) := by decide +kernel
theorem dX9_ring_13 : decode cX9_ring 13 = .ok (.irem, 1) := by decide +kernel
theorem dX9_ring_14 : decode cX9_ring 14 = .ok (.istore_n 3, 1) := by decide +kernel
theorem dX9_ring_15 : decode cX9_ring 15 = .ok (.aload_n 0, 1) := by decide +kernel
theorem dX9_ring_16 : decode cX9_ring 16 = .ok (.getfield 54, 3) := by decide +kernel
theorem dX9_ring_19 : decode cX9_ring 19 = .ok (.iload_n 3, 1) := by decide +kernel
theorem dX9_ring_20 : decode cX9_ring 20 = .ok (.iload_n 2, 1) := by decide +kernel
theorem dX9_ring_21 : decode cX9_ring 21 = .ok (.iastore, 1) := by decide +kernel
theorem dX9_ring_22 : decode cX9_ring 22 = .ok (.aload_n 0, 1) := by decide +kernel
theorem dX9_ring_23 : decode cX9_ring 23 = .ok (.getfield 57, 3) := by decide +kernel
theorem dX9_ring_26 : decode cX9_ring 26 = .ok (.iload_n 3, 1) := by decide +kernel
theorem dX9_ring_27 : decode cX9_ring 27 = .ok (.aload_n 0, 1) := by decide +kernel
theorem dX9_ring_28 : decode cX9_ring 28 = .ok (.getfield 51, 3) := by decide +kernel
theorem dX9_ring_31 : decode cX9_ring 31 = .ok (.iload_n 1, 1) := by decide +kernel
theorem dX9_ring_32 : decode cX9_ring 32 = .ok (.iaload, 1) := by decide +kernel
theorem dX9_ring_33 : decode cX9_ring 33 = .ok (.iastore, 1) := by decide +kernel
theorem dX9_ring_34 : decode cX9_ring 34 = .ok (.aload_n 0, 1) := by decide +kernel
theorem dX9_ring_35 : decode cX9_ring 35 = .ok (.getfield 60, 3) := by decide +kernel
theorem dX9_ring_38 : decode cX9_ring 38 = .ok (.iload_n 3, 1) := by decide +kernel
theorem dX9_ring_39 : decode cX9_ring 39 = .ok (.aload_n 0, 1) := by decide +kernel
theorem dX9_ring_40 : decode cX9_ring 40 = .ok (.getfield 32, 3) := by decide +kernel
theorem dX9_ring_43 : decode cX9_ring 43 = .ok (.iload_n 2, 1) := by decide +kernel
theorem dX9_ring_44 : decode cX9_ring 44 = .ok (.iaload, 1) := by decide +kernel
theorem dX9_ring_45 : decode cX9_ring 45 = .ok (.iastore, 1) := by decide +kernel
theorem dX9_ring_46 : decode cX9_ring 46 = .ok (.aload_n 0, 1) := by decide +kernel
theorem dX9_ring_47 : decode cX9_ring 47 = .ok (.getfield 63, 3) := by decide +kernel
theorem dX9_ring_50 : decode cX9_ring 50 = .ok (.iload_n 3, 1) := by decide +kernel
theorem dX9_ring_51 : decode cX9_ring 51 = .ok (.aload_n 0, 1) := by decide +kernel
theorem dX9_ring_52 : decode cX9_ring 52 = .ok (.getfield 35, 3) := by decide +kernel
theorem dX9_ring_55 : decode cX9_ring 55 = .ok (.iload_n 2, 1) := by decide +kernel
theorem dX9_ring_56 : decode cX9_ring 56 = .ok (.laload, 1) := by decide +kernel
theorem dX9_ring_57 : decode cX9_ring 57 = .ok (.lastore, 1) := by decide +kernel
theorem dX9_ring_58 : decode cX9_ring 58 = .ok (.aload_n 0, 1) := by decide +kernel
theorem dX9_ring_59 : decode cX9_ring 59 = .ok (.dup, 1) := by decide +kernel
theorem dX9_ring_60 : decode cX9_ring 60 = .ok (.getfield 121, 3) := by decide +kernel
theorem dX9_ring_63 : decode cX9_ring 63 = .ok (.iconst 1, 1) := by decide +kernel
theorem dX9_ring_64 : decode cX9_ring 64 = .ok (.iadd, 1) := by decide +kernel
theorem dX9_ring_65 : decode cX9_ring 65 = .ok (.putfield 121, 3) := by decide +kernel
theorem dX9_ring_68 : decode cX9_ring 68 = .ok (.aload_n 0, 1) := by decide +kernel
theorem dX9_ring_69 : decode cX9_ring 69 = .ok (.getfield 32, 3) := by decide +kernel
theorem dX9_ring_72 : decode cX9_ring 72 = .ok (.iload_n 2, 1) := by decide +kernel
theorem dX9_ring_73 : decode cX9_ring 73 = .ok (.iconst 0, 1) := by decide +kernel
theorem dX9_ring_74 : decode cX9_ring 74 = .ok (.iastore, 1) := by decide +kernel
theorem dX9_ring_75 : decode cX9_ring 75 = .ok (.aload_n 0, 1) := by decide +kernel
theorem dX9_ring_76 : decode cX9_ring 76 = .ok (.getfield 35, 3) := by decide +kernel
theorem dX9_ring_79 : decode cX9_ring 79 = .ok (.iload_n 2, 1) := by decide +kernel
theorem dX9_ring_80 : decode cX9_ring 80 = .ok (.lconst 0, 1) := by decide +kernel
theorem dX9_ring_81 : decode cX9_ring 81 = .ok (.lastore, 1) := by decide +kernel
theorem dX9_ring_82 : decode cX9_ring 82 = .ok (.aload_n 0, 1) := by decide +kernel
theorem dX9_ring_83 : decode cX9_ring 83 = .ok (.dup, 1) := by decide +kernel
theorem dX9_ring_84 : decode cX9_ring 84 = .ok (.getfield 118, 3) := by decide +kernel
theorem dX9_ring_87 : decode cX9_ring 87 = .ok (.iconst 1, 1) := by decide +kernel
theorem dX9_ring_88 : decode cX9_ring 88 = .ok (.isub, 1) := by decide +kernel
theorem dX9_ring_89 : decode cX9_ring 89 = .ok (.putfield 118, 3) := by decide +kernel
theorem dX9_ring_92 : decode cX9_ring 92 = .ok (.iload_n 1, 1) := by decide +kernel
theorem dX9_ring_93 : decode cX9_ring 93 = .ok (.istore 4, 2) := by decide +kernel
theorem dX9_ring_95 : decode cX9_ring 95 = .ok (.iload 4, 2) := by decide +kernel
theorem dX9_ring_97 : decode cX9_ring 97 = .ok (.aload_n 0, 1) := by decide +kernel
theorem dX9_ring_98 : decode cX9_ring 98 = .ok (.getfield 118, 3) := by decide +kernel
theorem dX9_ring_101 : decode cX9_ring 101 = .ok (.if_icmp .ge 41, 3) := by decide +kernel
theorem dX9_ring_104 : decode cX9_ring 104 = .ok (.aload_n 0, 1) := by decide +kernel
theorem dX9_ring_105 : decode cX9_ring 105 = .ok (.getfield 48, 3) := by decide +kernel
theorem dX9_ring_108 : decode cX9_ring 108 = .ok (.iload 4, 2) := by decide +kernel
theorem dX9_ring_110 : decode cX9_ring 110 = .ok (.aload_n 0, 1) := by decide +kernel
theorem dX9_ring_111 : decode cX9_ring 111 = .ok (.getfield 48, 3) := by decide +kernel
theorem dX9_ring_114 : decode cX9_ring 114 = .ok (.iload 4, 2) := by decide +kernel
theorem dX9_ring_116 : decode cX9_ring 116 = .ok (.iconst 1, 1) := by decide +kernel
theorem dX9_ring_117 : decode cX9_ring 117 = .ok (.iadd, 1) := by decide +kernel
theorem dX9_ring_118 : decode cX9_ring 118 = .ok (.iaload, 1) := by decide +kernel
theorem dX9_ring_119 : decode cX9_ring 119 = .ok (.iastore, 1) := by decide +kernel
theorem dX9_ring_120 : decode cX9_ring 120 = .ok (.aload_n 0, 1) := by decide +kernel
theorem dX9_ring_121 : decode cX9_ring 121 = .ok (.getfield 51, 3) := by decide +kernel
theorem dX9_ring_124 : decode cX9_ring 124 = .ok (.iload 4, 2) := by decide +kernel
theorem dX9_ring_126 : decode cX9_ring 126 = .ok (.aload_n 0, 1) := by decide +kernel
theorem dX9_ring_127 : decode cX9_ring 127 = .ok (.getfield 51, 3) := by decide +kernel
theorem dX9_ring_130 : decode cX9_ring 130 = .ok (.iload 4, 2) := by decide +kernel
theorem dX9_ring_132 : decode cX9_ring 132 = .ok (.iconst 1, 1) := by decide +kernel
theorem dX9_ring_133 : decode cX9_ring 133 = .ok (.iadd, 1) := by decide +kernel
theorem dX9_ring_134 : decode cX9_ring 134 = .ok (.iaload, 1) := by decide +kernel
theorem dX9_ring_135 : decode cX9_ring 135 = .ok (.iastore, 1) := by decide +kernel
theorem dX9_ring_136 : decode cX9_ring 136 = .ok (.iinc 4 1, 3) := by decide +kernel
theorem dX9_ring_139 : decode cX9_ring 139 = .ok (.goto (-44), 3) := by decide +kernel
theorem dX9_ring_142 : decode cX9_ring 142 = .ok (.return_, 1) := by decide +kernel
theorem dX9_tick_0 : decode cX9_tick 0 = .ok (.iload_n 1, 1) := by decide +kernel
theorem dX9_tick_1 : decode cX9_tick 1 = .ok (.aload_n 0, 1) := by decide +kernel
theorem dX9_tick_2 : decode cX9_tick 2 = .ok (.getfield 115, 3) := by decide +kernel
theorem dX9_tick_5 : decode cX9_tick 5 = .ok (.if_icmp .lt 9, 3) := by decide +kernel
theorem dX9_tick_8 : decode cX9_tick 8 = .ok (.iload_n 1, 1) := by decide +kernel
theorem dX9_tick_9 : decode cX9_tick 9 = .ok (.ldc 208, 2) := by decide +kernel
theorem dX9_tick_11 : decode cX9_tick 11 = .ok (.if_icmp .le 6, 3) := by decide +kernel
theorem dX9_tick_14 : decode cX9_tick 14 = .ok (.bipush (-102), 2) := by decide +kernel
theorem dX9_tick_16 : decode cX9_tick 16 = .ok (.ireturn, 1) := by decide +kernel
theorem dX9_tick_17 : decode cX9_tick 17 = .ok (.iconst 0, 1) := by decide +kernel
theorem dX9_tick_18 : decode cX9_tick 18 = .ok (.istore_n 2, 1) := by decide +kernel
theorem dX9_tick_19 : decode cX9_tick 19 = .ok (.aload_n 0, 1) := by decide +kernel
theorem dX9_tick_20 : decode cX9_tick 20 = .ok (.iload_n 1, 1) := by decide +kernel
theorem dX9_tick_21 : decode cX9_tick 21 = .ok (.invokevirtual 209, 3) := by decide +kernel
theorem dX9_tick_24 : decode cX9_tick 24 = .ok (.istore_n 3, 1) := by decide +kernel
theorem dX9_tick_25 : decode cX9_tick 25 = .ok (.iload_n 3, 1) := by decide +kernel
theorem dX9_tick_26 : decode cX9_tick 26 = .ok (.ifCond .lt 20, 3) := by decide +kernel
theorem dX9_tick_29 : decode cX9_tick 29 = .ok (.aload_n 0, 1) := by decide +kernel
theorem dX9_tick_30 : decode cX9_tick 30 = .ok (.iload_n 3, 1) := by decide +kernel
theorem dX9_tick_31 : decode cX9_tick 31 = .ok (.invokevirtual 212, 3) := by decide +kernel
theorem dX9_tick_34 : decode cX9_tick 34 = .ok (.iinc 2 1, 3) := by decide +kernel
theorem dX9_tick_37 : decode cX9_tick 37 = .ok (.aload_n 0, 1) := by decide +kernel
theorem dX9_tick_38 : decode cX9_tick 38 = .ok (.iload_n 1, 1) := by decide +kernel
theorem dX9_tick_39 : decode cX9_tick 39 = .ok (.invokevirtual 209, 3) := by decide +kernel
theorem dX9_tick_42 : decode cX9_tick 42 = .ok (.istore_n 3, 1) := by decide +kernel
theorem dX9_tick_43 : decode cX9_tick 43 = .ok (.goto (-18), 3) := by decide +kernel
theorem dX9_tick_46 : decode cX9_tick 46 = .ok (.aload_n 0, 1) := by decide +kernel
theorem dX9_tick_47 : decode cX9_tick 47 = .ok (.iload_n 1, 1) := by decide +kernel
theorem dX9_tick_48 : decode cX9_tick 48 = .ok (.putfield 115, 3) := by decide +kernel
theorem dX9_tick_51 : decode cX9_tick 51 = .ok (.iload_n 2, 1) := by decide +kernel
theorem dX9_tick_52 : decode cX9_tick 52 = .ok (.ireturn, 1) := by decide +kernel
theorem dX9_out_0 : decode cX9_out 0 = .ok (.iload_n 2, 1) := by decide +kernel
theorem dX9_out_1 : decode cX9_out 1 = .ok (.i2l, 1) := by decide +kernel
theorem dX9_out_2 : decode cX9_out 2 = .ok (.lconst 0, 1) := by decide +kernel
theorem dX9_out_3 : decode cX9_out 3 = .ok (.ldc2_w 143, 3) := by decide +kernel
theorem dX9_out_6 : decode cX9_out 6 = .ok (.invokestatic 147, 3) := by decide +kernel
theorem dX9_out_9 : decode cX9_out 9 = .ok (.ifCond .ne 7, 3) := by decide +kernel
theorem dX9_out_12 : decode cX9_out 12 = .ok (.ldc2_w 215, 3) := by decide +kernel
theorem dX9_out_15 : decode cX9_out 15 = .ok (.lreturn, 1) := by decide +kernel
theorem dX9_out_16 : decode cX9_out 16 = .ok (.iload_n 1, 1) := by decide +kernel
theorem dX9_out_17 : decode cX9_out 17 = .ok (.i2l, 1) := by decide +kernel
theorem dX9_out_18 : decode cX9_out 18 = .ok (.lconst 0, 1) := by decide +kernel
theorem dX9_out_19 : decode cX9_out 19 = .ok (.aload_n 0, 1) := by decide +kernel
theorem dX9_out_20 : decode cX9_out 20 = .ok (.getfield 112, 3) := by decide +kernel
theorem dX9_out_23 : decode cX9_out 23 = .ok (.iconst 1, 1) := by decide +kernel
theorem dX9_out_24 : decode cX9_out 24 = .ok (.isub, 1) := by decide +kernel
theorem dX9_out_25 : decode cX9_out 25 = .ok (.i2l, 1) := by decide +kernel
theorem dX9_out_26 : decode cX9_out 26 = .ok (.invokestatic 147, 3) := by decide +kernel
theorem dX9_out_29 : decode cX9_out 29 = .ok (.ifCond .ne 7, 3) := by decide +kernel
theorem dX9_out_32 : decode cX9_out 32 = .ok (.ldc2_w 217, 3) := by decide +kernel
theorem dX9_out_35 : decode cX9_out 35 = .ok (.lreturn, 1) := by decide +kernel
theorem dX9_out_36 : decode cX9_out 36 = .ok (.iload_n 2, 1) := by decide +kernel
theorem dX9_out_37 : decode cX9_out 37 = .ok (.ifCond .ne 13, 3) := by decide +kernel
theorem dX9_out_40 : decode cX9_out 40 = .ok (.aload_n 0, 1) := by decide +kernel
theorem dX9_out_41 : decode cX9_out 41 = .ok (.getfield 39, 3) := by decide +kernel
theorem dX9_out_44 : decode cX9_out 44 = .ok (.iload_n 1, 1) := by decide +kernel
theorem dX9_out_45 : decode cX9_out 45 = .ok (.iaload, 1) := by decide +kernel
theorem dX9_out_46 : decode cX9_out 46 = .ok (.i2l, 1) := by decide +kernel
theorem dX9_out_47 : decode cX9_out 47 = .ok (.goto 24, 3) := by decide +kernel
theorem dX9_out_50 : decode cX9_out 50 = .ok (.iload_n 2, 1) := by decide +kernel
theorem dX9_out_51 : decode cX9_out 51 = .ok (.iconst 1, 1) := by decide +kernel
theorem dX9_out_52 : decode cX9_out 52 = .ok (.if_icmp .ne 13, 3) := by decide +kernel
theorem dX9_out_55 : decode cX9_out 55 = .ok (.aload_n 0, 1) := by decide +kernel
theorem dX9_out_56 : decode cX9_out 56 = .ok (.getfield 42, 3) := by decide +kernel
theorem dX9_out_59 : decode cX9_out 59 = .ok (.iload_n 1, 1) := by decide +kernel
theorem dX9_out_60 : decode cX9_out 60 = .ok (.iaload, 1) := by decide +kernel
theorem dX9_out_61 : decode cX9_out 61 = .ok (.i2l, 1) := by decide +kernel
theorem dX9_out_62 : decode cX9_out 62 = .ok (.goto 9, 3) := by decide +kernel
theorem dX9_out_65 : decode cX9_out 65 = .ok (.aload_n 0, 1) := by decide +kernel
theorem dX9_out_66 : decode cX9_out 66 = .ok (.getfield 45, 3) := by decide +kernel
theorem dX9_out_69 : decode cX9_out 69 = .ok (.iload_n 1, 1) := by decide +kernel
theorem dX9_out_70 : decode cX9_out 70 = .ok (.laload, 1) := by decide +kernel
theorem dX9_out_71 : decode cX9_out 71 = .ok (.lreturn, 1) := by decide +kernel
theorem dX9_keptLogs_0 : decode cX9_keptLogs 0 = .ok (.aload_n 0, 1) := by decide +kernel
theorem dX9_keptLogs_1 : decode cX9_keptLogs 1 = .ok (.getfield 121, 3) := by decide +kernel
theorem dX9_keptLogs_4 : decode cX9_keptLogs 4 = .ok (.bipush 32, 2) := by decide +kernel
theorem dX9_keptLogs_6 : decode cX9_keptLogs 6 = .ok (.if_icmp .ge 10, 3) := by decide +kernel
theorem dX9_keptLogs_9 : decode cX9_keptLogs 9 = .ok (.aload_n 0, 1) := by decide +kernel
theorem dX9_keptLogs_10 : decode cX9_keptLogs 10 = .ok (.getfield 121, 3) := by decide +kernel
theorem dX9_keptLogs_13 : decode cX9_keptLogs 13 = .ok (.goto 5, 3) := by decide +kernel
theorem dX9_keptLogs_16 : decode cX9_keptLogs 16 = .ok (.bipush 32, 2) := by decide +kernel
theorem dX9_keptLogs_18 : decode cX9_keptLogs 18 = .ok (.ireturn, 1) := by decide +kernel
theorem dX9_log_0 : decode cX9_log 0 = .ok (.iload_n 2, 1) := by decide +kernel
theorem dX9_log_1 : decode cX9_log 1 = .ok (.i2l, 1) := by decide +kernel
theorem dX9_log_2 : decode cX9_log 2 = .ok (.lconst 0, 1) := by decide +kernel
theorem dX9_log_3 : decode cX9_log 3 = .ok (.ldc2_w 219, 3) := by decide +kernel
theorem dX9_log_6 : decode cX9_log 6 = .ok (.invokestatic 147, 3) := by decide +kernel
theorem dX9_log_9 : decode cX9_log 9 = .ok (.ifCond .ne 7, 3) := by decide +kernel
theorem dX9_log_12 : decode cX9_log 12 = .ok (.ldc2_w 215, 3) := by decide +kernel
theorem dX9_log_15 : decode cX9_log 15 = .ok (.lreturn, 1) := by decide +kernel
theorem dX9_log_16 : decode cX9_log 16 = .ok (.iload_n 1, 1) := by decide +kernel
theorem dX9_log_17 : decode cX9_log 17 = .ok (.i2l, 1) := by decide +kernel
theorem dX9_log_18 : decode cX9_log 18 = .ok (.lconst 0, 1) := by decide +kernel
theorem dX9_log_19 : decode cX9_log 19 = .ok (.aload_n 0, 1) := by decide +kernel
theorem dX9_log_20 : decode cX9_log 20 = .ok (.invokevirtual 221, 3) := by decide +kernel
theorem dX9_log_23 : decode cX9_log 23 = .ok (.iconst 1, 1) := by decide +kernel
theorem dX9_log_24 : decode cX9_log 24 = .ok (.isub, 1) := by decide +kernel
theorem dX9_log_25 : decode cX9_log 25 = .ok (.i2l, 1) := by decide +kernel
theorem dX9_log_26 : decode cX9_log 26 = .ok (.invokestatic 147, 3) := by decide +kernel
theorem dX9_log_29 : decode cX9_log 29 = .ok (.ifCond .ne 7, 3) := by decide +kernel
theorem dX9_log_32 : decode cX9_log 32 = .ok (.ldc2_w 217, 3) := by decide +kernel
theorem dX9_log_35 : decode cX9_log 35 = .ok (.lreturn, 1) := by decide +kernel
theorem dX9_log_36 : decode cX9_log 36 = .ok (.aload_n 0, 1) := by decide +kernel
theorem dX9_log_37 : decode cX9_log 37 = .ok (.getfield 121, 3) := by decide +kernel
theorem dX9_log_40 : decode cX9_log 40 = .ok (.iconst 1, 1) := by decide +kernel
theorem dX9_log_41 : decode cX9_log 41 = .ok (.isub, 1) := by decide +kernel
theorem dX9_log_42 : decode cX9_log 42 = .ok (.iload_n 1, 1) := by decide +kernel
theorem dX9_log_43 : decode cX9_log 43 = .ok (.isub, 1) := by decide +kernel
theorem dX9_log_44 : decode cX9_log 44 = .ok (.bipush 32, 2) := by decide +kernel
theorem dX9_log_46 : decode cX9_log 46 = .ok (.irem, 1) := by decide +kernel
theorem dX9_log_47 : decode cX9_log 47 = .ok (.istore_n 3, 1) := by decide +kernel
theorem dX9_log_48 : decode cX9_log 48 = .ok (.iload_n 2, 1) := by decide +kernel
theorem dX9_log_49 : decode cX9_log 49 = .ok (.ifCond .ne 13, 3) := by decide +kernel
theorem dX9_log_52 : decode cX9_log 52 = .ok (.aload_n 0, 1) := by decide +kernel
theorem dX9_log_53 : decode cX9_log 53 = .ok (.getfield 54, 3) := by decide +kernel
theorem dX9_log_56 : decode cX9_log 56 = .ok (.iload_n 3, 1) := by decide +kernel
theorem dX9_log_57 : decode cX9_log 57 = .ok (.iaload, 1) := by decide +kernel
theorem dX9_log_58 : decode cX9_log 58 = .ok (.i2l, 1) := by decide +kernel
theorem dX9_log_59 : decode cX9_log 59 = .ok (.goto 39, 3) := by decide +kernel
theorem dX9_log_62 : decode cX9_log 62 = .ok (.iload_n 2, 1) := by decide +kernel
theorem dX9_log_63 : decode cX9_log 63 = .ok (.iconst 1, 1) := by decide +kernel
theorem dX9_log_64 : decode cX9_log 64 = .ok (.if_icmp .ne 13, 3) := by decide +kernel
theorem dX9_log_67 : decode cX9_log 67 = .ok (.aload_n 0, 1) := by decide +kernel
theorem dX9_log_68 : decode cX9_log 68 = .ok (.getfield 57, 3) := by decide +kernel
theorem dX9_log_71 : decode cX9_log 71 = .ok (.iload_n 3, 1) := by decide +kernel
theorem dX9_log_72 : decode cX9_log 72 = .ok (.iaload, 1) := by decide +kernel
theorem dX9_log_73 : decode cX9_log 73 = .ok (.i2l, 1) := by decide +kernel
theorem dX9_log_74 : decode cX9_log 74 = .ok (.goto 24, 3) := by decide +kernel
theorem dX9_log_77 : decode cX9_log 77 = .ok (.iload_n 2, 1) := by decide +kernel
theorem dX9_log_78 : decode cX9_log 78 = .ok (.iconst 2, 1) := by decide +kernel
theorem dX9_log_79 : decode cX9_log 79 = .ok (.if_icmp .ne 13, 3) := by decide +kernel
theorem dX9_log_82 : decode cX9_log 82 = .ok (.aload_n 0, 1) := by decide +kernel
