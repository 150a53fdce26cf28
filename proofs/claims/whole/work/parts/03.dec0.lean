theorem dX0_init_0 : decode cX0_init 0 = .ok (.aload_n 0, 1) := by decide +kernel
theorem dX0_init_1 : decode cX0_init 1 = .ok (.invokespecial 1, 3) := by decide +kernel
theorem dX0_init_4 : decode cX0_init 4 = .ok (.aload_n 0, 1) := by decide +kernel
theorem dX0_init_5 : decode cX0_init 5 = .ok (.new 7, 3) := by decide +kernel
theorem dX0_init_8 : decode cX0_init 8 = .ok (.dup, 1) := by decide +kernel
theorem dX0_init_9 : decode cX0_init 9 = .ok (.invokespecial 9, 3) := by decide +kernel
theorem dX0_init_12 : decode cX0_init 12 = .ok (.putfield 10, 3) := by decide +kernel
theorem dX0_init_15 : decode cX0_init 15 = .ok (.aload_n 0, 1) := by decide +kernel
theorem dX0_init_16 : decode cX0_init 16 = .ok (.new 16, 3) := by decide +kernel
theorem dX0_init_19 : decode cX0_init 19 = .ok (.dup, 1) := by decide +kernel
theorem dX0_init_20 : decode cX0_init 20 = .ok (.invokespecial 18, 3) := by decide +kernel
theorem dX0_init_23 : decode cX0_init 23 = .ok (.putfield 19, 3) := by decide +kernel
theorem dX0_init_26 : decode cX0_init 26 = .ok (.aload_n 0, 1) := by decide +kernel
theorem dX0_init_27 : decode cX0_init 27 = .ok (.new 23, 3) := by decide +kernel
theorem dX0_init_30 : decode cX0_init 30 = .ok (.dup, 1) := by decide +kernel
theorem dX0_init_31 : decode cX0_init 31 = .ok (.invokespecial 25, 3) := by decide +kernel
theorem dX0_init_34 : decode cX0_init 34 = .ok (.putfield 26, 3) := by decide +kernel
theorem dX0_init_37 : decode cX0_init 37 = .ok (.return_, 1) := by decide +kernel
theorem dX0_begin_0 : decode cX0_begin 0 = .ok (.aload_n 0, 1) := by decide +kernel
theorem dX0_begin_1 : decode cX0_begin 1 = .ok (.getfield 10, 3) := by decide +kernel
theorem dX0_begin_4 : decode cX0_begin 4 = .ok (.invokevirtual 30, 3) := by decide +kernel
theorem dX0_begin_7 : decode cX0_begin 7 = .ok (.aload_n 0, 1) := by decide +kernel
theorem dX0_begin_8 : decode cX0_begin 8 = .ok (.getfield 19, 3) := by decide +kernel
theorem dX0_begin_11 : decode cX0_begin 11 = .ok (.invokevirtual 33, 3) := by decide +kernel
theorem dX0_begin_14 : decode cX0_begin 14 = .ok (.aload_n 0, 1) := by decide +kernel
theorem dX0_begin_15 : decode cX0_begin 15 = .ok (.getfield 26, 3) := by decide +kernel
theorem dX0_begin_18 : decode cX0_begin 18 = .ok (.invokevirtual 34, 3) := by decide +kernel
theorem dX0_begin_21 : decode cX0_begin 21 = .ok (.return_, 1) := by decide +kernel
theorem dX0_copyFrom_0 : decode cX0_copyFrom 0 = .ok (.aload_n 0, 1) := by decide +kernel
theorem dX0_copyFrom_1 : decode cX0_copyFrom 1 = .ok (.getfield 10, 3) := by decide +kernel
theorem dX0_copyFrom_4 : decode cX0_copyFrom 4 = .ok (.aload_n 1, 1) := by decide +kernel
theorem dX0_copyFrom_5 : decode cX0_copyFrom 5 = .ok (.getfield 10, 3) := by decide +kernel
theorem dX0_copyFrom_8 : decode cX0_copyFrom 8 = .ok (.invokevirtual 35, 3) := by decide +kernel
theorem dX0_copyFrom_11 : decode cX0_copyFrom 11 = .ok (.aload_n 0, 1) := by decide +kernel
theorem dX0_copyFrom_12 : decode cX0_copyFrom 12 = .ok (.getfield 19, 3) := by decide +kernel
theorem dX0_copyFrom_15 : decode cX0_copyFrom 15 = .ok (.aload_n 1, 1) := by decide +kernel
theorem dX0_copyFrom_16 : decode cX0_copyFrom 16 = .ok (.getfield 19, 3) := by decide +kernel
theorem dX0_copyFrom_19 : decode cX0_copyFrom 19 = .ok (.invokevirtual 39, 3) := by decide +kernel
theorem dX0_copyFrom_22 : decode cX0_copyFrom 22 = .ok (.aload_n 0, 1) := by decide +kernel
theorem dX0_copyFrom_23 : decode cX0_copyFrom 23 = .ok (.getfield 26, 3) := by decide +kernel
theorem dX0_copyFrom_26 : decode cX0_copyFrom 26 = .ok (.aload_n 1, 1) := by decide +kernel
theorem dX0_copyFrom_27 : decode cX0_copyFrom 27 = .ok (.getfield 26, 3) := by decide +kernel
theorem dX0_copyFrom_30 : decode cX0_copyFrom 30 = .ok (.invokevirtual 42, 3) := by decide +kernel
theorem dX0_copyFrom_33 : decode cX0_copyFrom 33 = .ok (.return_, 1) := by decide +kernel
theorem dX1_init_0 : decode cX1_init 0 = .ok (.aload_n 0, 1) := by decide +kernel
theorem dX1_init_1 : decode cX1_init 1 = .ok (.invokespecial 3, 3) := by decide +kernel
theorem dX1_init_4 : decode cX1_init 4 = .ok (.aload_n 0, 1) := by decide +kernel
theorem dX1_init_5 : decode cX1_init 5 = .ok (.bipush 32, 2) := by decide +kernel
theorem dX1_init_7 : decode cX1_init 7 = .ok (.newarray .int, 2) := by decide +kernel
theorem dX1_init_9 : decode cX1_init 9 = .ok (.putfield 9, 3) := by decide +kernel
theorem dX1_init_12 : decode cX1_init 12 = .ok (.aload_n 0, 1) := by decide +kernel
theorem dX1_init_13 : decode cX1_init 13 = .ok (.bipush 32, 2) := by decide +kernel
theorem dX1_init_15 : decode cX1_init 15 = .ok (.newarray .int, 2) := by decide +kernel
theorem dX1_init_17 : decode cX1_init 17 = .ok (.putfield 15, 3) := by decide +kernel
theorem dX1_init_20 : decode cX1_init 20 = .ok (.aload_n 0, 1) := by decide +kernel
theorem dX1_init_21 : decode cX1_init 21 = .ok (.bipush 32, 2) := by decide +kernel
theorem dX1_init_23 : decode cX1_init 23 = .ok (.newarray .int, 2) := by decide +kernel
theorem dX1_init_25 : decode cX1_init 25 = .ok (.putfield 18, 3) := by decide +kernel
theorem dX1_init_28 : decode cX1_init 28 = .ok (.aload_n 0, 1) := by decide +kernel
theorem dX1_init_29 : decode cX1_init 29 = .ok (.bipush 32, 2) := by decide +kernel
theorem dX1_init_31 : decode cX1_init 31 = .ok (.newarray .long, 2) := by decide +kernel
theorem dX1_init_33 : decode cX1_init 33 = .ok (.putfield 21, 3) := by decide +kernel
theorem dX1_init_36 : decode cX1_init 36 = .ok (.return_, 1) := by decide +kernel
theorem dX1_put_0 : decode cX1_put 0 = .ok (.aload_n 0, 1) := by decide +kernel
theorem dX1_put_1 : decode cX1_put 1 = .ok (.getfield 9, 3) := by decide +kernel
theorem dX1_put_4 : decode cX1_put 4 = .ok (.aload_n 0, 1) := by decide +kernel
theorem dX1_put_5 : decode cX1_put 5 = .ok (.getfield 25, 3) := by decide +kernel
theorem dX1_put_8 : decode cX1_put 8 = .ok (.iload_n 1, 1) := by decide +kernel
theorem dX1_put_9 : decode cX1_put 9 = .ok (.iastore, 1) := by decide +kernel
theorem dX1_put_10 : decode cX1_put 10 = .ok (.aload_n 0, 1) := by decide +kernel
theorem dX1_put_11 : decode cX1_put 11 = .ok (.getfield 15, 3) := by decide +kernel
theorem dX1_put_14 : decode cX1_put 14 = .ok (.aload_n 0, 1) := by decide +kernel
theorem dX1_put_15 : decode cX1_put 15 = .ok (.getfield 25, 3) := by decide +kernel
theorem dX1_put_18 : decode cX1_put 18 = .ok (.iload_n 2, 1) := by decide +kernel
theorem dX1_put_19 : decode cX1_put 19 = .ok (.iastore, 1) := by decide +kernel
theorem dX1_put_20 : decode cX1_put 20 = .ok (.aload_n 0, 1) := by decide +kernel
theorem dX1_put_21 : decode cX1_put 21 = .ok (.getfield 18, 3) := by decide +kernel
theorem dX1_put_24 : decode cX1_put 24 = .ok (.aload_n 0, 1) := by decide +kernel
theorem dX1_put_25 : decode cX1_put 25 = .ok (.getfield 25, 3) := by decide +kernel
theorem dX1_put_28 : decode cX1_put 28 = .ok (.iload_n 3, 1) := by decide +kernel
theorem dX1_put_29 : decode cX1_put 29 = .ok (.iastore, 1) := by decide +kernel
theorem dX1_put_30 : decode cX1_put 30 = .ok (.aload_n 0, 1) := by decide +kernel
theorem dX1_put_31 : decode cX1_put 31 = .ok (.getfield 21, 3) := by decide +kernel
theorem dX1_put_34 : decode cX1_put 34 = .ok (.aload_n 0, 1) := by decide +kernel
theorem dX1_put_35 : decode cX1_put 35 = .ok (.getfield 25, 3) := by decide +kernel
theorem dX1_put_38 : decode cX1_put 38 = .ok (.lload 4, 2) := by decide +kernel
theorem dX1_put_40 : decode cX1_put 40 = .ok (.lastore, 1) := by decide +kernel
theorem dX1_put_41 : decode cX1_put 41 = .ok (.aload_n 0, 1) := by decide +kernel
theorem dX1_put_42 : decode cX1_put 42 = .ok (.aload_n 0, 1) := by decide +kernel
theorem dX1_put_43 : decode cX1_put 43 = .ok (.getfield 25, 3) := by decide +kernel
theorem dX1_put_46 : decode cX1_put 46 = .ok (.iconst 1, 1) := by decide +kernel
theorem dX1_put_47 : decode cX1_put 47 = .ok (.iadd, 1) := by decide +kernel
theorem dX1_put_48 : decode cX1_put 48 = .ok (.bipush 32, 2) := by decide +kernel
theorem dX1_put_50 : decode cX1_put 50 = .ok (.irem, 1) := by decide +kernel
theorem dX1_put_51 : decode cX1_put 51 = .ok (.putfield 25, 3) := by decide +kernel
theorem dX1_put_54 : decode cX1_put 54 = .ok (.aload_n 0, 1) := by decide +kernel
theorem dX1_put_55 : decode cX1_put 55 = .ok (.aload_n 0, 1) := by decide +kernel
theorem dX1_put_56 : decode cX1_put 56 = .ok (.getfield 29, 3) := by decide +kernel
theorem dX1_put_59 : decode cX1_put 59 = .ok (.iconst 1, 1) := by decide +kernel
theorem dX1_put_60 : decode cX1_put 60 = .ok (.iadd, 1) := by decide +kernel
theorem dX1_put_61 : decode cX1_put 61 = .ok (.bipush 32, 2) := by decide +kernel
theorem dX1_put_63 : decode cX1_put 63 = .ok (.invokestatic 32, 3) := by decide +kernel
theorem dX1_put_66 : decode cX1_put 66 = .ok (.putfield 29, 3) := by decide +kernel
theorem dX1_put_69 : decode cX1_put 69 = .ok (.return_, 1) := by decide +kernel
theorem dX1_placeOf_0 : decode cX1_placeOf 0 = .ok (.aload_n 0, 1) := by decide +kernel
theorem dX1_placeOf_1 : decode cX1_placeOf 1 = .ok (.getfield 25, 3) := by decide +kernel
theorem dX1_placeOf_4 : decode cX1_placeOf 4 = .ok (.iconst 1, 1) := by decide +kernel
theorem dX1_placeOf_5 : decode cX1_placeOf 5 = .ok (.isub, 1) := by decide +kernel
theorem dX1_placeOf_6 : decode cX1_placeOf 6 = .ok (.iload_n 1, 1) := by decide +kernel
theorem dX1_placeOf_7 : decode cX1_placeOf 7 = .ok (.isub, 1) := by decide +kernel
theorem dX1_placeOf_8 : decode cX1_placeOf 8 = .ok (.bipush 32, 2) := by decide +kernel
theorem dX1_placeOf_10 : decode cX1_placeOf 10 = .ok (.invokestatic 38, 3) := by decide +kernel
theorem dX1_placeOf_13 : decode cX1_placeOf 13 = .ok (.ireturn, 1) := by decide +kernel
theorem dX2_init_0 : decode cX2_init 0 = .ok (.aload_n 0, 1) := by decide +kernel
theorem dX2_init_1 : decode cX2_init 1 = .ok (.invokespecial 3, 3) := by decide +kernel
theorem dX2_init_4 : decode cX2_init 4 = .ok (.aload_n 0, 1) := by decide +kernel
theorem dX2_init_5 : decode cX2_init 5 = .ok (.sipush 400, 3) := by decide +kernel
theorem dX2_init_8 : decode cX2_init 8 = .ok (.newarray .int, 2) := by decide +kernel
theorem dX2_init_10 : decode cX2_init 10 = .ok (.putfield 9, 3) := by decide +kernel
theorem dX2_init_13 : decode cX2_init 13 = .ok (.aload_n 0, 1) := by decide +kernel
theorem dX2_init_14 : decode cX2_init 14 = .ok (.sipush 400, 3) := by decide +kernel
theorem dX2_init_17 : decode cX2_init 17 = .ok (.newarray .int, 2) := by decide +kernel
theorem dX2_init_19 : decode cX2_init 19 = .ok (.putfield 15, 3) := by decide +kernel
theorem dX2_init_22 : decode cX2_init 22 = .ok (.aload_n 0, 1) := by decide +kernel
theorem dX2_init_23 : decode cX2_init 23 = .ok (.sipush 400, 3) := by decide +kernel
theorem dX2_init_26 : decode cX2_init 26 = .ok (.newarray .long, 2) := by decide +kernel
theorem dX2_init_28 : decode cX2_init 28 = .ok (.putfield 18, 3) := by decide +kernel
theorem dX2_init_31 : decode cX2_init 31 = .ok (.return_, 1) := by decide +kernel
theorem dX2_put_0 : decode cX2_put 0 = .ok (.aload_n 0, 1) := by decide +kernel
theorem dX2_put_1 : decode cX2_put 1 = .ok (.getfield 22, 3) := by decide +kernel
theorem dX2_put_4 : decode cX2_put 4 = .ok (.sipush 400, 3) := by decide +kernel
theorem dX2_put_7 : decode cX2_put 7 = .ok (.if_icmp .lt 4, 3) := by decide +kernel
theorem dX2_put_10 : decode cX2_put 10 = .ok (.return_, 1) := by decide +kernel
theorem dX2_put_11 : decode cX2_put 11 = .ok (.aload_n 0, 1) := by decide +kernel
theorem dX2_put_12 : decode cX2_put 12 = .ok (.getfield 9, 3) := by decide +kernel
theorem dX2_put_15 : decode cX2_put 15 = .ok (.aload_n 0, 1) := by decide +kernel
theorem dX2_put_16 : decode cX2_put 16 = .ok (.getfield 22, 3) := by decide +kernel
theorem dX2_put_19 : decode cX2_put 19 = .ok (.iload_n 1, 1) := by decide +kernel
theorem dX2_put_20 : decode cX2_put 20 = .ok (.iastore, 1) := by decide +kernel
theorem dX2_put_21 : decode cX2_put 21 = .ok (.aload_n 0, 1) := by decide +kernel
theorem dX2_put_22 : decode cX2_put 22 = .ok (.getfield 15, 3) := by decide +kernel
theorem dX2_put_25 : decode cX2_put 25 = .ok (.aload_n 0, 1) := by decide +kernel
theorem dX2_put_26 : decode cX2_put 26 = .ok (.getfield 22, 3) := by decide +kernel
theorem dX2_put_29 : decode cX2_put 29 = .ok (.iload_n 2, 1) := by decide +kernel
theorem dX2_put_30 : decode cX2_put 30 = .ok (.iastore, 1) := by decide +kernel
theorem dX2_put_31 : decode cX2_put 31 = .ok (.aload_n 0, 1) := by decide +kernel
theorem dX2_put_32 : decode cX2_put 32 = .ok (.getfield 18, 3) := by decide +kernel
theorem dX2_put_35 : decode cX2_put 35 = .ok (.aload_n 0, 1) := by decide +kernel
theorem dX2_put_36 : decode cX2_put 36 = .ok (.getfield 22, 3) := by decide +kernel
theorem dX2_put_39 : decode cX2_put 39 = .ok (.lload_n 3, 1) := by decide +kernel
theorem dX2_put_40 : decode cX2_put 40 = .ok (.lastore, 1) := by decide +kernel
theorem dX2_put_41 : decode cX2_put 41 = .ok (.aload_n 0, 1) := by decide +kernel
theorem dX2_put_42 : decode cX2_put 42 = .ok (.dup, 1) := by decide +kernel
theorem dX2_put_43 : decode cX2_put 43 = .ok (.getfield 22, 3) := by decide +kernel
theorem dX2_put_46 : decode cX2_put 46 = .ok (.iconst 1, 1) := by decide +kernel
theorem dX2_put_47 : decode cX2_put 47 = .ok (.iadd, 1) := by decide +kernel
theorem dX2_put_48 : decode cX2_put 48 = .ok (.putfield 22, 3) := by decide +kernel
theorem dX2_put_51 : decode cX2_put 51 = .ok (.return_, 1) := by decide +kernel
theorem dX3_init_0 : decode cX3_init 0 = .ok (.aload_n 0, 1) := by decide +kernel
theorem dX3_init_1 : decode cX3_init 1 = .ok (.invokespecial 3, 3) := by decide +kernel
theorem dX3_init_4 : decode cX3_init 4 = .ok (.aload_n 0, 1) := by decide +kernel
theorem dX3_init_5 : decode cX3_init 5 = .ok (.bipush 32, 2) := by decide +kernel
theorem dX3_init_7 : decode cX3_init 7 = .ok (.newarray .int, 2) := by decide +kernel
theorem dX3_init_9 : decode cX3_init 9 = .ok (.putfield 9, 3) := by decide +kernel
theorem dX3_init_12 : decode cX3_init 12 = .ok (.aload_n 0, 1) := by decide +kernel
theorem dX3_init_13 : decode cX3_init 13 = .ok (.bipush 32, 2) := by decide +kernel
theorem dX3_init_15 : decode cX3_init 15 = .ok (.newarray .int, 2) := by decide +kernel
theorem dX3_init_17 : decode cX3_init 17 = .ok (.putfield 15, 3) := by decide +kernel
theorem dX3_init_20 : decode cX3_init 20 = .ok (.aload_n 0, 1) := by decide +kernel
theorem dX3_init_21 : decode cX3_init 21 = .ok (.bipush 32, 2) := by decide +kernel
theorem dX3_init_23 : decode cX3_init 23 = .ok (.newarray .int, 2) := by decide +kernel
theorem dX3_init_25 : decode cX3_init 25 = .ok (.putfield 18, 3) := by decide +kernel
theorem dX3_init_28 : decode cX3_init 28 = .ok (.aload_n 0, 1) := by decide +kernel
theorem dX3_init_29 : decode cX3_init 29 = .ok (.bipush 32, 2) := by decide +kernel
theorem dX3_init_31 : decode cX3_init 31 = .ok (.newarray .int, 2) := by decide +kernel
theorem dX3_init_33 : decode cX3_init 33 = .ok (.putfield 21, 3) := by decide +kernel
theorem dX3_init_36 : decode cX3_init 36 = .ok (.aload_n 0, 1) := by decide +kernel
theorem dX3_init_37 : decode cX3_init 37 = .ok (.invokevirtual 24, 3) := by decide +kernel
theorem dX3_init_40 : decode cX3_init 40 = .ok (.return_, 1) := by decide +kernel
theorem dX3_begin_0 : decode cX3_begin 0 = .ok (.aload_n 0, 1) := by decide +kernel
theorem dX3_begin_1 : decode cX3_begin 1 = .ok (.iconst 0, 1) := by decide +kernel
theorem dX3_begin_2 : decode cX3_begin 2 = .ok (.putfield 27, 3) := by decide +kernel
theorem dX3_begin_5 : decode cX3_begin 5 = .ok (.aload_n 0, 1) := by decide +kernel
theorem dX3_begin_6 : decode cX3_begin 6 = .ok (.iconst 0, 1) := by decide +kernel
theorem dX3_begin_7 : decode cX3_begin 7 = .ok (.putfield 31, 3) := by decide +kernel
theorem dX3_begin_10 : decode cX3_begin 10 = .ok (.aload_n 0, 1) := by decide +kernel
theorem dX3_begin_11 : decode cX3_begin 11 = .ok (.bipush 8, 2) := by decide +kernel
theorem dX3_begin_13 : decode cX3_begin 13 = .ok (.iconst 4, 1) := by decide +kernel
theorem dX3_begin_14 : decode cX3_begin 14 = .ok (.invokevirtual 34, 3) := by decide +kernel
theorem dX3_begin_17 : decode cX3_begin 17 = .ok (.return_, 1) := by decide +kernel
theorem dX3_giveAllToOne_0 : decode cX3_giveAllToOne 0 = .ok (.aload_n 0, 1) := by decide +kernel
theorem dX3_giveAllToOne_1 : decode cX3_giveAllToOne 1 = .ok (.iload_n 1, 1) := by decide +kernel
theorem dX3_giveAllToOne_2 : decode cX3_giveAllToOne 2 = .ok (.putfield 38, 3) := by decide +kernel
theorem dX3_giveAllToOne_5 : decode cX3_giveAllToOne 5 = .ok (.aload_n 0, 1) := by decide +kernel
theorem dX3_giveAllToOne_6 : decode cX3_giveAllToOne 6 = .ok (.iload_n 2, 1) := by decide +kernel
theorem dX3_giveAllToOne_7 : decode cX3_giveAllToOne 7 = .ok (.putfield 41, 3) := by decide +kernel
theorem dX3_giveAllToOne_10 : decode cX3_giveAllToOne 10 = .ok (.aload_n 0, 1) := by decide +kernel
theorem dX3_giveAllToOne_11 : decode cX3_giveAllToOne 11 = .ok (.iconst 1, 1) := by decide +kernel
theorem dX3_giveAllToOne_12 : decode cX3_giveAllToOne 12 = .ok (.putfield 44, 3) := by decide +kernel
theorem dX3_giveAllToOne_15 : decode cX3_giveAllToOne 15 = .ok (.aload_n 0, 1) := by decide +kernel
theorem dX3_giveAllToOne_16 : decode cX3_giveAllToOne 16 = .ok (.getfield 9, 3) := by decide +kernel
theorem dX3_giveAllToOne_19 : decode cX3_giveAllToOne 19 = .ok (.iconst 0, 1) := by decide +kernel
theorem dX3_giveAllToOne_20 : decode cX3_giveAllToOne 20 = .ok (.invokestatic 47, 3) := by decide +kernel
theorem dX3_giveAllToOne_23 : decode cX3_giveAllToOne 23 = .ok (.aload_n 0, 1) := by decide +kernel
theorem dX3_giveAllToOne_24 : decode cX3_giveAllToOne 24 = .ok (.getfield 15, 3) := by decide +kernel
theorem dX3_giveAllToOne_27 : decode cX3_giveAllToOne 27 = .ok (.iconst 1, 1) := by decide +kernel
theorem dX3_giveAllToOne_28 : decode cX3_giveAllToOne 28 = .ok (.invokestatic 47, 3) := by decide +kernel
theorem dX3_giveAllToOne_31 : decode cX3_giveAllToOne 31 = .ok (.aload_n 0, 1) := by decide +kernel
theorem dX3_giveAllToOne_32 : decode cX3_giveAllToOne 32 = .ok (.getfield 18, 3) := by decide +kernel
theorem dX3_giveAllToOne_35 : decode cX3_giveAllToOne 35 = .ok (.iconst 0, 1) := by decide +kernel
theorem dX3_giveAllToOne_36 : decode cX3_giveAllToOne 36 = .ok (.invokestatic 47, 3) := by decide +kernel
theorem dX3_giveAllToOne_39 : decode cX3_giveAllToOne 39 = .ok (.return_, 1) := by decide +kernel
theorem dX3_groupOf_0 : decode cX3_groupOf 0 = .ok (.iload_n 1, 1) := by decide +kernel
theorem dX3_groupOf_1 : decode cX3_groupOf 1 = .ok (.ldc 53, 2) := by decide +kernel
theorem dX3_groupOf_3 : decode cX3_groupOf 3 = .ok (.imul, 1) := by decide +kernel
theorem dX3_groupOf_4 : decode cX3_groupOf 4 = .ok (.bipush 7, 2) := by decide +kernel
theorem dX3_groupOf_6 : decode cX3_groupOf 6 = .ok (.iload_n 1, 1) := by decide +kernel
theorem dX3_groupOf_7 : decode cX3_groupOf 7 = .ok (.imul, 1) := by decide +kernel
theorem dX3_groupOf_8 : decode cX3_groupOf 8 = .ok (.iadd, 1) := by decide +kernel
theorem dX3_groupOf_9 : decode cX3_groupOf 9 = .ok (.istore_n 2, 1) := by decide +kernel
theorem dX3_groupOf_10 : decode cX3_groupOf 10 = .ok (.iload_n 2, 1) := by decide +kernel
theorem dX3_groupOf_11 : decode cX3_groupOf 11 = .ok (.iload_n 2, 1) := by decide +kernel
theorem dX3_groupOf_12 : decode cX3_groupOf 12 = .ok (.bipush 15, 2) := by decide +kernel
theorem dX3_groupOf_14 : decode cX3_groupOf 14 = .ok (.iushr, 1) := by decide +kernel
theorem dX3_groupOf_15 : decode cX3_groupOf 15 = .ok (.ixor, 1) := by decide +kernel
theorem dX3_groupOf_16 : decode cX3_groupOf 16 = .ok (.istore_n 3, 1) := by decide +kernel
theorem dX3_groupOf_17 : decode cX3_groupOf 17 = .ok (.iload_n 3, 1) := by decide +kernel
theorem dX3_groupOf_18 : decode cX3_groupOf 18 = .ok (.iconst 1, 1) := by decide +kernel
theorem dX3_groupOf_19 : decode cX3_groupOf 19 = .ok (.iushr, 1) := by decide +kernel
theorem dX3_groupOf_20 : decode cX3_groupOf 20 = .ok (.aload_n 0, 1) := by decide +kernel
theorem dX3_groupOf_21 : decode cX3_groupOf 21 = .ok (.getfield 38, 3) := by decide +kernel
theorem dX3_groupOf_24 : decode cX3_groupOf 24 = .ok (.irem, 1) := by decide +kernel
theorem dX3_groupOf_25 : decode cX3_groupOf 25 = .ok (.ireturn, 1) := by decide +kernel
theorem dX3_follow_0 : decode cX3_follow 0 = .ok (.aload_n 0, 1) := by decide +kernel
theorem dX3_follow_1 : decode cX3_follow 1 = .ok (.iconst 0, 1) := by decide +kernel
theorem dX3_follow_2 : decode cX3_follow 2 = .ok (.putfield 31, 3) := by decide +kernel
theorem dX3_follow_5 : decode cX3_follow 5 = .ok (.iconst 0, 1) := by decide +kernel
theorem dX3_follow_6 : decode cX3_follow 6 = .ok (.istore_n 3, 1) := by decide +kernel
theorem dX3_follow_7 : decode cX3_follow 7 = .ok (.iload_n 3, 1) := by decide +kernel
theorem dX3_follow_8 : decode cX3_follow 8 = .ok (.aload_n 0, 1) := by decide +kernel
theorem dX3_follow_9 : decode cX3_follow 9 = .ok (.getfield 38, 3) := by decide +kernel
theorem dX3_follow_12 : decode cX3_follow 12 = .ok (.if_icmp .ge 70, 3) := by decide +kernel
theorem dX3_follow_15 : decode cX3_follow 15 = .ok (.aload_n 0, 1) := by decide +kernel
theorem dX3_follow_16 : decode cX3_follow 16 = .ok (.getfield 9, 3) := by decide +kernel
theorem dX3_follow_19 : decode cX3_follow 19 = .ok (.iload_n 3, 1) := by decide +kernel
theorem dX3_follow_20 : decode cX3_follow 20 = .ok (.iaload, 1) := by decide +kernel
theorem dX3_follow_21 : decode cX3_follow 21 = .ok (.aload_n 1, 1) := by decide +kernel
theorem dX3_follow_22 : decode cX3_follow 22 = .ok (.iload_n 3, 1) := by decide +kernel
theorem dX3_follow_23 : decode cX3_follow 23 = .ok (.iaload, 1) := by decide +kernel
theorem dX3_follow_24 : decode cX3_follow 24 = .ok (.if_icmp .eq 42, 3) := by decide +kernel
theorem dX3_follow_27 : decode cX3_follow 27 = .ok (.aload_n 0, 1) := by decide +kernel
theorem dX3_follow_28 : decode cX3_follow 28 = .ok (.getfield 9, 3) := by decide +kernel
theorem dX3_follow_31 : decode cX3_follow 31 = .ok (.iload_n 3, 1) := by decide +kernel
theorem dX3_follow_32 : decode cX3_follow 32 = .ok (.aload_n 1, 1) := by decide +kernel
theorem dX3_follow_33 : decode cX3_follow 33 = .ok (.iload_n 3, 1) := by decide +kernel
theorem dX3_follow_34 : decode cX3_follow 34 = .ok (.iaload, 1) := by decide +kernel
theorem dX3_follow_35 : decode cX3_follow 35 = .ok (.iastore, 1) := by decide +kernel
theorem dX3_follow_36 : decode cX3_follow 36 = .ok (.aload_n 0, 1) := by decide +kernel
theorem dX3_follow_37 : decode cX3_follow 37 = .ok (.getfield 15, 3) := by decide +kernel
theorem dX3_follow_40 : decode cX3_follow 40 = .ok (.iload_n 3, 1) := by decide +kernel
theorem dX3_follow_41 : decode cX3_follow 41 = .ok (.dup2, 1) := by decide +kernel
theorem dX3_follow_42 : decode cX3_follow 42 = .ok (.iaload, 1) := by decide +kernel
theorem dX3_follow_43 : decode cX3_follow 43 = .ok (.iconst 1, 1) := by decide +kernel
theorem dX3_follow_44 : decode cX3_follow 44 = .ok (.iadd, 1) := by decide +kernel
theorem dX3_follow_45 : decode cX3_follow 45 = .ok (.iastore, 1) := by decide +kernel
theorem dX3_follow_46 : decode cX3_follow 46 = .ok (.aload_n 0, 1) := by decide +kernel
theorem dX3_follow_47 : decode cX3_follow 47 = .ok (.getfield 21, 3) := by decide +kernel
theorem dX3_follow_50 : decode cX3_follow 50 = .ok (.aload_n 0, 1) := by decide +kernel
theorem dX3_follow_51 : decode cX3_follow 51 = .ok (.getfield 31, 3) := by decide +kernel
theorem dX3_follow_54 : decode cX3_follow 54 = .ok (.iload_n 3, 1) := by decide +kernel
theorem dX3_follow_55 : decode cX3_follow 55 = .ok (.iastore, 1) := by decide +kernel
theorem dX3_follow_56 : decode cX3_follow 56 = .ok (.aload_n 0, 1) := by decide +kernel
theorem dX3_follow_57 : decode cX3_follow 57 = .ok (.dup, 1) := by decide +kernel
theorem dX3_follow_58 : decode cX3_follow 58 = .ok (.getfield 31, 3) := by decide +kernel
theorem dX3_follow_61 : decode cX3_follow 61 = .ok (.iconst 1, 1) := by decide +kernel
theorem dX3_follow_62 : decode cX3_follow 62 = .ok (.iadd, 1) := by decide +kernel
theorem dX3_follow_63 : decode cX3_follow 63 = .ok (.putfield 31, 3) := by decide +kernel
theorem dX3_follow_66 : decode cX3_follow 66 = .ok (.aload_n 0, 1) := by decide +kernel
theorem dX3_follow_67 : decode cX3_follow 67 = .ok (.getfield 18, 3) := by decide +kernel
theorem dX3_follow_70 : decode cX3_follow 70 = .ok (.iload_n 3, 1) := by decide +kernel
theorem dX3_follow_71 : decode cX3_follow 71 = .ok (.dup2, 1) := by decide +kernel
theorem dX3_follow_72 : decode cX3_follow 72 = .ok (.iaload, 1) := by decide +kernel
theorem dX3_follow_73 : decode cX3_follow 73 = .ok (.iconst 2, 1) := by decide +kernel
theorem dX3_follow_74 : decode cX3_follow 74 = .ok (.idiv, 1) := by decide +kernel
theorem dX3_follow_75 : decode cX3_follow 75 = .ok (.iastore, 1) := by decide +kernel
theorem dX3_follow_76 : decode cX3_follow 76 = .ok (.iinc 3 1, 3) := by decide +kernel
theorem dX3_follow_79 : decode cX3_follow 79 = .ok (.goto (-72), 3) := by decide +kernel
theorem dX3_follow_82 : decode cX3_follow 82 = .ok (.aload_n 0, 1) := by decide +kernel
theorem dX3_follow_83 : decode cX3_follow 83 = .ok (.iload_n 2, 1) := by decide +kernel
theorem dX3_follow_84 : decode cX3_follow 84 = .ok (.putfield 44, 3) := by decide +kernel
theorem dX3_follow_87 : decode cX3_follow 87 = .ok (.aload_n 0, 1) := by decide +kernel
theorem dX3_follow_88 : decode cX3_follow 88 = .ok (.dup, 1) := by decide +kernel
theorem dX3_follow_89 : decode cX3_follow 89 = .ok (.getfield 27, 3) := by decide +kernel
theorem dX3_follow_92 : decode cX3_follow 92 = .ok (.iconst 1, 1) := by decide +kernel
theorem dX3_follow_93 : decode cX3_follow 93 = .ok (.iadd, 1) := by decide +kernel
theorem dX3_follow_94 : decode cX3_follow 94 = .ok (.putfield 27, 3) := by decide +kernel
theorem dX3_follow_97 : decode cX3_follow 97 = .ok (.aload_n 0, 1) := by decide +kernel
theorem dX3_follow_98 : decode cX3_follow 98 = .ok (.getfield 31, 3) := by decide +kernel
theorem dX3_follow_101 : decode cX3_follow 101 = .ok (.ireturn, 1) := by decide +kernel
theorem dX3_startAnew_0 : decode cX3_startAnew 0 = .ok (.iconst 0, 1) := by decide +kernel
theorem dX3_startAnew_1 : decode cX3_startAnew 1 = .ok (.istore_n 3, 1) := by decide +kernel
theorem dX3_startAnew_2 : decode cX3_startAnew 2 = .ok (.iload_n 3, 1) := by decide +kernel
theorem dX3_startAnew_3 : decode cX3_startAnew 3 = .ok (.aload_n 0, 1) := by decide +kernel
theorem dX3_startAnew_4 : decode cX3_startAnew 4 = .ok (.getfield 38, 3) := by decide +kernel
theorem dX3_startAnew_7 : decode cX3_startAnew 7 = .ok (.if_icmp .ge 35, 3) := by decide +kernel
theorem dX3_startAnew_10 : decode cX3_startAnew 10 = .ok (.aload_n 0, 1) := by decide +kernel
theorem dX3_startAnew_11 : decode cX3_startAnew 11 = .ok (.getfield 9, 3) := by decide +kernel
theorem dX3_startAnew_14 : decode cX3_startAnew 14 = .ok (.iload_n 3, 1) := by decide +kernel
theorem dX3_startAnew_15 : decode cX3_startAnew 15 = .ok (.aload_n 1, 1) := by decide +kernel
theorem dX3_startAnew_16 : decode cX3_startAnew 16 = .ok (.iload_n 3, 1) := by decide +kernel
theorem dX3_startAnew_17 : decode cX3_startAnew 17 = .ok (.iaload, 1) := by decide +kernel
theorem dX3_startAnew_18 : decode cX3_startAnew 18 = .ok (.iastore, 1) := by decide +kernel
theorem dX3_startAnew_19 : decode cX3_startAnew 19 = .ok (.aload_n 0, 1) := by decide +kernel
theorem dX3_startAnew_20 : decode cX3_startAnew 20 = .ok (.getfield 15, 3) := by decide +kernel
theorem dX3_startAnew_23 : decode cX3_startAnew 23 = .ok (.iload_n 3, 1) := by decide +kernel
theorem dX3_startAnew_24 : decode cX3_startAnew 24 = .ok (.dup2, 1) := by decide +kernel
theorem dX3_startAnew_25 : decode cX3_startAnew 25 = .ok (.iaload, 1) := by decide +kernel
theorem dX3_startAnew_26 : decode cX3_startAnew 26 = .ok (.iconst 1, 1) := by decide +kernel
theorem dX3_startAnew_27 : decode cX3_startAnew 27 = .ok (.iadd, 1) := by decide +kernel
theorem dX3_startAnew_28 : decode cX3_startAnew 28 = .ok (.iastore, 1) := by decide +kernel
theorem dX3_startAnew_29 : decode cX3_startAnew 29 = .ok (.aload_n 0, 1) := by decide +kernel
theorem dX3_startAnew_30 : decode cX3_startAnew 30 = .ok (.getfield 18, 3) := by decide +kernel
theorem dX3_startAnew_33 : decode cX3_startAnew 33 = .ok (.iload_n 3, 1) := by decide +kernel
theorem dX3_startAnew_34 : decode cX3_startAnew 34 = .ok (.iconst 0, 1) := by decide +kernel
theorem dX3_startAnew_35 : decode cX3_startAnew 35 = .ok (.iastore, 1) := by decide +kernel
theorem dX3_startAnew_36 : decode cX3_startAnew 36 = .ok (.iinc 3 1, 3) := by decide +kernel
theorem dX3_startAnew_39 : decode cX3_startAnew 39 = .ok (.goto (-37), 3) := by decide +kernel
theorem dX3_startAnew_42 : decode cX3_startAnew 42 = .ok (.aload_n 0, 1) := by decide +kernel
theorem dX3_startAnew_43 : decode cX3_startAnew 43 = .ok (.iload_n 2, 1) := by decide +kernel
theorem dX3_startAnew_44 : decode cX3_startAnew 44 = .ok (.putfield 44, 3) := by decide +kernel
theorem dX3_startAnew_47 : decode cX3_startAnew 47 = .ok (.return_, 1) := by decide +kernel
theorem dX3_totalWeight_0 : decode cX3_totalWeight 0 = .ok (.iconst 0, 1) := by decide +kernel
theorem dX3_totalWeight_1 : decode cX3_totalWeight 1 = .ok (.istore_n 1, 1) := by decide +kernel
theorem dX3_totalWeight_2 : decode cX3_totalWeight 2 = .ok (.iconst 0, 1) := by decide +kernel
theorem dX3_totalWeight_3 : decode cX3_totalWeight 3 = .ok (.istore_n 2, 1) := by decide +kernel
theorem dX3_totalWeight_4 : decode cX3_totalWeight 4 = .ok (.iload_n 2, 1) := by decide +kernel
theorem dX3_totalWeight_5 : decode cX3_totalWeight 5 = .ok (.aload_n 0, 1) := by decide +kernel
theorem dX3_totalWeight_6 : decode cX3_totalWeight 6 = .ok (.getfield 38, 3) := by decide +kernel
theorem dX3_totalWeight_9 : decode cX3_totalWeight 9 = .ok (.if_icmp .ge 18, 3) := by decide +kernel
theorem dX3_totalWeight_12 : decode cX3_totalWeight 12 = .ok (.iload_n 1, 1) := by decide +kernel
theorem dX3_totalWeight_13 : decode cX3_totalWeight 13 = .ok (.aload_n 0, 1) := by decide +kernel
theorem dX3_totalWeight_14 : decode cX3_totalWeight 14 = .ok (.getfield 18, 3) := by decide +kernel
theorem dX3_totalWeight_17 : decode cX3_totalWeight 17 = .ok (.iload_n 2, 1) := by decide +kernel
theorem dX3_totalWeight_18 : decode cX3_totalWeight 18 = .ok (.iaload, 1) := by decide +kernel
theorem dX3_totalWeight_19 : decode cX3_totalWeight 19 = .ok (.iadd, 1) := by decide +kernel
theorem dX3_totalWeight_20 : decode cX3_totalWeight 20 = .ok (.istore_n 1, 1) := by decide +kernel
theorem dX3_totalWeight_21 : decode cX3_totalWeight 21 = .ok (.iinc 2 1, 3) := by decide +kernel
theorem dX3_totalWeight_24 : decode cX3_totalWeight 24 = .ok (.goto (-20), 3) := by decide +kernel
theorem dX3_totalWeight_27 : decode cX3_totalWeight 27 = .ok (.iload_n 1, 1) := by decide +kernel
theorem dX3_totalWeight_28 : decode cX3_totalWeight 28 = .ok (.ireturn, 1) := by decide +kernel
theorem dX3_firstOf_0 : decode cX3_firstOf 0 = .ok (.iconst 0, 1) := by decide +kernel
theorem dX3_firstOf_1 : decode cX3_firstOf 1 = .ok (.istore_n 2, 1) := by decide +kernel
theorem dX3_firstOf_2 : decode cX3_firstOf 2 = .ok (.iload_n 2, 1) := by decide +kernel
theorem dX3_firstOf_3 : decode cX3_firstOf 3 = .ok (.aload_n 0, 1) := by decide +kernel
theorem dX3_firstOf_4 : decode cX3_firstOf 4 = .ok (.getfield 38, 3) := by decide +kernel
theorem dX3_firstOf_7 : decode cX3_firstOf 7 = .ok (.if_icmp .ge 21, 3) := by decide +kernel
theorem dX3_firstOf_10 : decode cX3_firstOf 10 = .ok (.aload_n 0, 1) := by decide +kernel
theorem dX3_firstOf_11 : decode cX3_firstOf 11 = .ok (.getfield 9, 3) := by decide +kernel
theorem dX3_firstOf_14 : decode cX3_firstOf 14 = .ok (.iload_n 2, 1) := by decide +kernel
theorem dX3_firstOf_15 : decode cX3_firstOf 15 = .ok (.iaload, 1) := by decide +kernel
theorem dX3_firstOf_16 : decode cX3_firstOf 16 = .ok (.iload_n 1, 1) := by decide +kernel
theorem dX3_firstOf_17 : decode cX3_firstOf 17 = .ok (.if_icmp .ne 5, 3) := by decide +kernel
theorem dX3_firstOf_20 : decode cX3_firstOf 20 = .ok (.iload_n 2, 1) := by decide +kernel
theorem dX3_firstOf_21 : decode cX3_firstOf 21 = .ok (.ireturn, 1) := by decide +kernel
theorem dX3_firstOf_22 : decode cX3_firstOf 22 = .ok (.iinc 2 1, 3) := by decide +kernel
theorem dX3_firstOf_25 : decode cX3_firstOf 25 = .ok (.goto (-23), 3) := by decide +kernel
theorem dX3_firstOf_28 : decode cX3_firstOf 28 = .ok (.bipush (-106), 2) := by decide +kernel
theorem dX3_firstOf_30 : decode cX3_firstOf 30 = .ok (.ireturn, 1) := by decide +kernel
theorem dX3_countOf_0 : decode cX3_countOf 0 = .ok (.iconst 0, 1) := by decide +kernel
theorem dX3_countOf_1 : decode cX3_countOf 1 = .ok (.istore_n 2, 1) := by decide +kernel
theorem dX3_countOf_2 : decode cX3_countOf 2 = .ok (.iconst 0, 1) := by decide +kernel
theorem dX3_countOf_3 : decode cX3_countOf 3 = .ok (.istore_n 3, 1) := by decide +kernel
theorem dX3_countOf_4 : decode cX3_countOf 4 = .ok (.iload_n 3, 1) := by decide +kernel
theorem dX3_countOf_5 : decode cX3_countOf 5 = .ok (.aload_n 0, 1) := by decide +kernel
theorem dX3_countOf_6 : decode cX3_countOf 6 = .ok (.getfield 38, 3) := by decide +kernel
theorem dX3_countOf_9 : decode cX3_countOf 9 = .ok (.if_icmp .ge 22, 3) := by decide +kernel
theorem dX3_countOf_12 : decode cX3_countOf 12 = .ok (.aload_n 0, 1) := by decide +kernel
theorem dX3_countOf_13 : decode cX3_countOf 13 = .ok (.getfield 9, 3) := by decide +kernel
theorem dX3_countOf_16 : decode cX3_countOf 16 = .ok (.iload_n 3, 1) := by decide +kernel
theorem dX3_countOf_17 : decode cX3_countOf 17 = .ok (.iaload, 1) := by decide +kernel
theorem dX3_countOf_18 : decode cX3_countOf 18 = .ok (.iload_n 1, 1) := by decide +kernel
theorem dX3_countOf_19 : decode cX3_countOf 19 = .ok (.if_icmp .ne 6, 3) := by decide +kernel
theorem dX3_countOf_22 : decode cX3_countOf 22 = .ok (.iinc 2 1, 3) := by decide +kernel
theorem dX3_countOf_25 : decode cX3_countOf 25 = .ok (.iinc 3 1, 3) := by decide +kernel
theorem dX3_countOf_28 : decode cX3_countOf 28 = .ok (.goto (-24), 3) := by decide +kernel
theorem dX3_countOf_31 : decode cX3_countOf 31 = .ok (.iload_n 2, 1) := by decide +kernel
theorem dX3_countOf_32 : decode cX3_countOf 32 = .ok (.ireturn, 1) := by decide +kernel
theorem dX3_weightOf_0 : decode cX3_weightOf 0 = .ok (.iconst 0, 1) := by decide +kernel
theorem dX3_weightOf_1 : decode cX3_weightOf 1 = .ok (.istore_n 2, 1) := by decide +kernel
theorem dX3_weightOf_2 : decode cX3_weightOf 2 = .ok (.iconst 0, 1) := by decide +kernel
theorem dX3_weightOf_3 : decode cX3_weightOf 3 = .ok (.istore_n 3, 1) := by decide +kernel
theorem dX3_weightOf_4 : decode cX3_weightOf 4 = .ok (.iload_n 3, 1) := by decide +kernel
theorem dX3_weightOf_5 : decode cX3_weightOf 5 = .ok (.aload_n 0, 1) := by decide +kernel
theorem dX3_weightOf_6 : decode cX3_weightOf 6 = .ok (.getfield 38, 3) := by decide +kernel
theorem dX3_weightOf_9 : decode cX3_weightOf 9 = .ok (.if_icmp .ge 28, 3) := by decide +kernel
theorem dX3_weightOf_12 : decode cX3_weightOf 12 = .ok (.aload_n 0, 1) := by decide +kernel
theorem dX3_weightOf_13 : decode cX3_weightOf 13 = .ok (.getfield 9, 3) := by decide +kernel
theorem dX3_weightOf_16 : decode cX3_weightOf 16 = .ok (.iload_n 3, 1) := by decide +kernel
theorem dX3_weightOf_17 : decode cX3_weightOf 17 = .ok (.iaload, 1) := by decide +kernel
theorem dX3_weightOf_18 : decode cX3_weightOf 18 = .ok (.iload_n 1, 1) := by decide +kernel
theorem dX3_weightOf_19 : decode cX3_weightOf 19 = .ok (.if_icmp .ne 12, 3) := by decide +kernel
theorem dX3_weightOf_22 : decode cX3_weightOf 22 = .ok (.iload_n 2, 1) := by decide +kernel
theorem dX3_weightOf_23 : decode cX3_weightOf 23 = .ok (.aload_n 0, 1) := by decide +kernel
theorem dX3_weightOf_24 : decode cX3_weightOf 24 = .ok (.getfield 18, 3) := by decide +kernel
theorem dX3_weightOf_27 : decode cX3_weightOf 27 = .ok (.iload_n 3, 1) := by decide +kernel
theorem dX3_weightOf_28 : decode cX3_weightOf 28 = .ok (.iaload, 1) := by decide +kernel
theorem dX3_weightOf_29 : decode cX3_weightOf 29 = .ok (.iadd, 1) := by decide +kernel
theorem dX3_weightOf_30 : decode cX3_weightOf 30 = .ok (.istore_n 2, 1) := by decide +kernel
theorem dX3_weightOf_31 : decode cX3_weightOf 31 = .ok (.iinc 3 1, 3) := by decide +kernel
theorem dX3_weightOf_34 : decode cX3_weightOf 34 = .ok (.goto (-30), 3) := by decide +kernel
theorem dX3_weightOf_37 : decode cX3_weightOf 37 = .ok (.iload_n 2, 1) := by decide +kernel
theorem dX3_weightOf_38 : decode cX3_weightOf 38 = .ok (.ireturn, 1) := by decide +kernel
theorem dX3_isHot_0 : decode cX3_isHot 0 = .ok (.aload_n 0, 1) := by decide +kernel
theorem dX3_isHot_1 : decode cX3_isHot 1 = .ok (.getfield 18, 3) := by decide +kernel
theorem dX3_isHot_4 : decode cX3_isHot 4 = .ok (.iload_n 1, 1) := by decide +kernel
theorem dX3_isHot_5 : decode cX3_isHot 5 = .ok (.iaload, 1) := by decide +kernel
theorem dX3_isHot_6 : decode cX3_isHot 6 = .ok (.aload_n 0, 1) := by decide +kernel
theorem dX3_isHot_7 : decode cX3_isHot 7 = .ok (.getfield 38, 3) := by decide +kernel
theorem dX3_isHot_10 : decode cX3_isHot 10 = .ok (.imul, 1) := by decide +kernel
theorem dX3_isHot_11 : decode cX3_isHot 11 = .ok (.iconst 2, 1) := by decide +kernel
theorem dX3_isHot_12 : decode cX3_isHot 12 = .ok (.iload_n 2, 1) := by decide +kernel
theorem dX3_isHot_13 : decode cX3_isHot 13 = .ok (.imul, 1) := by decide +kernel
theorem dX3_isHot_14 : decode cX3_isHot 14 = .ok (.if_icmp .le 7, 3) := by decide +kernel
theorem dX3_isHot_17 : decode cX3_isHot 17 = .ok (.iconst 1, 1) := by decide +kernel
theorem dX3_isHot_18 : decode cX3_isHot 18 = .ok (.goto 4, 3) := by decide +kernel
theorem dX3_isHot_21 : decode cX3_isHot 21 = .ok (.iconst 0, 1) := by decide +kernel
theorem dX3_isHot_22 : decode cX3_isHot 22 = .ok (.ireturn, 1) := by decide +kernel
theorem dX3_aheadOf_0 : decode cX3_aheadOf 0 = .ok (.iconst 0, 1) := by decide +kernel
theorem dX3_aheadOf_1 : decode cX3_aheadOf 1 = .ok (.istore_n 2, 1) := by decide +kernel
theorem dX3_aheadOf_2 : decode cX3_aheadOf 2 = .ok (.iconst 0, 1) := by decide +kernel
theorem dX3_aheadOf_3 : decode cX3_aheadOf 3 = .ok (.istore_n 3, 1) := by decide +kernel
theorem dX3_aheadOf_4 : decode cX3_aheadOf 4 = .ok (.iload_n 3, 1) := by decide +kernel
theorem dX3_aheadOf_5 : decode cX3_aheadOf 5 = .ok (.aload_n 0, 1) := by decide +kernel
theorem dX3_aheadOf_6 : decode cX3_aheadOf 6 = .ok (.getfield 38, 3) := by decide +kernel
theorem dX3_aheadOf_9 : decode cX3_aheadOf 9 = .ok (.if_icmp .ge 71, 3) := by decide +kernel
theorem dX3_aheadOf_12 : decode cX3_aheadOf 12 = .ok (.aload_n 0, 1) := by decide +kernel
theorem dX3_aheadOf_13 : decode cX3_aheadOf 13 = .ok (.getfield 18, 3) := by decide +kernel
theorem dX3_aheadOf_16 : decode cX3_aheadOf 16 = .ok (.iload_n 3, 1) := by decide +kernel
theorem dX3_aheadOf_17 : decode cX3_aheadOf 17 = .ok (.iaload, 1) := by decide +kernel
theorem dX3_aheadOf_18 : decode cX3_aheadOf 18 = .ok (.aload_n 0, 1) := by decide +kernel
theorem dX3_aheadOf_19 : decode cX3_aheadOf 19 = .ok (.getfield 18, 3) := by decide +kernel
theorem dX3_aheadOf_22 : decode cX3_aheadOf 22 = .ok (.iload_n 1, 1) := by decide +kernel
theorem dX3_aheadOf_23 : decode cX3_aheadOf 23 = .ok (.iaload, 1) := by decide +kernel
theorem dX3_aheadOf_24 : decode cX3_aheadOf 24 = .ok (.if_icmp .le 7, 3) := by decide +kernel
theorem dX3_aheadOf_27 : decode cX3_aheadOf 27 = .ok (.iconst 1, 1) := by decide +kernel
theorem dX3_aheadOf_28 : decode cX3_aheadOf 28 = .ok (.goto 4, 3) := by decide +kernel
theorem dX3_aheadOf_31 : decode cX3_aheadOf 31 = .ok (.iconst 0, 1) := by decide +kernel
theorem dX3_aheadOf_32 : decode cX3_aheadOf 32 = .ok (.istore 4, 2) := by decide +kernel
theorem dX3_aheadOf_34 : decode cX3_aheadOf 34 = .ok (.aload_n 0, 1) := by decide +kernel
theorem dX3_aheadOf_35 : decode cX3_aheadOf 35 = .ok (.getfield 18, 3) := by decide +kernel
theorem dX3_aheadOf_38 : decode cX3_aheadOf 38 = .ok (.iload_n 3, 1) := by decide +kernel
theorem dX3_aheadOf_39 : decode cX3_aheadOf 39 = .ok (.iaload, 1) := by decide +kernel
theorem dX3_aheadOf_40 : decode cX3_aheadOf 40 = .ok (.aload_n 0, 1) := by decide +kernel
theorem dX3_aheadOf_41 : decode cX3_aheadOf 41 = .ok (.getfield 18, 3) := by decide +kernel
theorem dX3_aheadOf_44 : decode cX3_aheadOf 44 = .ok (.iload_n 1, 1) := by decide +kernel
theorem dX3_aheadOf_45 : decode cX3_aheadOf 45 = .ok (.iaload, 1) := by decide +kernel
theorem dX3_aheadOf_46 : decode cX3_aheadOf 46 = .ok (.if_icmp .ne 12, 3) := by decide +kernel
theorem dX3_aheadOf_49 : decode cX3_aheadOf 49 = .ok (.iload_n 3, 1) := by decide +kernel
theorem dX3_aheadOf_50 : decode cX3_aheadOf 50 = .ok (.iload_n 1, 1) := by decide +kernel
theorem dX3_aheadOf_51 : decode cX3_aheadOf 51 = .ok (.if_icmp .ge 7, 3) := by decide +kernel
theorem dX3_aheadOf_54 : decode cX3_aheadOf 54 = .ok (.iconst 1, 1) := by decide +kernel
theorem dX3_aheadOf_55 : decode cX3_aheadOf 55 = .ok (.goto 4, 3) := by decide +kernel
theorem dX3_aheadOf_58 : decode cX3_aheadOf 58 = .ok (.iconst 0, 1) := by decide +kernel
theorem dX3_aheadOf_59 : decode cX3_aheadOf 59 = .ok (.istore 5, 2) := by decide +kernel
theorem dX3_aheadOf_61 : decode cX3_aheadOf 61 = .ok (.iload 4, 2) := by decide +kernel
theorem dX3_aheadOf_63 : decode cX3_aheadOf 63 = .ok (.ifCond .ne 8, 3) := by decide +kernel
theorem dX3_aheadOf_66 : decode cX3_aheadOf 66 = .ok (.iload 5, 2) := by decide +kernel
theorem dX3_aheadOf_68 : decode cX3_aheadOf 68 = .ok (.ifCond .eq 6, 3) := by decide +kernel
theorem dX3_aheadOf_71 : decode cX3_aheadOf 71 = .ok (.iinc 2 1, 3) := by decide +kernel
theorem dX3_aheadOf_74 : decode cX3_aheadOf 74 = .ok (.iinc 3 1, 3) := by decide +kernel
theorem dX3_aheadOf_77 : decode cX3_aheadOf 77 = .ok (.goto (-73), 3) := by decide +kernel
theorem dX3_aheadOf_80 : decode cX3_aheadOf 80 = .ok (.iload_n 2, 1) := by decide +kernel
theorem dX3_aheadOf_81 : decode cX3_aheadOf 81 = .ok (.ireturn, 1) := by decide +kernel
theorem dX3_costToGive_0 : decode cX3_costToGive 0 = .ok (.aload_n 0, 1) := by decide +kernel
theorem dX3_costToGive_1 : decode cX3_costToGive 1 = .ok (.getfield 9, 3) := by decide +kernel
theorem dX3_costToGive_4 : decode cX3_costToGive 4 = .ok (.iload_n 1, 1) := by decide +kernel
theorem dX3_costToGive_5 : decode cX3_costToGive 5 = .ok (.iaload, 1) := by decide +kernel
theorem dX3_costToGive_6 : decode cX3_costToGive 6 = .ok (.iload_n 2, 1) := by decide +kernel
theorem dX3_costToGive_7 : decode cX3_costToGive 7 = .ok (.if_icmp .ne 7, 3) := by decide +kernel
theorem dX3_costToGive_10 : decode cX3_costToGive 10 = .ok (.iconst 0, 1) := by decide +kernel
theorem dX3_costToGive_11 : decode cX3_costToGive 11 = .ok (.goto 11, 3) := by decide +kernel
theorem dX3_costToGive_14 : decode cX3_costToGive 14 = .ok (.aload_n 0, 1) := by decide +kernel
theorem dX3_costToGive_15 : decode cX3_costToGive 15 = .ok (.getfield 18, 3) := by decide +kernel
theorem dX3_costToGive_18 : decode cX3_costToGive 18 = .ok (.iload_n 1, 1) := by decide +kernel
theorem dX3_costToGive_19 : decode cX3_costToGive 19 = .ok (.iaload, 1) := by decide +kernel
theorem dX3_costToGive_20 : decode cX3_costToGive 20 = .ok (.iconst 1, 1) := by decide +kernel
theorem dX3_costToGive_21 : decode cX3_costToGive 21 = .ok (.iadd, 1) := by decide +kernel
theorem dX3_costToGive_22 : decode cX3_costToGive 22 = .ok (.ireturn, 1) := by decide +kernel
theorem dX4_init_0 : decode cX4_init 0 = .ok (.aload_n 0, 1) := by decide +kernel
theorem dX4_init_1 : decode cX4_init 1 = .ok (.invokespecial 3, 3) := by decide +kernel
theorem dX4_init_4 : decode cX4_init 4 = .ok (.aload_n 0, 1) := by decide +kernel
theorem dX4_init_5 : decode cX4_init 5 = .ok (.bipush 32, 2) := by decide +kernel
theorem dX4_init_7 : decode cX4_init 7 = .ok (.newarray .int, 2) := by decide +kernel
theorem dX4_init_9 : decode cX4_init 9 = .ok (.putfield 9, 3) := by decide +kernel
theorem dX4_init_12 : decode cX4_init 12 = .ok (.aload_n 0, 1) := by decide +kernel
theorem dX4_init_13 : decode cX4_init 13 = .ok (.bipush 33, 2) := by decide +kernel
theorem dX4_init_15 : decode cX4_init 15 = .ok (.newarray .int, 2) := by decide +kernel
theorem dX4_init_17 : decode cX4_init 17 = .ok (.putfield 15, 3) := by decide +kernel
theorem dX4_init_20 : decode cX4_init 20 = .ok (.aload_n 0, 1) := by decide +kernel
theorem dX4_init_21 : decode cX4_init 21 = .ok (.bipush 12, 2) := by decide +kernel
theorem dX4_init_23 : decode cX4_init 23 = .ok (.bipush 33, 2) := by decide +kernel
theorem dX4_init_25 : decode cX4_init 25 = .ok (.multianewarray 18 2, 4) := by decide +kernel
theorem dX4_init_29 : decode cX4_init 29 = .ok (.putfield 20, 3) := by decide +kernel
theorem dX4_init_32 : decode cX4_init 32 = .ok (.return_, 1) := by decide +kernel
theorem dX4_layEven_0 : decode cX4_layEven 0 = .ok (.iconst 0, 1) := by decide +kernel
theorem dX4_layEven_1 : decode cX4_layEven 1 = .ok (.istore_n 3, 1) := by decide +kernel
theorem dX4_layEven_2 : decode cX4_layEven 2 = .ok (.iload_n 3, 1) := by decide +kernel
theorem dX4_layEven_3 : decode cX4_layEven 3 = .ok (.iload_n 2, 1) := by decide +kernel
theorem dX4_layEven_4 : decode cX4_layEven 4 = .ok (.if_icmp .ge 26, 3) := by decide +kernel
theorem dX4_layEven_7 : decode cX4_layEven 7 = .ok (.aload_n 0, 1) := by decide +kernel
theorem dX4_layEven_8 : decode cX4_layEven 8 = .ok (.iload_n 3, 1) := by decide +kernel
theorem dX4_layEven_9 : decode cX4_layEven 9 = .ok (.iload_n 3, 1) := by decide +kernel
theorem dX4_layEven_10 : decode cX4_layEven 10 = .ok (.iload_n 1, 1) := by decide +kernel
theorem dX4_layEven_11 : decode cX4_layEven 11 = .ok (.imul, 1) := by decide +kernel
theorem dX4_layEven_12 : decode cX4_layEven 12 = .ok (.iload_n 2, 1) := by decide +kernel
theorem dX4_layEven_13 : decode cX4_layEven 13 = .ok (.idiv, 1) := by decide +kernel
theorem dX4_layEven_14 : decode cX4_layEven 14 = .ok (.iload_n 3, 1) := by decide +kernel
theorem dX4_layEven_15 : decode cX4_layEven 15 = .ok (.iconst 1, 1) := by decide +kernel
theorem dX4_layEven_16 : decode cX4_layEven 16 = .ok (.iadd, 1) := by decide +kernel
theorem dX4_layEven_17 : decode cX4_layEven 17 = .ok (.iload_n 1, 1) := by decide +kernel
theorem dX4_layEven_18 : decode cX4_layEven 18 = .ok (.imul, 1) := by decide +kernel
theorem dX4_layEven_19 : decode cX4_layEven 19 = .ok (.iload_n 2, 1) := by decide +kernel
theorem dX4_layEven_20 : decode cX4_layEven 20 = .ok (.idiv, 1) := by decide +kernel
theorem dX4_layEven_21 : decode cX4_layEven 21 = .ok (.invokevirtual 23, 3) := by decide +kernel
theorem dX4_layEven_24 : decode cX4_layEven 24 = .ok (.iinc 3 1, 3) := by decide +kernel
theorem dX4_layEven_27 : decode cX4_layEven 27 = .ok (.goto (-25), 3) := by decide +kernel
theorem dX4_layEven_30 : decode cX4_layEven 30 = .ok (.return_, 1) := by decide +kernel
theorem dX4_layLeast_0 : decode cX4_layLeast 0 = .ok (.aload_n 1, 1) := by decide +kernel
theorem dX4_layLeast_1 : decode cX4_layLeast 1 = .ok (.invokevirtual 27, 3) := by decide +kernel
theorem dX4_layLeast_4 : decode cX4_layLeast 4 = .ok (.iload_n 3, 1) := by decide +kernel
theorem dX4_layLeast_5 : decode cX4_layLeast 5 = .ok (.iload_n 2, 1) := by decide +kernel
theorem dX4_layLeast_6 : decode cX4_layLeast 6 = .ok (.invokestatic 33, 3) := by decide +kernel
theorem dX4_layLeast_9 : decode cX4_layLeast 9 = .ok (.istore 4, 2) := by decide +kernel
theorem dX4_layLeast_11 : decode cX4_layLeast 11 = .ok (.aload_n 0, 1) := by decide +kernel
theorem dX4_layLeast_12 : decode cX4_layLeast 12 = .ok (.getfield 15, 3) := by decide +kernel
theorem dX4_layLeast_15 : decode cX4_layLeast 15 = .ok (.ldc 37, 2) := by decide +kernel
theorem dX4_layLeast_17 : decode cX4_layLeast 17 = .ok (.invokestatic 38, 3) := by decide +kernel
theorem dX4_layLeast_20 : decode cX4_layLeast 20 = .ok (.aload_n 0, 1) := by decide +kernel
theorem dX4_layLeast_21 : decode cX4_layLeast 21 = .ok (.getfield 15, 3) := by decide +kernel
theorem dX4_layLeast_24 : decode cX4_layLeast 24 = .ok (.aload_n 1, 1) := by decide +kernel
theorem dX4_layLeast_25 : decode cX4_layLeast 25 = .ok (.getfield 44, 3) := by decide +kernel
theorem dX4_layLeast_28 : decode cX4_layLeast 28 = .ok (.iconst 0, 1) := by decide +kernel
theorem dX4_layLeast_29 : decode cX4_layLeast 29 = .ok (.iastore, 1) := by decide +kernel
theorem dX4_layLeast_30 : decode cX4_layLeast 30 = .ok (.iload_n 2, 1) := by decide +kernel
theorem dX4_layLeast_31 : decode cX4_layLeast 31 = .ok (.iconst 1, 1) := by decide +kernel
theorem dX4_layLeast_32 : decode cX4_layLeast 32 = .ok (.isub, 1) := by decide +kernel
theorem dX4_layLeast_33 : decode cX4_layLeast 33 = .ok (.istore 5, 2) := by decide +kernel
theorem dX4_layLeast_35 : decode cX4_layLeast 35 = .ok (.iload 5, 2) := by decide +kernel
theorem dX4_layLeast_37 : decode cX4_layLeast 37 = .ok (.ifCond .lt 18, 3) := by decide +kernel
theorem dX4_layLeast_40 : decode cX4_layLeast 40 = .ok (.aload_n 0, 1) := by decide +kernel
theorem dX4_layLeast_41 : decode cX4_layLeast 41 = .ok (.aload_n 1, 1) := by decide +kernel
theorem dX4_layLeast_42 : decode cX4_layLeast 42 = .ok (.iload 5, 2) := by decide +kernel
theorem dX4_layLeast_44 : decode cX4_layLeast 44 = .ok (.iload 4, 2) := by decide +kernel
theorem dX4_layLeast_46 : decode cX4_layLeast 46 = .ok (.invokevirtual 48, 3) := by decide +kernel
theorem dX4_layLeast_49 : decode cX4_layLeast 49 = .ok (.iinc 5 (-1), 3) := by decide +kernel
theorem dX4_layLeast_52 : decode cX4_layLeast 52 = .ok (.goto (-17), 3) := by decide +kernel
theorem dX4_layLeast_55 : decode cX4_layLeast 55 = .ok (.aload_n 0, 1) := by decide +kernel
theorem dX4_layLeast_56 : decode cX4_layLeast 56 = .ok (.getfield 15, 3) := by decide +kernel
theorem dX4_layLeast_59 : decode cX4_layLeast 59 = .ok (.iconst 0, 1) := by decide +kernel
theorem dX4_layLeast_60 : decode cX4_layLeast 60 = .ok (.iaload, 1) := by decide +kernel
theorem dX4_layLeast_61 : decode cX4_layLeast 61 = .ok (.ldc 37, 2) := by decide +kernel
theorem dX4_layLeast_63 : decode cX4_layLeast 63 = .ok (.if_icmp .lt 5, 3) := by decide +kernel
theorem dX4_layLeast_66 : decode cX4_layLeast 66 = .ok (.iconst (-1), 1) := by decide +kernel
theorem dX4_layLeast_67 : decode cX4_layLeast 67 = .ok (.ireturn, 1) := by decide +kernel
theorem dX4_layLeast_68 : decode cX4_layLeast 68 = .ok (.aload_n 0, 1) := by decide +kernel
theorem dX4_layLeast_69 : decode cX4_layLeast 69 = .ok (.iload_n 2, 1) := by decide +kernel
theorem dX4_layLeast_70 : decode cX4_layLeast 70 = .ok (.invokevirtual 52, 3) := by decide +kernel
theorem dX4_layLeast_73 : decode cX4_layLeast 73 = .ok (.aload_n 0, 1) := by decide +kernel
theorem dX4_layLeast_74 : decode cX4_layLeast 74 = .ok (.getfield 15, 3) := by decide +kernel
theorem dX4_layLeast_77 : decode cX4_layLeast 77 = .ok (.iconst 0, 1) := by decide +kernel
theorem dX4_layLeast_78 : decode cX4_layLeast 78 = .ok (.iaload, 1) := by decide +kernel
theorem dX4_layLeast_79 : decode cX4_layLeast 79 = .ok (.ireturn, 1) := by decide +kernel
theorem dX4_limitOf_0 : decode cX4_limitOf 0 = .ok (.bipush 100, 2) := by decide +kernel
theorem dX4_limitOf_2 : decode cX4_limitOf 2 = .ok (.iload_n 2, 1) := by decide +kernel
theorem dX4_limitOf_3 : decode cX4_limitOf 3 = .ok (.imul, 1) := by decide +kernel
theorem dX4_limitOf_4 : decode cX4_limitOf 4 = .ok (.istore_n 3, 1) := by decide +kernel
theorem dX4_limitOf_5 : decode cX4_limitOf 5 = .ok (.iload_n 0, 1) := by decide +kernel
theorem dX4_limitOf_6 : decode cX4_limitOf 6 = .ok (.bipush 100, 2) := by decide +kernel
theorem dX4_limitOf_8 : decode cX4_limitOf 8 = .ok (.iload_n 1, 1) := by decide +kernel
theorem dX4_limitOf_9 : decode cX4_limitOf 9 = .ok (.iadd, 1) := by decide +kernel
theorem dX4_limitOf_10 : decode cX4_limitOf 10 = .ok (.imul, 1) := by decide +kernel
theorem dX4_limitOf_11 : decode cX4_limitOf 11 = .ok (.iload_n 3, 1) := by decide +kernel
theorem dX4_limitOf_12 : decode cX4_limitOf 12 = .ok (.iadd, 1) := by decide +kernel
theorem dX4_limitOf_13 : decode cX4_limitOf 13 = .ok (.iconst 1, 1) := by decide +kernel
theorem dX4_limitOf_14 : decode cX4_limitOf 14 = .ok (.isub, 1) := by decide +kernel
theorem dX4_limitOf_15 : decode cX4_limitOf 15 = .ok (.iload_n 3, 1) := by decide +kernel
theorem dX4_limitOf_16 : decode cX4_limitOf 16 = .ok (.idiv, 1) := by decide +kernel
theorem dX4_limitOf_17 : decode cX4_limitOf 17 = .ok (.ireturn, 1) := by decide +kernel
theorem dX4_putTaskAhead_0 : decode cX4_putTaskAhead 0 = .ok (.iconst 0, 1) := by decide +kernel
theorem dX4_putTaskAhead_1 : decode cX4_putTaskAhead 1 = .ok (.istore 4, 2) := by decide +kernel
theorem dX4_putTaskAhead_3 : decode cX4_putTaskAhead 3 = .ok (.iload 4, 2) := by decide +kernel
theorem dX4_putTaskAhead_5 : decode cX4_putTaskAhead 5 = .ok (.aload_n 1, 1) := by decide +kernel
theorem dX4_putTaskAhead_6 : decode cX4_putTaskAhead 6 = .ok (.getfield 44, 3) := by decide +kernel
theorem dX4_putTaskAhead_9 : decode cX4_putTaskAhead 9 = .ok (.if_icmp .gt 25, 3) := by decide +kernel
theorem dX4_putTaskAhead_12 : decode cX4_putTaskAhead 12 = .ok (.aload_n 0, 1) := by decide +kernel
theorem dX4_putTaskAhead_13 : decode cX4_putTaskAhead 13 = .ok (.getfield 15, 3) := by decide +kernel
theorem dX4_putTaskAhead_16 : decode cX4_putTaskAhead 16 = .ok (.iload 4, 2) := by decide +kernel
theorem dX4_putTaskAhead_18 : decode cX4_putTaskAhead 18 = .ok (.aload_n 0, 1) := by decide +kernel
theorem dX4_putTaskAhead_19 : decode cX4_putTaskAhead 19 = .ok (.aload_n 1, 1) := by decide +kernel
theorem dX4_putTaskAhead_20 : decode cX4_putTaskAhead 20 = .ok (.iload_n 2, 1) := by decide +kernel
theorem dX4_putTaskAhead_21 : decode cX4_putTaskAhead 21 = .ok (.iload 4, 2) := by decide +kernel
theorem dX4_putTaskAhead_23 : decode cX4_putTaskAhead 23 = .ok (.iload_n 3, 1) := by decide +kernel
theorem dX4_putTaskAhead_24 : decode cX4_putTaskAhead 24 = .ok (.invokevirtual 56, 3) := by decide +kernel
theorem dX4_putTaskAhead_27 : decode cX4_putTaskAhead 27 = .ok (.iastore, 1) := by decide +kernel
theorem dX4_putTaskAhead_28 : decode cX4_putTaskAhead 28 = .ok (.iinc 4 1, 3) := by decide +kernel
theorem dX4_putTaskAhead_31 : decode cX4_putTaskAhead 31 = .ok (.goto (-28), 3) := by decide +kernel
theorem dX4_putTaskAhead_34 : decode cX4_putTaskAhead 34 = .ok (.return_, 1) := by decide +kernel
theorem dX4_chooseEnd_0 : decode cX4_chooseEnd 0 = .ok (.ldc 37, 2) := by decide +kernel
theorem dX4_chooseEnd_2 : decode cX4_chooseEnd 2 = .ok (.istore 5, 2) := by decide +kernel
theorem dX4_chooseEnd_4 : decode cX4_chooseEnd 4 = .ok (.iconst 0, 1) := by decide +kernel
theorem dX4_chooseEnd_5 : decode cX4_chooseEnd 5 = .ok (.istore 6, 2) := by decide +kernel
theorem dX4_chooseEnd_7 : decode cX4_chooseEnd 7 = .ok (.iconst 0, 1) := by decide +kernel
theorem dX4_chooseEnd_8 : decode cX4_chooseEnd 8 = .ok (.istore 7, 2) := by decide +kernel
theorem dX4_chooseEnd_10 : decode cX4_chooseEnd 10 = .ok (.iload_n 3, 1) := by decide +kernel
theorem dX4_chooseEnd_11 : decode cX4_chooseEnd 11 = .ok (.istore 8, 2) := by decide +kernel
theorem dX4_chooseEnd_13 : decode cX4_chooseEnd 13 = .ok (.iload 8, 2) := by decide +kernel
theorem dX4_chooseEnd_15 : decode cX4_chooseEnd 15 = .ok (.aload_n 1, 1) := by decide +kernel
theorem dX4_chooseEnd_16 : decode cX4_chooseEnd 16 = .ok (.getfield 44, 3) := by decide +kernel
theorem dX4_chooseEnd_19 : decode cX4_chooseEnd 19 = .ok (.if_icmp .ge 86, 3) := by decide +kernel
theorem dX4_chooseEnd_22 : decode cX4_chooseEnd 22 = .ok (.iload 6, 2) := by decide +kernel
theorem dX4_chooseEnd_24 : decode cX4_chooseEnd 24 = .ok (.aload_n 1, 1) := by decide +kernel
theorem dX4_chooseEnd_25 : decode cX4_chooseEnd 25 = .ok (.getfield 60, 3) := by decide +kernel
theorem dX4_chooseEnd_28 : decode cX4_chooseEnd 28 = .ok (.iload 8, 2) := by decide +kernel
theorem dX4_chooseEnd_30 : decode cX4_chooseEnd 30 = .ok (.iaload, 1) := by decide +kernel
theorem dX4_chooseEnd_31 : decode cX4_chooseEnd 31 = .ok (.iadd, 1) := by decide +kernel
theorem dX4_chooseEnd_32 : decode cX4_chooseEnd 32 = .ok (.istore 6, 2) := by decide +kernel
theorem dX4_chooseEnd_34 : decode cX4_chooseEnd 34 = .ok (.iload 6, 2) := by decide +kernel
theorem dX4_chooseEnd_36 : decode cX4_chooseEnd 36 = .ok (.iload 4, 2) := by decide +kernel
theorem dX4_chooseEnd_38 : decode cX4_chooseEnd 38 = .ok (.if_icmp .le 6, 3) := by decide +kernel
theorem dX4_chooseEnd_41 : decode cX4_chooseEnd 41 = .ok (.goto 64, 3) := by decide +kernel
theorem dX4_chooseEnd_44 : decode cX4_chooseEnd 44 = .ok (.iload 7, 2) := by decide +kernel
theorem dX4_chooseEnd_46 : decode cX4_chooseEnd 46 = .ok (.aload_n 1, 1) := by decide +kernel
theorem dX4_chooseEnd_47 : decode cX4_chooseEnd 47 = .ok (.iload 8, 2) := by decide +kernel
theorem dX4_chooseEnd_49 : decode cX4_chooseEnd 49 = .ok (.iload_n 2, 1) := by decide +kernel
theorem dX4_chooseEnd_50 : decode cX4_chooseEnd 50 = .ok (.invokevirtual 63, 3) := by decide +kernel
theorem dX4_chooseEnd_53 : decode cX4_chooseEnd 53 = .ok (.iadd, 1) := by decide +kernel
theorem dX4_chooseEnd_54 : decode cX4_chooseEnd 54 = .ok (.istore 7, 2) := by decide +kernel
theorem dX4_chooseEnd_56 : decode cX4_chooseEnd 56 = .ok (.iload 7, 2) := by decide +kernel
theorem dX4_chooseEnd_58 : decode cX4_chooseEnd 58 = .ok (.aload_n 0, 1) := by decide +kernel
theorem dX4_chooseEnd_59 : decode cX4_chooseEnd 59 = .ok (.getfield 15, 3) := by decide +kernel
theorem dX4_chooseEnd_62 : decode cX4_chooseEnd 62 = .ok (.iload 8, 2) := by decide +kernel
theorem dX4_chooseEnd_64 : decode cX4_chooseEnd 64 = .ok (.iconst 1, 1) := by decide +kernel
theorem dX4_chooseEnd_65 : decode cX4_chooseEnd 65 = .ok (.iadd, 1) := by decide +kernel
theorem dX4_chooseEnd_66 : decode cX4_chooseEnd 66 = .ok (.iaload, 1) := by decide +kernel
theorem dX4_chooseEnd_67 : decode cX4_chooseEnd 67 = .ok (.iadd, 1) := by decide +kernel
theorem dX4_chooseEnd_68 : decode cX4_chooseEnd 68 = .ok (.iload 5, 2) := by decide +kernel
theorem dX4_chooseEnd_70 : decode cX4_chooseEnd 70 = .ok (.if_icmp .ge 29, 3) := by decide +kernel
theorem dX4_chooseEnd_73 : decode cX4_chooseEnd 73 = .ok (.iload 7, 2) := by decide +kernel
theorem dX4_chooseEnd_75 : decode cX4_chooseEnd 75 = .ok (.aload_n 0, 1) := by decide +kernel
theorem dX4_chooseEnd_76 : decode cX4_chooseEnd 76 = .ok (.getfield 15, 3) := by decide +kernel
theorem dX4_chooseEnd_79 : decode cX4_chooseEnd 79 = .ok (.iload 8, 2) := by decide +kernel
theorem dX4_chooseEnd_81 : decode cX4_chooseEnd 81 = .ok (.iconst 1, 1) := by decide +kernel
theorem dX4_chooseEnd_82 : decode cX4_chooseEnd 82 = .ok (.iadd, 1) := by decide +kernel
theorem dX4_chooseEnd_83 : decode cX4_chooseEnd 83 = .ok (.iaload, 1) := by decide +kernel
theorem dX4_chooseEnd_84 : decode cX4_chooseEnd 84 = .ok (.iadd, 1) := by decide +kernel
theorem dX4_chooseEnd_85 : decode cX4_chooseEnd 85 = .ok (.istore 5, 2) := by decide +kernel
theorem dX4_chooseEnd_87 : decode cX4_chooseEnd 87 = .ok (.aload_n 0, 1) := by decide +kernel
theorem dX4_chooseEnd_88 : decode cX4_chooseEnd 88 = .ok (.getfield 20, 3) := by decide +kernel
theorem dX4_chooseEnd_91 : decode cX4_chooseEnd 91 = .ok (.iload_n 2, 1) := by decide +kernel
theorem dX4_chooseEnd_92 : decode cX4_chooseEnd 92 = .ok (.aaload, 1) := by decide +kernel
theorem dX4_chooseEnd_93 : decode cX4_chooseEnd 93 = .ok (.iload_n 3, 1) := by decide +kernel
theorem dX4_chooseEnd_94 : decode cX4_chooseEnd 94 = .ok (.iload 8, 2) := by decide +kernel
theorem dX4_chooseEnd_96 : decode cX4_chooseEnd 96 = .ok (.iconst 1, 1) := by decide +kernel
theorem dX4_chooseEnd_97 : decode cX4_chooseEnd 97 = .ok (.iadd, 1) := by decide +kernel
theorem dX4_chooseEnd_98 : decode cX4_chooseEnd 98 = .ok (.iastore, 1) := by decide +kernel
theorem dX4_chooseEnd_99 : decode cX4_chooseEnd 99 = .ok (.iinc 8 1, 3) := by decide +kernel
theorem dX4_chooseEnd_102 : decode cX4_chooseEnd 102 = .ok (.goto (-89), 3) := by decide +kernel
theorem dX4_chooseEnd_105 : decode cX4_chooseEnd 105 = .ok (.iload 5, 2) := by decide +kernel
theorem dX4_chooseEnd_107 : decode cX4_chooseEnd 107 = .ok (.ireturn, 1) := by decide +kernel
theorem dX4_layChosen_0 : decode cX4_layChosen 0 = .ok (.iconst 0, 1) := by decide +kernel
theorem dX4_layChosen_1 : decode cX4_layChosen 1 = .ok (.istore_n 2, 1) := by decide +kernel
theorem dX4_layChosen_2 : decode cX4_layChosen 2 = .ok (.iconst 0, 1) := by decide +kernel
theorem dX4_layChosen_3 : decode cX4_layChosen 3 = .ok (.istore_n 3, 1) := by decide +kernel
theorem dX4_layChosen_4 : decode cX4_layChosen 4 = .ok (.iload_n 3, 1) := by decide +kernel
theorem dX4_layChosen_5 : decode cX4_layChosen 5 = .ok (.iload_n 1, 1) := by decide +kernel
theorem dX4_layChosen_6 : decode cX4_layChosen 6 = .ok (.if_icmp .ge 30, 3) := by decide +kernel
theorem dX4_layChosen_9 : decode cX4_layChosen 9 = .ok (.aload_n 0, 1) := by decide +kernel
theorem dX4_layChosen_10 : decode cX4_layChosen 10 = .ok (.getfield 20, 3) := by decide +kernel
theorem dX4_layChosen_13 : decode cX4_layChosen 13 = .ok (.iload_n 3, 1) := by decide +kernel
theorem dX4_layChosen_14 : decode cX4_layChosen 14 = .ok (.aaload, 1) := by decide +kernel
theorem dX4_layChosen_15 : decode cX4_layChosen 15 = .ok (.iload_n 2, 1) := by decide +kernel
theorem dX4_layChosen_16 : decode cX4_layChosen 16 = .ok (.iaload, 1) := by decide +kernel
theorem dX4_layChosen_17 : decode cX4_layChosen 17 = .ok (.istore 4, 2) := by decide +kernel
theorem dX4_layChosen_19 : decode cX4_layChosen 19 = .ok (.aload_n 0, 1) := by decide +kernel
theorem dX4_layChosen_20 : decode cX4_layChosen 20 = .ok (.iload_n 3, 1) := by decide +kernel
theorem dX4_layChosen_21 : decode cX4_layChosen 21 = .ok (.iload_n 2, 1) := by decide +kernel
theorem dX4_layChosen_22 : decode cX4_layChosen 22 = .ok (.iload 4, 2) := by decide +kernel
theorem dX4_layChosen_24 : decode cX4_layChosen 24 = .ok (.invokevirtual 23, 3) := by decide +kernel
theorem dX4_layChosen_27 : decode cX4_layChosen 27 = .ok (.iload 4, 2) := by decide +kernel
theorem dX4_layChosen_29 : decode cX4_layChosen 29 = .ok (.istore_n 2, 1) := by decide +kernel
theorem dX4_layChosen_30 : decode cX4_layChosen 30 = .ok (.iinc 3 1, 3) := by decide +kernel
theorem dX4_layChosen_33 : decode cX4_layChosen 33 = .ok (.goto (-29), 3) := by decide +kernel
theorem dX4_layChosen_36 : decode cX4_layChosen 36 = .ok (.return_, 1) := by decide +kernel
theorem dX4_layRange_0 : decode cX4_layRange 0 = .ok (.iload_n 2, 1) := by decide +kernel
theorem dX4_layRange_1 : decode cX4_layRange 1 = .ok (.istore 4, 2) := by decide +kernel
theorem dX4_layRange_3 : decode cX4_layRange 3 = .ok (.iload 4, 2) := by decide +kernel
theorem dX4_layRange_5 : decode cX4_layRange 5 = .ok (.iload_n 3, 1) := by decide +kernel
theorem dX4_layRange_6 : decode cX4_layRange 6 = .ok (.if_icmp .ge 17, 3) := by decide +kernel
theorem dX4_layRange_9 : decode cX4_layRange 9 = .ok (.aload_n 0, 1) := by decide +kernel
theorem dX4_layRange_10 : decode cX4_layRange 10 = .ok (.getfield 9, 3) := by decide +kernel
theorem dX4_layRange_13 : decode cX4_layRange 13 = .ok (.iload 4, 2) := by decide +kernel
theorem dX4_layRange_15 : decode cX4_layRange 15 = .ok (.iload_n 1, 1) := by decide +kernel
theorem dX4_layRange_16 : decode cX4_layRange 16 = .ok (.iastore, 1) := by decide +kernel
theorem dX4_layRange_17 : decode cX4_layRange 17 = .ok (.iinc 4 1, 3) := by decide +kernel
theorem dX4_layRange_20 : decode cX4_layRange 20 = .ok (.goto (-17), 3) := by decide +kernel
theorem dX4_layRange_23 : decode cX4_layRange 23 = .ok (.return_, 1) := by decide +kernel
theorem dX5_init_0 : decode cX5_init 0 = .ok (.aload_n 0, 1) := by decide +kernel
theorem dX5_init_1 : decode cX5_init 1 = .ok (.invokespecial 3, 3) := by decide +kernel
theorem dX5_init_4 : decode cX5_init 4 = .ok (.aload_n 0, 1) := by decide +kernel
theorem dX5_init_5 : decode cX5_init 5 = .ok (.sipush 400, 3) := by decide +kernel
theorem dX5_init_8 : decode cX5_init 8 = .ok (.newarray .int, 2) := by decide +kernel
theorem dX5_init_10 : decode cX5_init 10 = .ok (.putfield 9, 3) := by decide +kernel
theorem dX5_init_13 : decode cX5_init 13 = .ok (.aload_n 0, 1) := by decide +kernel
theorem dX5_init_14 : decode cX5_init 14 = .ok (.sipush 400, 3) := by decide +kernel
theorem dX5_init_17 : decode cX5_init 17 = .ok (.newarray .int, 2) := by decide +kernel
theorem dX5_init_19 : decode cX5_init 19 = .ok (.putfield 15, 3) := by decide +kernel
theorem dX5_init_22 : decode cX5_init 22 = .ok (.aload_n 0, 1) := by decide +kernel
theorem dX5_init_23 : decode cX5_init 23 = .ok (.sipush 400, 3) := by decide +kernel
theorem dX5_init_26 : decode cX5_init 26 = .ok (.newarray .int, 2) := by decide +kernel
theorem dX5_init_28 : decode cX5_init 28 = .ok (.putfield 18, 3) := by decide +kernel
theorem dX5_init_31 : decode cX5_init 31 = .ok (.return_, 1) := by decide +kernel
theorem dX5_begin_0 : decode cX5_begin 0 = .ok (.aload_n 0, 1) := by decide +kernel
theorem dX5_begin_1 : decode cX5_begin 1 = .ok (.iconst 0, 1) := by decide +kernel
theorem dX5_begin_2 : decode cX5_begin 2 = .ok (.putfield 21, 3) := by decide +kernel
theorem dX5_begin_5 : decode cX5_begin 5 = .ok (.aload_n 0, 1) := by decide +kernel
theorem dX5_begin_6 : decode cX5_begin 6 = .ok (.iconst 0, 1) := by decide +kernel
theorem dX5_begin_7 : decode cX5_begin 7 = .ok (.putfield 25, 3) := by decide +kernel
theorem dX5_begin_10 : decode cX5_begin 10 = .ok (.return_, 1) := by decide +kernel
theorem dX5_enter_0 : decode cX5_enter 0 = .ok (.aload_n 0, 1) := by decide +kernel
theorem dX5_enter_1 : decode cX5_enter 1 = .ok (.getfield 9, 3) := by decide +kernel
theorem dX5_enter_4 : decode cX5_enter 4 = .ok (.aload_n 0, 1) := by decide +kernel
theorem dX5_enter_5 : decode cX5_enter 5 = .ok (.getfield 21, 3) := by decide +kernel
theorem dX5_enter_8 : decode cX5_enter 8 = .ok (.aload_n 0, 1) := by decide +kernel
theorem dX5_enter_9 : decode cX5_enter 9 = .ok (.getfield 25, 3) := by decide +kernel
theorem dX5_enter_12 : decode cX5_enter 12 = .ok (.iastore, 1) := by decide +kernel
theorem dX5_enter_13 : decode cX5_enter 13 = .ok (.aload_n 0, 1) := by decide +kernel
theorem dX5_enter_14 : decode cX5_enter 14 = .ok (.getfield 15, 3) := by decide +kernel
theorem dX5_enter_17 : decode cX5_enter 17 = .ok (.aload_n 0, 1) := by decide +kernel
theorem dX5_enter_18 : decode cX5_enter 18 = .ok (.getfield 21, 3) := by decide +kernel
theorem dX5_enter_21 : decode cX5_enter 21 = .ok (.iload_n 1, 1) := by decide +kernel
theorem dX5_enter_22 : decode cX5_enter 22 = .ok (.iastore, 1) := by decide +kernel
theorem dX5_enter_23 : decode cX5_enter 23 = .ok (.aload_n 0, 1) := by decide +kernel
theorem dX5_enter_24 : decode cX5_enter 24 = .ok (.getfield 18, 3) := by decide +kernel
theorem dX5_enter_27 : decode cX5_enter 27 = .ok (.aload_n 0, 1) := by decide +kernel
theorem dX5_enter_28 : decode cX5_enter 28 = .ok (.getfield 21, 3) := by decide +kernel
theorem dX5_enter_31 : decode cX5_enter 31 = .ok (.iload_n 2, 1) := by decide +kernel
theorem dX5_enter_32 : decode cX5_enter 32 = .ok (.iastore, 1) := by decide +kernel
theorem dX5_enter_33 : decode cX5_enter 33 = .ok (.aload_n 0, 1) := by decide +kernel
theorem dX5_enter_34 : decode cX5_enter 34 = .ok (.dup, 1) := by decide +kernel
theorem dX5_enter_35 : decode cX5_enter 35 = .ok (.getfield 21, 3) := by decide +kernel
theorem dX5_enter_38 : decode cX5_enter 38 = .ok (.iconst 1, 1) := by decide +kernel
theorem dX5_enter_39 : decode cX5_enter 39 = .ok (.iadd, 1) := by decide +kernel
theorem dX5_enter_40 : decode cX5_enter 40 = .ok (.putfield 21, 3) := by decide +kernel
theorem dX5_enter_43 : decode cX5_enter 43 = .ok (.aload_n 0, 1) := by decide +kernel
theorem dX5_enter_44 : decode cX5_enter 44 = .ok (.dup, 1) := by decide +kernel
theorem dX5_enter_45 : decode cX5_enter 45 = .ok (.getfield 25, 3) := by decide +kernel
theorem dX5_enter_48 : decode cX5_enter 48 = .ok (.iconst 1, 1) := by decide +kernel
theorem dX5_enter_49 : decode cX5_enter 49 = .ok (.iadd, 1) := by decide +kernel
theorem dX5_enter_50 : decode cX5_enter 50 = .ok (.putfield 25, 3) := by decide +kernel
theorem dX5_enter_53 : decode cX5_enter 53 = .ok (.return_, 1) := by decide +kernel
theorem dX5_takeOut_0 : decode cX5_takeOut 0 = .ok (.aload_n 0, 1) := by decide +kernel
theorem dX5_takeOut_1 : decode cX5_takeOut 1 = .ok (.getfield 21, 3) := by decide +kernel
theorem dX5_takeOut_4 : decode cX5_takeOut 4 = .ok (.iload_n 1, 1) := by decide +kernel
theorem dX5_takeOut_5 : decode cX5_takeOut 5 = .ok (.isub, 1) := by decide +kernel
theorem dX5_takeOut_6 : decode cX5_takeOut 6 = .ok (.iconst 1, 1) := by decide +kernel
theorem dX5_takeOut_7 : decode cX5_takeOut 7 = .ok (.isub, 1) := by decide +kernel
theorem dX5_takeOut_8 : decode cX5_takeOut 8 = .ok (.istore_n 2, 1) := by decide +kernel
theorem dX5_takeOut_9 : decode cX5_takeOut 9 = .ok (.aload_n 0, 1) := by decide +kernel
theorem dX5_takeOut_10 : decode cX5_takeOut 10 = .ok (.getfield 9, 3) := by decide +kernel
theorem dX5_takeOut_13 : decode cX5_takeOut 13 = .ok (.iload_n 1, 1) := by decide +kernel
theorem dX5_takeOut_14 : decode cX5_takeOut 14 = .ok (.iconst 1, 1) := by decide +kernel
theorem dX5_takeOut_15 : decode cX5_takeOut 15 = .ok (.iadd, 1) := by decide +kernel
theorem dX5_takeOut_16 : decode cX5_takeOut 16 = .ok (.aload_n 0, 1) := by decide +kernel
theorem dX5_takeOut_17 : decode cX5_takeOut 17 = .ok (.getfield 9, 3) := by decide +kernel
theorem dX5_takeOut_20 : decode cX5_takeOut 20 = .ok (.iload_n 1, 1) := by decide +kernel
theorem dX5_takeOut_21 : decode cX5_takeOut 21 = .ok (.iload_n 2, 1) := by decide +kernel
theorem dX5_takeOut_22 : decode cX5_takeOut 22 = .ok (.invokestatic 28, 3) := by decide +kernel
theorem dX5_takeOut_25 : decode cX5_takeOut 25 = .ok (.aload_n 0, 1) := by decide +kernel
theorem dX5_takeOut_26 : decode cX5_takeOut 26 = .ok (.getfield 15, 3) := by decide +kernel
theorem dX5_takeOut_29 : decode cX5_takeOut 29 = .ok (.iload_n 1, 1) := by decide +kernel
theorem dX5_takeOut_30 : decode cX5_takeOut 30 = .ok (.iconst 1, 1) := by decide +kernel
theorem dX5_takeOut_31 : decode cX5_takeOut 31 = .ok (.iadd, 1) := by decide +kernel
theorem dX5_takeOut_32 : decode cX5_takeOut 32 = .ok (.aload_n 0, 1) := by decide +kernel
theorem dX5_takeOut_33 : decode cX5_takeOut 33 = .ok (.getfield 15, 3) := by decide +kernel
theorem dX5_takeOut_36 : decode cX5_takeOut 36 = .ok (.iload_n 1, 1) := by decide +kernel
theorem dX5_takeOut_37 : decode cX5_takeOut 37 = .ok (.iload_n 2, 1) := by decide +kernel
theorem dX5_takeOut_38 : decode cX5_takeOut 38 = .ok (.invokestatic 28, 3) := by decide +kernel
theorem dX5_takeOut_41 : decode cX5_takeOut 41 = .ok (.aload_n 0, 1) := by decide +kernel
theorem dX5_takeOut_42 : decode cX5_takeOut 42 = .ok (.getfield 18, 3) := by decide +kernel
theorem dX5_takeOut_45 : decode cX5_takeOut 45 = .ok (.iload_n 1, 1) := by decide +kernel
theorem dX5_takeOut_46 : decode cX5_takeOut 46 = .ok (.iconst 1, 1) := by decide +kernel
theorem dX5_takeOut_47 : decode cX5_takeOut 47 = .ok (.iadd, 1) := by decide +kernel
theorem dX5_takeOut_48 : decode cX5_takeOut 48 = .ok (.aload_n 0, 1) := by decide +kernel
theorem dX5_takeOut_49 : decode cX5_takeOut 49 = .ok (.getfield 18, 3) := by decide +kernel
theorem dX5_takeOut_52 : decode cX5_takeOut 52 = .ok (.iload_n 1, 1) := by decide +kernel
theorem dX5_takeOut_53 : decode cX5_takeOut 53 = .ok (.iload_n 2, 1) := by decide +kernel
theorem dX5_takeOut_54 : decode cX5_takeOut 54 = .ok (.invokestatic 28, 3) := by decide +kernel
theorem dX5_takeOut_57 : decode cX5_takeOut 57 = .ok (.aload_n 0, 1) := by decide +kernel
theorem dX5_takeOut_58 : decode cX5_takeOut 58 = .ok (.dup, 1) := by decide +kernel
theorem dX5_takeOut_59 : decode cX5_takeOut 59 = .ok (.getfield 21, 3) := by decide +kernel
theorem dX5_takeOut_62 : decode cX5_takeOut 62 = .ok (.iconst 1, 1) := by decide +kernel
theorem dX5_takeOut_63 : decode cX5_takeOut 63 = .ok (.isub, 1) := by decide +kernel
theorem dX5_takeOut_64 : decode cX5_takeOut 64 = .ok (.putfield 21, 3) := by decide +kernel
theorem dX5_takeOut_67 : decode cX5_takeOut 67 = .ok (.return_, 1) := by decide +kernel
theorem dX5_copyFrom_0 : decode cX5_copyFrom 0 = .ok (.aload_n 1, 1) := by decide +kernel
theorem dX5_copyFrom_1 : decode cX5_copyFrom 1 = .ok (.getfield 9, 3) := by decide +kernel
theorem dX5_copyFrom_4 : decode cX5_copyFrom 4 = .ok (.iconst 0, 1) := by decide +kernel
theorem dX5_copyFrom_5 : decode cX5_copyFrom 5 = .ok (.aload_n 0, 1) := by decide +kernel
theorem dX5_copyFrom_6 : decode cX5_copyFrom 6 = .ok (.getfield 9, 3) := by decide +kernel
theorem dX5_copyFrom_9 : decode cX5_copyFrom 9 = .ok (.iconst 0, 1) := by decide +kernel
theorem dX5_copyFrom_10 : decode cX5_copyFrom 10 = .ok (.aload_n 1, 1) := by decide +kernel
theorem dX5_copyFrom_11 : decode cX5_copyFrom 11 = .ok (.getfield 21, 3) := by decide +kernel
theorem dX5_copyFrom_14 : decode cX5_copyFrom 14 = .ok (.invokestatic 28, 3) := by decide +kernel
theorem dX5_copyFrom_17 : decode cX5_copyFrom 17 = .ok (.aload_n 1, 1) := by decide +kernel
theorem dX5_copyFrom_18 : decode cX5_copyFrom 18 = .ok (.getfield 15, 3) := by decide +kernel
theorem dX5_copyFrom_21 : decode cX5_copyFrom 21 = .ok (.iconst 0, 1) := by decide +kernel
theorem dX5_copyFrom_22 : decode cX5_copyFrom 22 = .ok (.aload_n 0, 1) := by decide +kernel
theorem dX5_copyFrom_23 : decode cX5_copyFrom 23 = .ok (.getfield 15, 3) := by decide +kernel
theorem dX5_copyFrom_26 : decode cX5_copyFrom 26 = .ok (.iconst 0, 1) := by decide +kernel
theorem dX5_copyFrom_27 : decode cX5_copyFrom 27 = .ok (.aload_n 1, 1) := by decide +kernel
theorem dX5_copyFrom_28 : decode cX5_copyFrom 28 = .ok (.getfield 21, 3) := by decide +kernel
theorem dX5_copyFrom_31 : decode cX5_copyFrom 31 = .ok (.invokestatic 28, 3) := by decide +kernel
theorem dX5_copyFrom_34 : decode cX5_copyFrom 34 = .ok (.aload_n 1, 1) := by decide +kernel
theorem dX5_copyFrom_35 : decode cX5_copyFrom 35 = .ok (.getfield 18, 3) := by decide +kernel
theorem dX5_copyFrom_38 : decode cX5_copyFrom 38 = .ok (.iconst 0, 1) := by decide +kernel
theorem dX5_copyFrom_39 : decode cX5_copyFrom 39 = .ok (.aload_n 0, 1) := by decide +kernel
theorem dX5_copyFrom_40 : decode cX5_copyFrom 40 = .ok (.getfield 18, 3) := by decide +kernel
theorem dX5_copyFrom_43 : decode cX5_copyFrom 43 = .ok (.iconst 0, 1) := by decide +kernel
theorem dX5_copyFrom_44 : decode cX5_copyFrom 44 = .ok (.aload_n 1, 1) := by decide +kernel
theorem dX5_copyFrom_45 : decode cX5_copyFrom 45 = .ok (.getfield 21, 3) := by decide +kernel
theorem dX5_copyFrom_48 : decode cX5_copyFrom 48 = .ok (.invokestatic 28, 3) := by decide +kernel
theorem dX5_copyFrom_51 : decode cX5_copyFrom 51 = .ok (.aload_n 0, 1) := by decide +kernel
theorem dX5_copyFrom_52 : decode cX5_copyFrom 52 = .ok (.aload_n 1, 1) := by decide +kernel
theorem dX5_copyFrom_53 : decode cX5_copyFrom 53 = .ok (.getfield 21, 3) := by decide +kernel
theorem dX5_copyFrom_56 : decode cX5_copyFrom 56 = .ok (.putfield 21, 3) := by decide +kernel
theorem dX5_copyFrom_59 : decode cX5_copyFrom 59 = .ok (.aload_n 0, 1) := by decide +kernel
theorem dX5_copyFrom_60 : decode cX5_copyFrom 60 = .ok (.aload_n 1, 1) := by decide +kernel
theorem dX5_copyFrom_61 : decode cX5_copyFrom 61 = .ok (.getfield 25, 3) := by decide +kernel
theorem dX5_copyFrom_64 : decode cX5_copyFrom 64 = .ok (.putfield 25, 3) := by decide +kernel
theorem dX5_copyFrom_67 : decode cX5_copyFrom 67 = .ok (.return_, 1) := by decide +kernel
theorem dX6_init_0 : decode cX6_init 0 = .ok (.aload_n 0, 1) := by decide +kernel
theorem dX6_init_1 : decode cX6_init 1 = .ok (.invokespecial 3, 3) := by decide +kernel
theorem dX6_init_4 : decode cX6_init 4 = .ok (.aload_n 0, 1) := by decide +kernel
theorem dX6_init_5 : decode cX6_init 5 = .ok (.bipush 100, 2) := by decide +kernel
theorem dX6_init_7 : decode cX6_init 7 = .ok (.newarray .int, 2) := by decide +kernel
theorem dX6_init_9 : decode cX6_init 9 = .ok (.putfield 9, 3) := by decide +kernel
theorem dX6_init_12 : decode cX6_init 12 = .ok (.aload_n 0, 1) := by decide +kernel
theorem dX6_init_13 : decode cX6_init 13 = .ok (.bipush 100, 2) := by decide +kernel
theorem dX6_init_15 : decode cX6_init 15 = .ok (.newarray .long, 2) := by decide +kernel
theorem dX6_init_17 : decode cX6_init 17 = .ok (.putfield 15, 3) := by decide +kernel
theorem dX6_init_20 : decode cX6_init 20 = .ok (.return_, 1) := by decide +kernel
theorem dX6_begin_0 : decode cX6_begin 0 = .ok (.aload_n 0, 1) := by decide +kernel
theorem dX6_begin_1 : decode cX6_begin 1 = .ok (.getfield 9, 3) := by decide +kernel
theorem dX6_begin_4 : decode cX6_begin 4 = .ok (.iconst 0, 1) := by decide +kernel
theorem dX6_begin_5 : decode cX6_begin 5 = .ok (.invokestatic 19, 3) := by decide +kernel
theorem dX6_begin_8 : decode cX6_begin 8 = .ok (.aload_n 0, 1) := by decide +kernel
theorem dX6_begin_9 : decode cX6_begin 9 = .ok (.getfield 15, 3) := by decide +kernel
theorem dX6_begin_12 : decode cX6_begin 12 = .ok (.lconst 0, 1) := by decide +kernel
theorem dX6_begin_13 : decode cX6_begin 13 = .ok (.invokestatic 25, 3) := by decide +kernel
theorem dX6_begin_16 : decode cX6_begin 16 = .ok (.return_, 1) := by decide +kernel
theorem dX6_forget_0 : decode cX6_forget 0 = .ok (.aload_n 0, 1) := by decide +kernel
theorem dX6_forget_1 : decode cX6_forget 1 = .ok (.getfield 9, 3) := by decide +kernel
theorem dX6_forget_4 : decode cX6_forget 4 = .ok (.iload_n 1, 1) := by decide +kernel
theorem dX6_forget_5 : decode cX6_forget 5 = .ok (.iconst 0, 1) := by decide +kernel
theorem dX6_forget_6 : decode cX6_forget 6 = .ok (.iastore, 1) := by decide +kernel
theorem dX6_forget_7 : decode cX6_forget 7 = .ok (.aload_n 0, 1) := by decide +kernel
theorem dX6_forget_8 : decode cX6_forget 8 = .ok (.getfield 15, 3) := by decide +kernel
theorem dX6_forget_11 : decode cX6_forget 11 = .ok (.iload_n 1, 1) := by decide +kernel
theorem dX6_forget_12 : decode cX6_forget 12 = .ok (.lconst 0, 1) := by decide +kernel
theorem dX6_forget_13 : decode cX6_forget 13 = .ok (.lastore, 1) := by decide +kernel
theorem dX6_forget_14 : decode cX6_forget 14 = .ok (.return_, 1) := by decide +kernel
theorem dX6_copyFrom_0 : decode cX6_copyFrom 0 = .ok (.aload_n 1, 1) := by decide +kernel
theorem dX6_copyFrom_1 : decode cX6_copyFrom 1 = .ok (.getfield 9, 3) := by decide +kernel
theorem dX6_copyFrom_4 : decode cX6_copyFrom 4 = .ok (.iconst 0, 1) := by decide +kernel
theorem dX6_copyFrom_5 : decode cX6_copyFrom 5 = .ok (.aload_n 0, 1) := by decide +kernel
theorem dX6_copyFrom_6 : decode cX6_copyFrom 6 = .ok (.getfield 9, 3) := by decide +kernel
theorem dX6_copyFrom_9 : decode cX6_copyFrom 9 = .ok (.iconst 0, 1) := by decide +kernel
theorem dX6_copyFrom_10 : decode cX6_copyFrom 10 = .ok (.bipush 100, 2) := by decide +kernel
theorem dX6_copyFrom_12 : decode cX6_copyFrom 12 = .ok (.invokestatic 28, 3) := by decide +kernel
theorem dX6_copyFrom_15 : decode cX6_copyFrom 15 = .ok (.aload_n 1, 1) := by decide +kernel
theorem dX6_copyFrom_16 : decode cX6_copyFrom 16 = .ok (.getfield 15, 3) := by decide +kernel
theorem dX6_copyFrom_19 : decode cX6_copyFrom 19 = .ok (.iconst 0, 1) := by decide +kernel
theorem dX6_copyFrom_20 : decode cX6_copyFrom 20 = .ok (.aload_n 0, 1) := by decide +kernel
theorem dX6_copyFrom_21 : decode cX6_copyFrom 21 = .ok (.getfield 15, 3) := by decide +kernel
theorem dX6_copyFrom_24 : decode cX6_copyFrom 24 = .ok (.iconst 0, 1) := by decide +kernel
theorem dX6_copyFrom_25 : decode cX6_copyFrom 25 = .ok (.bipush 100, 2) := by decide +kernel
theorem dX6_copyFrom_27 : decode cX6_copyFrom 27 = .ok (.invokestatic 28, 3) := by decide +kernel
theorem dX6_copyFrom_30 : decode cX6_copyFrom 30 = .ok (.return_, 1) := by decide +kernel
theorem dX7_init_0 : decode cX7_init 0 = .ok (.aload_n 0, 1) := by decide +kernel
theorem dX7_init_1 : decode cX7_init 1 = .ok (.invokespecial 3, 3) := by decide +kernel
theorem dX7_init_4 : decode cX7_init 4 = .ok (.aload_n 0, 1) := by decide +kernel
theorem dX7_init_5 : decode cX7_init 5 = .ok (.bipush 40, 2) := by decide +kernel
theorem dX7_init_7 : decode cX7_init 7 = .ok (.newarray .int, 2) := by decide +kernel
theorem dX7_init_9 : decode cX7_init 9 = .ok (.putfield 9, 3) := by decide +kernel
theorem dX7_init_12 : decode cX7_init 12 = .ok (.aload_n 0, 1) := by decide +kernel
theorem dX7_init_13 : decode cX7_init 13 = .ok (.bipush 40, 2) := by decide +kernel
theorem dX7_init_15 : decode cX7_init 15 = .ok (.newarray .int, 2) := by decide +kernel
theorem dX7_init_17 : decode cX7_init 17 = .ok (.putfield 15, 3) := by decide +kernel
theorem dX7_init_20 : decode cX7_init 20 = .ok (.return_, 1) := by decide +kernel
theorem dX7_begin_0 : decode cX7_begin 0 = .ok (.aload_n 0, 1) := by decide +kernel
theorem dX7_begin_1 : decode cX7_begin 1 = .ok (.iconst 0, 1) := by decide +kernel
theorem dX7_begin_2 : decode cX7_begin 2 = .ok (.putfield 18, 3) := by decide +kernel
theorem dX7_begin_5 : decode cX7_begin 5 = .ok (.aload_n 0, 1) := by decide +kernel
theorem dX7_begin_6 : decode cX7_begin 6 = .ok (.iconst 0, 1) := by decide +kernel
theorem dX7_begin_7 : decode cX7_begin 7 = .ok (.putfield 22, 3) := by decide +kernel
theorem dX7_begin_10 : decode cX7_begin 10 = .ok (.return_, 1) := by decide +kernel
theorem dX7_enter_0 : decode cX7_enter 0 = .ok (.aload_n 0, 1) := by decide +kernel
theorem dX7_enter_1 : decode cX7_enter 1 = .ok (.iload_n 1, 1) := by decide +kernel
theorem dX7_enter_2 : decode cX7_enter 2 = .ok (.iload_n 2, 1) := by decide +kernel
theorem dX7_enter_3 : decode cX7_enter 3 = .ok (.invokevirtual 25, 3) := by decide +kernel
theorem dX7_enter_6 : decode cX7_enter 6 = .ok (.istore_n 3, 1) := by decide +kernel
theorem dX7_enter_7 : decode cX7_enter 7 = .ok (.aload_n 0, 1) := by decide +kernel
theorem dX7_enter_8 : decode cX7_enter 8 = .ok (.getfield 9, 3) := by decide +kernel
theorem dX7_enter_11 : decode cX7_enter 11 = .ok (.iload_n 3, 1) := by decide +kernel
theorem dX7_enter_12 : decode cX7_enter 12 = .ok (.aload_n 0, 1) := by decide +kernel
theorem dX7_enter_13 : decode cX7_enter 13 = .ok (.getfield 9, 3) := by decide +kernel
theorem dX7_enter_16 : decode cX7_enter 16 = .ok (.iload_n 3, 1) := by decide +kernel
theorem dX7_enter_17 : decode cX7_enter 17 = .ok (.iconst 1, 1) := by decide +kernel
theorem dX7_enter_18 : decode cX7_enter 18 = .ok (.iadd, 1) := by decide +kernel
theorem dX7_enter_19 : decode cX7_enter 19 = .ok (.aload_n 0, 1) := by decide +kernel
theorem dX7_enter_20 : decode cX7_enter 20 = .ok (.getfield 18, 3) := by decide +kernel
theorem dX7_enter_23 : decode cX7_enter 23 = .ok (.iload_n 3, 1) := by decide +kernel
theorem dX7_enter_24 : decode cX7_enter 24 = .ok (.isub, 1) := by decide +kernel
theorem dX7_enter_25 : decode cX7_enter 25 = .ok (.invokestatic 29, 3) := by decide +kernel
theorem dX7_enter_28 : decode cX7_enter 28 = .ok (.aload_n 0, 1) := by decide +kernel
theorem dX7_enter_29 : decode cX7_enter 29 = .ok (.getfield 15, 3) := by decide +kernel
theorem dX7_enter_32 : decode cX7_enter 32 = .ok (.iload_n 3, 1) := by decide +kernel
theorem dX7_enter_33 : decode cX7_enter 33 = .ok (.aload_n 0, 1) := by decide +kernel
theorem dX7_enter_34 : decode cX7_enter 34 = .ok (.getfield 15, 3) := by decide +kernel
theorem dX7_enter_37 : decode cX7_enter 37 = .ok (.iload_n 3, 1) := by decide +kernel
theorem dX7_enter_38 : decode cX7_enter 38 = .ok (.iconst 1, 1) := by decide +kernel
theorem dX7_enter_39 : decode cX7_enter 39 = .ok (.iadd, 1) := by decide +kernel
theorem dX7_enter_40 : decode cX7_enter 40 = .ok (.aload_n 0, 1) := by decide +kernel
theorem dX7_enter_41 : decode cX7_enter 41 = .ok (.getfield 18, 3) := by decide +kernel
theorem dX7_enter_44 : decode cX7_enter 44 = .ok (.iload_n 3, 1) := by decide +kernel
theorem dX7_enter_45 : decode cX7_enter 45 = .ok (.isub, 1) := by decide +kernel
theorem dX7_enter_46 : decode cX7_enter 46 = .ok (.invokestatic 29, 3) := by decide +kernel
theorem dX7_enter_49 : decode cX7_enter 49 = .ok (.aload_n 0, 1) := by decide +kernel
theorem dX7_enter_50 : decode cX7_enter 50 = .ok (.getfield 9, 3) := by decide +kernel
theorem dX7_enter_53 : decode cX7_enter 53 = .ok (.iload_n 3, 1) := by decide +kernel
theorem dX7_enter_54 : decode cX7_enter 54 = .ok (.iload_n 1, 1) := by decide +kernel
theorem dX7_enter_55 : decode cX7_enter 55 = .ok (.iastore, 1) := by decide +kernel
theorem dX7_enter_56 : decode cX7_enter 56 = .ok (.aload_n 0, 1) := by decide +kernel
theorem dX7_enter_57 : decode cX7_enter 57 = .ok (.getfield 15, 3) := by decide +kernel
theorem dX7_enter_60 : decode cX7_enter 60 = .ok (.iload_n 3, 1) := by decide +kernel
theorem dX7_enter_61 : decode cX7_enter 61 = .ok (.iload_n 2, 1) := by decide +kernel
theorem dX7_enter_62 : decode cX7_enter 62 = .ok (.iastore, 1) := by decide +kernel
theorem dX7_enter_63 : decode cX7_enter 63 = .ok (.aload_n 0, 1) := by decide +kernel
theorem dX7_enter_64 : decode cX7_enter 64 = .ok (.dup, 1) := by decide +kernel
theorem dX7_enter_65 : decode cX7_enter 65 = .ok (.getfield 18, 3) := by decide +kernel
theorem dX7_enter_68 : decode cX7_enter 68 = .ok (.iconst 1, 1) := by decide +kernel
theorem dX7_enter_69 : decode cX7_enter 69 = .ok (.iadd, 1) := by decide +kernel
theorem dX7_enter_70 : decode cX7_enter 70 = .ok (.putfield 18, 3) := by decide +kernel
theorem dX7_enter_73 : decode cX7_enter 73 = .ok (.return_, 1) := by decide +kernel
theorem dX7_placeFor_0 : decode cX7_placeFor 0 = .ok (.aload_n 0, 1) := by decide +kernel
theorem dX7_placeFor_1 : decode cX7_placeFor 1 = .ok (.getfield 18, 3) := by decide +kernel
theorem dX7_placeFor_4 : decode cX7_placeFor 4 = .ok (.istore_n 3, 1) := by decide +kernel
theorem dX7_placeFor_5 : decode cX7_placeFor 5 = .ok (.iload_n 3, 1) := by decide +kernel
theorem dX7_placeFor_6 : decode cX7_placeFor 6 = .ok (.ifCond .le 21, 3) := by decide +kernel
theorem dX7_placeFor_9 : decode cX7_placeFor 9 = .ok (.aload_n 0, 1) := by decide +kernel
theorem dX7_placeFor_10 : decode cX7_placeFor 10 = .ok (.iload_n 1, 1) := by decide +kernel
theorem dX7_placeFor_11 : decode cX7_placeFor 11 = .ok (.iload_n 2, 1) := by decide +kernel
theorem dX7_placeFor_12 : decode cX7_placeFor 12 = .ok (.iload_n 3, 1) := by decide +kernel
theorem dX7_placeFor_13 : decode cX7_placeFor 13 = .ok (.iconst 1, 1) := by decide +kernel
theorem dX7_placeFor_14 : decode cX7_placeFor 14 = .ok (.isub, 1) := by decide +kernel
theorem dX7_placeFor_15 : decode cX7_placeFor 15 = .ok (.invokevirtual 35, 3) := by decide +kernel
theorem dX7_placeFor_18 : decode cX7_placeFor 18 = .ok (.ifCond .eq 9, 3) := by decide +kernel
theorem dX7_placeFor_21 : decode cX7_placeFor 21 = .ok (.iinc 3 (-1), 3) := by decide +kernel
theorem dX7_placeFor_24 : decode cX7_placeFor 24 = .ok (.goto (-19), 3) := by decide +kernel
theorem dX7_placeFor_27 : decode cX7_placeFor 27 = .ok (.iload_n 3, 1) := by decide +kernel
theorem dX7_placeFor_28 : decode cX7_placeFor 28 = .ok (.ireturn, 1) := by decide +kernel
theorem dX7_comesAhead_0 : decode cX7_comesAhead 0 = .ok (.iload_n 2, 1) := by decide +kernel
theorem dX7_comesAhead_1 : decode cX7_comesAhead 1 = .ok (.aload_n 0, 1) := by decide +kernel
theorem dX7_comesAhead_2 : decode cX7_comesAhead 2 = .ok (.getfield 15, 3) := by decide +kernel
theorem dX7_comesAhead_5 : decode cX7_comesAhead 5 = .ok (.iload_n 3, 1) := by decide +kernel
theorem dX7_comesAhead_6 : decode cX7_comesAhead 6 = .ok (.iaload, 1) := by decide +kernel
theorem dX7_comesAhead_7 : decode cX7_comesAhead 7 = .ok (.if_icmp .lt 23, 3) := by decide +kernel
theorem dX7_comesAhead_10 : decode cX7_comesAhead 10 = .ok (.iload_n 2, 1) := by decide +kernel
theorem dX7_comesAhead_11 : decode cX7_comesAhead 11 = .ok (.aload_n 0, 1) := by decide +kernel
theorem dX7_comesAhead_12 : decode cX7_comesAhead 12 = .ok (.getfield 15, 3) := by decide +kernel
theorem dX7_comesAhead_15 : decode cX7_comesAhead 15 = .ok (.iload_n 3, 1) := by decide +kernel
theorem dX7_comesAhead_16 : decode cX7_comesAhead 16 = .ok (.iaload, 1) := by decide +kernel
theorem dX7_comesAhead_17 : decode cX7_comesAhead 17 = .ok (.if_icmp .ne 17, 3) := by decide +kernel
theorem dX7_comesAhead_20 : decode cX7_comesAhead 20 = .ok (.iload_n 1, 1) := by decide +kernel
theorem dX7_comesAhead_21 : decode cX7_comesAhead 21 = .ok (.aload_n 0, 1) := by decide +kernel
theorem dX7_comesAhead_22 : decode cX7_comesAhead 22 = .ok (.getfield 9, 3) := by decide +kernel
theorem dX7_comesAhead_25 : decode cX7_comesAhead 25 = .ok (.iload_n 3, 1) := by decide +kernel
theorem dX7_comesAhead_26 : decode cX7_comesAhead 26 = .ok (.iaload, 1) := by decide +kernel
theorem dX7_comesAhead_27 : decode cX7_comesAhead 27 = .ok (.if_icmp .ge 7, 3) := by decide +kernel
theorem dX7_comesAhead_30 : decode cX7_comesAhead 30 = .ok (.iconst 1, 1) := by decide +kernel
theorem dX7_comesAhead_31 : decode cX7_comesAhead 31 = .ok (.goto 4, 3) := by decide +kernel
theorem dX7_comesAhead_34 : decode cX7_comesAhead 34 = .ok (.iconst 0, 1) := by decide +kernel
theorem dX7_comesAhead_35 : decode cX7_comesAhead 35 = .ok (.ireturn, 1) := by decide +kernel
theorem dX7_dueAt_0 : decode cX7_dueAt 0 = .ok (.iconst 0, 1) := by decide +kernel
theorem dX7_dueAt_1 : decode cX7_dueAt 1 = .ok (.istore_n 2, 1) := by decide +kernel
theorem dX7_dueAt_2 : decode cX7_dueAt 2 = .ok (.iload_n 2, 1) := by decide +kernel
theorem dX7_dueAt_3 : decode cX7_dueAt 3 = .ok (.aload_n 0, 1) := by decide +kernel
theorem dX7_dueAt_4 : decode cX7_dueAt 4 = .ok (.getfield 18, 3) := by decide +kernel
theorem dX7_dueAt_7 : decode cX7_dueAt 7 = .ok (.if_icmp .ge 19, 3) := by decide +kernel
theorem dX7_dueAt_10 : decode cX7_dueAt 10 = .ok (.aload_n 0, 1) := by decide +kernel
theorem dX7_dueAt_11 : decode cX7_dueAt 11 = .ok (.getfield 15, 3) := by decide +kernel
theorem dX7_dueAt_14 : decode cX7_dueAt 14 = .ok (.iload_n 2, 1) := by decide +kernel
theorem dX7_dueAt_15 : decode cX7_dueAt 15 = .ok (.iaload, 1) := by decide +kernel
theorem dX7_dueAt_16 : decode cX7_dueAt 16 = .ok (.iload_n 1, 1) := by decide +kernel
theorem dX7_dueAt_17 : decode cX7_dueAt 17 = .ok (.if_icmp .gt 9, 3) := by decide +kernel
theorem dX7_dueAt_20 : decode cX7_dueAt 20 = .ok (.iinc 2 1, 3) := by decide +kernel
theorem dX7_dueAt_23 : decode cX7_dueAt 23 = .ok (.goto (-21), 3) := by decide +kernel
theorem dX7_dueAt_26 : decode cX7_dueAt 26 = .ok (.iload_n 2, 1) := by decide +kernel
theorem dX7_dueAt_27 : decode cX7_dueAt 27 = .ok (.ireturn, 1) := by decide +kernel
theorem dX7_takeFirst_0 : decode cX7_takeFirst 0 = .ok (.aload_n 0, 1) := by decide +kernel
theorem dX7_takeFirst_1 : decode cX7_takeFirst 1 = .ok (.getfield 9, 3) := by decide +kernel
theorem dX7_takeFirst_4 : decode cX7_takeFirst 4 = .ok (.iload_n 1, 1) := by decide +kernel
theorem dX7_takeFirst_5 : decode cX7_takeFirst 5 = .ok (.aload_n 0, 1) := by decide +kernel
theorem dX7_takeFirst_6 : decode cX7_takeFirst 6 = .ok (.getfield 9, 3) := by decide +kernel
theorem dX7_takeFirst_9 : decode cX7_takeFirst 9 = .ok (.iconst 0, 1) := by decide +kernel
theorem dX7_takeFirst_10 : decode cX7_takeFirst 10 = .ok (.aload_n 0, 1) := by decide +kernel
theorem dX7_takeFirst_11 : decode cX7_takeFirst 11 = .ok (.getfield 18, 3) := by decide +kernel
theorem dX7_takeFirst_14 : decode cX7_takeFirst 14 = .ok (.iload_n 1, 1) := by decide +kernel
theorem dX7_takeFirst_15 : decode cX7_takeFirst 15 = .ok (.isub, 1) := by decide +kernel
theorem dX7_takeFirst_16 : decode cX7_takeFirst 16 = .ok (.invokestatic 29, 3) := by decide +kernel
theorem dX7_takeFirst_19 : decode cX7_takeFirst 19 = .ok (.aload_n 0, 1) := by decide +kernel
theorem dX7_takeFirst_20 : decode cX7_takeFirst 20 = .ok (.getfield 15, 3) := by decide +kernel
theorem dX7_takeFirst_23 : decode cX7_takeFirst 23 = .ok (.iload_n 1, 1) := by decide +kernel
theorem dX7_takeFirst_24 : decode cX7_takeFirst 24 = .ok (.aload_n 0, 1) := by decide +kernel
theorem dX7_takeFirst_25 : decode cX7_takeFirst 25 = .ok (.getfield 15, 3) := by decide +kernel
theorem dX7_takeFirst_28 : decode cX7_takeFirst 28 = .ok (.iconst 0, 1) := by decide +kernel
theorem dX7_takeFirst_29 : decode cX7_takeFirst 29 = .ok (.aload_n 0, 1) := by decide +kernel
theorem dX7_takeFirst_30 : decode cX7_takeFirst 30 = .ok (.getfield 18, 3) := by decide +kernel
theorem dX7_takeFirst_33 : decode cX7_takeFirst 33 = .ok (.iload_n 1, 1) := by decide +kernel
theorem dX7_takeFirst_34 : decode cX7_takeFirst 34 = .ok (.isub, 1) := by decide +kernel
theorem dX7_takeFirst_35 : decode cX7_takeFirst 35 = .ok (.invokestatic 29, 3) := by decide +kernel
theorem dX7_takeFirst_38 : decode cX7_takeFirst 38 = .ok (.aload_n 0, 1) := by decide +kernel
theorem dX7_takeFirst_39 : decode cX7_takeFirst 39 = .ok (.dup, 1) := by decide +kernel
theorem dX7_takeFirst_40 : decode cX7_takeFirst 40 = .ok (.getfield 18, 3) := by decide +kernel
theorem dX7_takeFirst_43 : decode cX7_takeFirst 43 = .ok (.iload_n 1, 1) := by decide +kernel
theorem dX7_takeFirst_44 : decode cX7_takeFirst 44 = .ok (.isub, 1) := by decide +kernel
theorem dX7_takeFirst_45 : decode cX7_takeFirst 45 = .ok (.putfield 18, 3) := by decide +kernel
theorem dX7_takeFirst_48 : decode cX7_takeFirst 48 = .ok (.return_, 1) := by decide +kernel
theorem dX7_copyFrom_0 : decode cX7_copyFrom 0 = .ok (.aload_n 1, 1) := by decide +kernel
theorem dX7_copyFrom_1 : decode cX7_copyFrom 1 = .ok (.getfield 9, 3) := by decide +kernel
theorem dX7_copyFrom_4 : decode cX7_copyFrom 4 = .ok (.iconst 0, 1) := by decide +kernel
theorem dX7_copyFrom_5 : decode cX7_copyFrom 5 = .ok (.aload_n 0, 1) := by decide +kernel
theorem dX7_copyFrom_6 : decode cX7_copyFrom 6 = .ok (.getfield 9, 3) := by decide +kernel
theorem dX7_copyFrom_9 : decode cX7_copyFrom 9 = .ok (.iconst 0, 1) := by decide +kernel
theorem dX7_copyFrom_10 : decode cX7_copyFrom 10 = .ok (.aload_n 1, 1) := by decide +kernel
theorem dX7_copyFrom_11 : decode cX7_copyFrom 11 = .ok (.getfield 18, 3) := by decide +kernel
theorem dX7_copyFrom_14 : decode cX7_copyFrom 14 = .ok (.invokestatic 29, 3) := by decide +kernel
theorem dX7_copyFrom_17 : decode cX7_copyFrom 17 = .ok (.aload_n 1, 1) := by decide +kernel
theorem dX7_copyFrom_18 : decode cX7_copyFrom 18 = .ok (.getfield 15, 3) := by decide +kernel
theorem dX7_copyFrom_21 : decode cX7_copyFrom 21 = .ok (.iconst 0, 1) := by decide +kernel
theorem dX7_copyFrom_22 : decode cX7_copyFrom 22 = .ok (.aload_n 0, 1) := by decide +kernel
theorem dX7_copyFrom_23 : decode cX7_copyFrom 23 = .ok (.getfield 15, 3) := by decide +kernel
theorem dX7_copyFrom_26 : decode cX7_copyFrom 26 = .ok (.iconst 0, 1) := by decide +kernel
theorem dX7_copyFrom_27 : decode cX7_copyFrom 27 = .ok (.aload_n 1, 1) := by decide +kernel
theorem dX7_copyFrom_28 : decode cX7_copyFrom 28 = .ok (.getfield 18, 3) := by decide +kernel
theorem dX7_copyFrom_31 : decode cX7_copyFrom 31 = .ok (.invokestatic 29, 3) := by decide +kernel
theorem dX7_copyFrom_34 : decode cX7_copyFrom 34 = .ok (.aload_n 0, 1) := by decide +kernel
theorem dX7_copyFrom_35 : decode cX7_copyFrom 35 = .ok (.aload_n 1, 1) := by decide +kernel
theorem dX7_copyFrom_36 : decode cX7_copyFrom 36 = .ok (.getfield 18, 3) := by decide +kernel
theorem dX7_copyFrom_39 : decode cX7_copyFrom 39 = .ok (.putfield 18, 3) := by decide +kernel
theorem dX7_copyFrom_42 : decode cX7_copyFrom 42 = .ok (.aload_n 0, 1) := by decide +kernel
theorem dX7_copyFrom_43 : decode cX7_copyFrom 43 = .ok (.aload_n 1, 1) := by decide +kernel
theorem dX7_copyFrom_44 : decode cX7_copyFrom 44 = .ok (.getfield 22, 3) := by decide +kernel
theorem dX7_copyFrom_47 : decode cX7_copyFrom 47 = .ok (.putfield 22, 3) := by decide +kernel
theorem dX7_copyFrom_50 : decode cX7_copyFrom 50 = .ok (.return_, 1) := by decide +kernel
theorem dX8_init_0 : decode cX8_init 0 = .ok (.aload_n 0, 1) := by decide +kernel
theorem dX8_init_1 : decode cX8_init 1 = .ok (.invokespecial 1, 3) := by decide +kernel
theorem dX8_init_4 : decode cX8_init 4 = .ok (.aload_n 0, 1) := by decide +kernel
theorem dX8_init_5 : decode cX8_init 5 = .ok (.new 7, 3) := by decide +kernel
theorem dX8_init_8 : decode cX8_init 8 = .ok (.dup, 1) := by decide +kernel
theorem dX8_init_9 : decode cX8_init 9 = .ok (.invokespecial 9, 3) := by decide +kernel
theorem dX8_init_12 : decode cX8_init 12 = .ok (.putfield 10, 3) := by decide +kernel
theorem dX8_init_15 : decode cX8_init 15 = .ok (.aload_n 0, 1) := by decide +kernel
theorem dX8_init_16 : decode cX8_init 16 = .ok (.new 16, 3) := by decide +kernel
theorem dX8_init_19 : decode cX8_init 19 = .ok (.dup, 1) := by decide +kernel
theorem dX8_init_20 : decode cX8_init 20 = .ok (.invokespecial 18, 3) := by decide +kernel
theorem dX8_init_23 : decode cX8_init 23 = .ok (.putfield 19, 3) := by decide +kernel
theorem dX8_init_26 : decode cX8_init 26 = .ok (.aload_n 0, 1) := by decide +kernel
theorem dX8_init_27 : decode cX8_init 27 = .ok (.new 23, 3) := by decide +kernel
theorem dX8_init_30 : decode cX8_init 30 = .ok (.dup, 1) := by decide +kernel
theorem dX8_init_31 : decode cX8_init 31 = .ok (.invokespecial 25, 3) := by decide +kernel
theorem dX8_init_34 : decode cX8_init 34 = .ok (.putfield 26, 3) := by decide +kernel
theorem dX8_init_37 : decode cX8_init 37 = .ok (.aload_n 0, 1) := by decide +kernel
theorem dX8_init_38 : decode cX8_init 38 = .ok (.new 30, 3) := by decide +kernel
theorem dX8_init_41 : decode cX8_init 41 = .ok (.dup, 1) := by decide +kernel
theorem dX8_init_42 : decode cX8_init 42 = .ok (.invokespecial 32, 3) := by decide +kernel
theorem dX8_init_45 : decode cX8_init 45 = .ok (.putfield 33, 3) := by decide +kernel
theorem dX8_init_48 : decode cX8_init 48 = .ok (.aload_n 0, 1) := by decide +kernel
theorem dX8_init_49 : decode cX8_init 49 = .ok (.new 37, 3) := by decide +kernel
theorem dX8_init_52 : decode cX8_init 52 = .ok (.dup, 1) := by decide +kernel
theorem dX8_init_53 : decode cX8_init 53 = .ok (.invokespecial 39, 3) := by decide +kernel
theorem dX8_init_56 : decode cX8_init 56 = .ok (.putfield 40, 3) := by decide +kernel
theorem dX8_init_59 : decode cX8_init 59 = .ok (.aload_n 0, 1) := by decide +kernel
theorem dX8_init_60 : decode cX8_init 60 = .ok (.iconst 3, 1) := by decide +kernel
theorem dX8_init_61 : decode cX8_init 61 = .ok (.anewarray 23, 3) := by decide +kernel
theorem dX8_init_64 : decode cX8_init 64 = .ok (.putfield 44, 3) := by decide +kernel
theorem dX8_init_67 : decode cX8_init 67 = .ok (.aload_n 0, 1) := by decide +kernel
theorem dX8_init_68 : decode cX8_init 68 = .ok (.bipush 20, 2) := by decide +kernel
theorem dX8_init_70 : decode cX8_init 70 = .ok (.putfield 48, 3) := by decide +kernel
theorem dX8_init_73 : decode cX8_init 73 = .ok (.return_, 1) := by decide +kernel
theorem dX8_shape_0 : decode cX8_shape 0 = .ok (.iload_n 1, 1) := by decide +kernel
theorem dX8_shape_1 : decode cX8_shape 1 = .ok (.iconst 2, 1) := by decide +kernel
theorem dX8_shape_2 : decode cX8_shape 2 = .ok (.if_icmp .lt 9, 3) := by decide +kernel
theorem dX8_shape_5 : decode cX8_shape 5 = .ok (.iload_n 1, 1) := by decide +kernel
theorem dX8_shape_6 : decode cX8_shape 6 = .ok (.bipush 32, 2) := by decide +kernel
theorem dX8_shape_8 : decode cX8_shape 8 = .ok (.if_icmp .le 6, 3) := by decide +kernel
theorem dX8_shape_11 : decode cX8_shape 11 = .ok (.bipush (-102), 2) := by decide +kernel
theorem dX8_shape_13 : decode cX8_shape 13 = .ok (.ireturn, 1) := by decide +kernel
theorem dX8_shape_14 : decode cX8_shape 14 = .ok (.iload_n 2, 1) := by decide +kernel
theorem dX8_shape_15 : decode cX8_shape 15 = .ok (.iconst 1, 1) := by decide +kernel
theorem dX8_shape_16 : decode cX8_shape 16 = .ok (.if_icmp .lt 14, 3) := by decide +kernel
theorem dX8_shape_19 : decode cX8_shape 19 = .ok (.iload_n 2, 1) := by decide +kernel
theorem dX8_shape_20 : decode cX8_shape 20 = .ok (.bipush 12, 2) := by decide +kernel
theorem dX8_shape_22 : decode cX8_shape 22 = .ok (.if_icmp .gt 8, 3) := by decide +kernel
theorem dX8_shape_25 : decode cX8_shape 25 = .ok (.iload_n 2, 1) := by decide +kernel
theorem dX8_shape_26 : decode cX8_shape 26 = .ok (.iload_n 1, 1) := by decide +kernel
theorem dX8_shape_27 : decode cX8_shape 27 = .ok (.if_icmp .le 6, 3) := by decide +kernel
theorem dX8_shape_30 : decode cX8_shape 30 = .ok (.bipush (-102), 2) := by decide +kernel
theorem dX8_shape_32 : decode cX8_shape 32 = .ok (.ireturn, 1) := by decide +kernel
theorem dX8_shape_33 : decode cX8_shape 33 = .ok (.aload_n 0, 1) := by decide +kernel
theorem dX8_shape_34 : decode cX8_shape 34 = .ok (.getfield 26, 3) := by decide +kernel
theorem dX8_shape_37 : decode cX8_shape 37 = .ok (.getfield 52, 3) := by decide +kernel
theorem dX8_shape_40 : decode cX8_shape 40 = .ok (.getfield 56, 3) := by decide +kernel
theorem dX8_shape_43 : decode cX8_shape 43 = .ok (.ifCond .gt 23, 3) := by decide +kernel
theorem dX8_shape_46 : decode cX8_shape 46 = .ok (.aload_n 0, 1) := by decide +kernel
theorem dX8_shape_47 : decode cX8_shape 47 = .ok (.getfield 26, 3) := by decide +kernel
theorem dX8_shape_50 : decode cX8_shape 50 = .ok (.getfield 61, 3) := by decide +kernel
theorem dX8_shape_53 : decode cX8_shape 53 = .ok (.getfield 65, 3) := by decide +kernel
theorem dX8_shape_56 : decode cX8_shape 56 = .ok (.ifCond .gt 10, 3) := by decide +kernel
theorem dX8_shape_59 : decode cX8_shape 59 = .ok (.aload_n 0, 1) := by decide +kernel
theorem dX8_shape_60 : decode cX8_shape 60 = .ok (.getfield 70, 3) := by decide +kernel
theorem dX8_shape_63 : decode cX8_shape 63 = .ok (.ifCond .le 6, 3) := by decide +kernel
theorem dX8_shape_66 : decode cX8_shape 66 = .ok (.bipush (-103), 2) := by decide +kernel
theorem dX8_shape_68 : decode cX8_shape 68 = .ok (.ireturn, 1) := by decide +kernel
theorem dX8_shape_69 : decode cX8_shape 69 = .ok (.aload_n 0, 1) := by decide +kernel
theorem dX8_shape_70 : decode cX8_shape 70 = .ok (.getfield 10, 3) := by decide +kernel
theorem dX8_shape_73 : decode cX8_shape 73 = .ok (.iload_n 1, 1) := by decide +kernel
theorem dX8_shape_74 : decode cX8_shape 74 = .ok (.iload_n 2, 1) := by decide +kernel
theorem dX8_shape_75 : decode cX8_shape 75 = .ok (.invokevirtual 73, 3) := by decide +kernel
theorem dX8_shape_78 : decode cX8_shape 78 = .ok (.iconst 1, 1) := by decide +kernel
theorem dX8_shape_79 : decode cX8_shape 79 = .ok (.ireturn, 1) := by decide +kernel
theorem dX8_slack_0 : decode cX8_slack 0 = .ok (.iload_n 1, 1) := by decide +kernel
theorem dX8_slack_1 : decode cX8_slack 1 = .ok (.ifCond .lt 9, 3) := by decide +kernel
theorem dX8_slack_4 : decode cX8_slack 4 = .ok (.iload_n 1, 1) := by decide +kernel
theorem dX8_slack_5 : decode cX8_slack 5 = .ok (.bipush 100, 2) := by decide +kernel
theorem dX8_slack_7 : decode cX8_slack 7 = .ok (.if_icmp .le 6, 3) := by decide +kernel
theorem dX8_slack_10 : decode cX8_slack 10 = .ok (.bipush (-102), 2) := by decide +kernel
theorem dX8_slack_12 : decode cX8_slack 12 = .ok (.ireturn, 1) := by decide +kernel
theorem dX8_slack_13 : decode cX8_slack 13 = .ok (.aload_n 0, 1) := by decide +kernel
theorem dX8_slack_14 : decode cX8_slack 14 = .ok (.getfield 48, 3) := by decide +kernel
theorem dX8_slack_17 : decode cX8_slack 17 = .ok (.istore_n 2, 1) := by decide +kernel
theorem dX8_slack_18 : decode cX8_slack 18 = .ok (.aload_n 0, 1) := by decide +kernel
theorem dX8_slack_19 : decode cX8_slack 19 = .ok (.iload_n 1, 1) := by decide +kernel
theorem dX8_slack_20 : decode cX8_slack 20 = .ok (.putfield 48, 3) := by decide +kernel
theorem dX8_slack_23 : decode cX8_slack 23 = .ok (.iload_n 2, 1) := by decide +kernel
theorem dX8_slack_24 : decode cX8_slack 24 = .ok (.ireturn, 1) := by decide +kernel
theorem dX8_group_0 : decode cX8_group 0 = .ok (.iload_n 1, 1) := by decide +kernel
theorem dX8_group_1 : decode cX8_group 1 = .ok (.invokestatic 77, 3) := by decide +kernel
theorem dX8_group_4 : decode cX8_group 4 = .ok (.ifCond .eq 14, 3) := by decide +kernel
theorem dX8_group_7 : decode cX8_group 7 = .ok (.aload_n 0, 1) := by decide +kernel
theorem dX8_group_8 : decode cX8_group 8 = .ok (.getfield 10, 3) := by decide +kernel
theorem dX8_group_11 : decode cX8_group 11 = .ok (.iload_n 1, 1) := by decide +kernel
theorem dX8_group_12 : decode cX8_group 12 = .ok (.invokevirtual 81, 3) := by decide +kernel
theorem dX8_group_15 : decode cX8_group 15 = .ok (.goto 5, 3) := by decide +kernel
theorem dX8_group_18 : decode cX8_group 18 = .ok (.bipush (-101), 2) := by decide +kernel
theorem dX8_group_20 : decode cX8_group 20 = .ok (.ireturn, 1) := by decide +kernel
theorem dX8_row_0 : decode cX8_row 0 = .ok (.iload_n 1, 1) := by decide +kernel
theorem dX8_row_1 : decode cX8_row 1 = .ok (.invokestatic 77, 3) := by decide +kernel
theorem dX8_row_4 : decode cX8_row 4 = .ok (.ifCond .ne 6, 3) := by decide +kernel
theorem dX8_row_7 : decode cX8_row 7 = .ok (.bipush (-101), 2) := by decide +kernel
theorem dX8_row_9 : decode cX8_row 9 = .ok (.ireturn, 1) := by decide +kernel
theorem dX8_row_10 : decode cX8_row 10 = .ok (.iload_n 2, 1) := by decide +kernel
theorem dX8_row_11 : decode cX8_row 11 = .ok (.invokestatic 85, 3) := by decide +kernel
theorem dX8_row_14 : decode cX8_row 14 = .ok (.ifCond .ne 6, 3) := by decide +kernel
theorem dX8_row_17 : decode cX8_row 17 = .ok (.bipush (-102), 2) := by decide +kernel
theorem dX8_row_19 : decode cX8_row 19 = .ok (.ireturn, 1) := by decide +kernel
theorem dX8_row_20 : decode cX8_row 20 = .ok (.aload_n 0, 1) := by decide +kernel
theorem dX8_row_21 : decode cX8_row 21 = .ok (.getfield 26, 3) := by decide +kernel
theorem dX8_row_24 : decode cX8_row 24 = .ok (.getfield 52, 3) := by decide +kernel
theorem dX8_row_27 : decode cX8_row 27 = .ok (.getfield 56, 3) := by decide +kernel
theorem dX8_row_30 : decode cX8_row 30 = .ok (.sipush 400, 3) := by decide +kernel
theorem dX8_row_33 : decode cX8_row 33 = .ok (.if_icmp .lt 6, 3) := by decide +kernel
theorem dX8_row_36 : decode cX8_row 36 = .ok (.bipush (-107), 2) := by decide +kernel
theorem dX8_row_38 : decode cX8_row 38 = .ok (.ireturn, 1) := by decide +kernel
theorem dX8_row_39 : decode cX8_row 39 = .ok (.aload_n 0, 1) := by decide +kernel
theorem dX8_row_40 : decode cX8_row 40 = .ok (.getfield 10, 3) := by decide +kernel
theorem dX8_row_43 : decode cX8_row 43 = .ok (.iload_n 1, 1) := by decide +kernel
theorem dX8_row_44 : decode cX8_row 44 = .ok (.invokevirtual 81, 3) := by decide +kernel
theorem dX8_row_47 : decode cX8_row 47 = .ok (.istore_n 3, 1) := by decide +kernel
theorem dX8_row_48 : decode cX8_row 48 = .ok (.aload_n 0, 1) := by decide +kernel
theorem dX8_row_49 : decode cX8_row 49 = .ok (.getfield 26, 3) := by decide +kernel
theorem dX8_row_52 : decode cX8_row 52 = .ok (.getfield 52, 3) := by decide +kernel
theorem dX8_row_55 : decode cX8_row 55 = .ok (.iload_n 1, 1) := by decide +kernel
theorem dX8_row_56 : decode cX8_row 56 = .ok (.iload_n 2, 1) := by decide +kernel
theorem dX8_row_57 : decode cX8_row 57 = .ok (.invokevirtual 88, 3) := by decide +kernel
theorem dX8_row_60 : decode cX8_row 60 = .ok (.aload_n 0, 1) := by decide +kernel
theorem dX8_row_61 : decode cX8_row 61 = .ok (.getfield 10, 3) := by decide +kernel
theorem dX8_row_64 : decode cX8_row 64 = .ok (.getfield 91, 3) := by decide +kernel
theorem dX8_row_67 : decode cX8_row 67 = .ok (.iload_n 3, 1) := by decide +kernel
theorem dX8_row_68 : decode cX8_row 68 = .ok (.dup2, 1) := by decide +kernel
