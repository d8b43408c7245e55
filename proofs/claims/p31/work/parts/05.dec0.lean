theorem dX0_init_0 : decode cX0_init 0 = .ok (.aload_n 0, 1) := by decide +kernel
theorem dX0_init_1 : decode cX0_init 1 = .ok (.invokespecial 5, 3) := by decide +kernel
theorem dX0_init_4 : decode cX0_init 4 = .ok (.aload_n 0, 1) := by decide +kernel
theorem dX0_init_5 : decode cX0_init 5 = .ok (.bipush 9, 2) := by decide +kernel
theorem dX0_init_7 : decode cX0_init 7 = .ok (.newarray .int, 2) := by decide +kernel
theorem dX0_init_9 : decode cX0_init 9 = .ok (.putfield 11, 3) := by decide +kernel
theorem dX0_init_12 : decode cX0_init 12 = .ok (.aload_n 0, 1) := by decide +kernel
theorem dX0_init_13 : decode cX0_init 13 = .ok (.bipush 9, 2) := by decide +kernel
theorem dX0_init_15 : decode cX0_init 15 = .ok (.newarray .int, 2) := by decide +kernel
theorem dX0_init_17 : decode cX0_init 17 = .ok (.putfield 15, 3) := by decide +kernel
theorem dX0_init_20 : decode cX0_init 20 = .ok (.aload_n 0, 1) := by decide +kernel
theorem dX0_init_21 : decode cX0_init 21 = .ok (.bipush 9, 2) := by decide +kernel
theorem dX0_init_23 : decode cX0_init 23 = .ok (.newarray .int, 2) := by decide +kernel
theorem dX0_init_25 : decode cX0_init 25 = .ok (.putfield 18, 3) := by decide +kernel
theorem dX0_init_28 : decode cX0_init 28 = .ok (.aload_n 0, 1) := by decide +kernel
theorem dX0_init_29 : decode cX0_init 29 = .ok (.bipush 36, 2) := by decide +kernel
theorem dX0_init_31 : decode cX0_init 31 = .ok (.newarray .int, 2) := by decide +kernel
theorem dX0_init_33 : decode cX0_init 33 = .ok (.putfield 21, 3) := by decide +kernel
theorem dX0_init_36 : decode cX0_init 36 = .ok (.aload_n 0, 1) := by decide +kernel
theorem dX0_init_37 : decode cX0_init 37 = .ok (.bipush 36, 2) := by decide +kernel
theorem dX0_init_39 : decode cX0_init 39 = .ok (.newarray .int, 2) := by decide +kernel
theorem dX0_init_41 : decode cX0_init 41 = .ok (.putfield 24, 3) := by decide +kernel
theorem dX0_init_44 : decode cX0_init 44 = .ok (.aload_n 0, 1) := by decide +kernel
theorem dX0_init_45 : decode cX0_init 45 = .ok (.bipush 9, 2) := by decide +kernel
theorem dX0_init_47 : decode cX0_init 47 = .ok (.anewarray 27, 3) := by decide +kernel
theorem dX0_init_50 : decode cX0_init 50 = .ok (.putfield 29, 3) := by decide +kernel
theorem dX0_init_53 : decode cX0_init 53 = .ok (.aload_n 0, 1) := by decide +kernel
theorem dX0_init_54 : decode cX0_init 54 = .ok (.iconst 0, 1) := by decide +kernel
theorem dX0_init_55 : decode cX0_init 55 = .ok (.putfield 33, 3) := by decide +kernel
theorem dX0_init_58 : decode cX0_init 58 = .ok (.return_, 1) := by decide +kernel
theorem dX0_copyFrom_0 : decode cX0_copyFrom 0 = .ok (.aload_n 1, 1) := by decide +kernel
theorem dX0_copyFrom_1 : decode cX0_copyFrom 1 = .ok (.getfield 11, 3) := by decide +kernel
theorem dX0_copyFrom_4 : decode cX0_copyFrom 4 = .ok (.aload_n 0, 1) := by decide +kernel
theorem dX0_copyFrom_5 : decode cX0_copyFrom 5 = .ok (.getfield 11, 3) := by decide +kernel
theorem dX0_copyFrom_8 : decode cX0_copyFrom 8 = .ok (.invokestatic 37, 3) := by decide +kernel
theorem dX0_copyFrom_11 : decode cX0_copyFrom 11 = .ok (.aload_n 1, 1) := by decide +kernel
theorem dX0_copyFrom_12 : decode cX0_copyFrom 12 = .ok (.getfield 15, 3) := by decide +kernel
theorem dX0_copyFrom_15 : decode cX0_copyFrom 15 = .ok (.aload_n 0, 1) := by decide +kernel
theorem dX0_copyFrom_16 : decode cX0_copyFrom 16 = .ok (.getfield 15, 3) := by decide +kernel
theorem dX0_copyFrom_19 : decode cX0_copyFrom 19 = .ok (.invokestatic 37, 3) := by decide +kernel
theorem dX0_copyFrom_22 : decode cX0_copyFrom 22 = .ok (.aload_n 1, 1) := by decide +kernel
theorem dX0_copyFrom_23 : decode cX0_copyFrom 23 = .ok (.getfield 18, 3) := by decide +kernel
theorem dX0_copyFrom_26 : decode cX0_copyFrom 26 = .ok (.aload_n 0, 1) := by decide +kernel
theorem dX0_copyFrom_27 : decode cX0_copyFrom 27 = .ok (.getfield 18, 3) := by decide +kernel
theorem dX0_copyFrom_30 : decode cX0_copyFrom 30 = .ok (.invokestatic 37, 3) := by decide +kernel
theorem dX0_copyFrom_33 : decode cX0_copyFrom 33 = .ok (.aload_n 1, 1) := by decide +kernel
theorem dX0_copyFrom_34 : decode cX0_copyFrom 34 = .ok (.getfield 21, 3) := by decide +kernel
theorem dX0_copyFrom_37 : decode cX0_copyFrom 37 = .ok (.aload_n 0, 1) := by decide +kernel
theorem dX0_copyFrom_38 : decode cX0_copyFrom 38 = .ok (.getfield 21, 3) := by decide +kernel
theorem dX0_copyFrom_41 : decode cX0_copyFrom 41 = .ok (.invokestatic 37, 3) := by decide +kernel
theorem dX0_copyFrom_44 : decode cX0_copyFrom 44 = .ok (.aload_n 1, 1) := by decide +kernel
theorem dX0_copyFrom_45 : decode cX0_copyFrom 45 = .ok (.getfield 24, 3) := by decide +kernel
theorem dX0_copyFrom_48 : decode cX0_copyFrom 48 = .ok (.aload_n 0, 1) := by decide +kernel
theorem dX0_copyFrom_49 : decode cX0_copyFrom 49 = .ok (.getfield 24, 3) := by decide +kernel
theorem dX0_copyFrom_52 : decode cX0_copyFrom 52 = .ok (.invokestatic 37, 3) := by decide +kernel
theorem dX0_copyFrom_55 : decode cX0_copyFrom 55 = .ok (.aload_n 1, 1) := by decide +kernel
theorem dX0_copyFrom_56 : decode cX0_copyFrom 56 = .ok (.getfield 29, 3) := by decide +kernel
theorem dX0_copyFrom_59 : decode cX0_copyFrom 59 = .ok (.aload_n 0, 1) := by decide +kernel
theorem dX0_copyFrom_60 : decode cX0_copyFrom 60 = .ok (.getfield 29, 3) := by decide +kernel
theorem dX0_copyFrom_63 : decode cX0_copyFrom 63 = .ok (.invokestatic 41, 3) := by decide +kernel
theorem dX0_copyFrom_66 : decode cX0_copyFrom 66 = .ok (.aload_n 0, 1) := by decide +kernel
theorem dX0_copyFrom_67 : decode cX0_copyFrom 67 = .ok (.aload_n 1, 1) := by decide +kernel
theorem dX0_copyFrom_68 : decode cX0_copyFrom 68 = .ok (.getfield 33, 3) := by decide +kernel
theorem dX0_copyFrom_71 : decode cX0_copyFrom 71 = .ok (.putfield 33, 3) := by decide +kernel
theorem dX0_copyFrom_74 : decode cX0_copyFrom 74 = .ok (.return_, 1) := by decide +kernel
theorem dX0_timesOn_0 : decode cX0_timesOn 0 = .ok (.iconst 0, 1) := by decide +kernel
theorem dX0_timesOn_1 : decode cX0_timesOn 1 = .ok (.istore_n 2, 1) := by decide +kernel
theorem dX0_timesOn_2 : decode cX0_timesOn 2 = .ok (.iconst 0, 1) := by decide +kernel
theorem dX0_timesOn_3 : decode cX0_timesOn 3 = .ok (.istore_n 3, 1) := by decide +kernel
theorem dX0_timesOn_4 : decode cX0_timesOn 4 = .ok (.iload_n 3, 1) := by decide +kernel
theorem dX0_timesOn_5 : decode cX0_timesOn 5 = .ok (.aload_n 0, 1) := by decide +kernel
theorem dX0_timesOn_6 : decode cX0_timesOn 6 = .ok (.getfield 33, 3) := by decide +kernel
theorem dX0_timesOn_9 : decode cX0_timesOn 9 = .ok (.if_icmp .ge 22, 3) := by decide +kernel
theorem dX0_timesOn_12 : decode cX0_timesOn 12 = .ok (.aload_n 0, 1) := by decide +kernel
theorem dX0_timesOn_13 : decode cX0_timesOn 13 = .ok (.getfield 11, 3) := by decide +kernel
theorem dX0_timesOn_16 : decode cX0_timesOn 16 = .ok (.iload_n 3, 1) := by decide +kernel
theorem dX0_timesOn_17 : decode cX0_timesOn 17 = .ok (.iaload, 1) := by decide +kernel
theorem dX0_timesOn_18 : decode cX0_timesOn 18 = .ok (.iload_n 1, 1) := by decide +kernel
theorem dX0_timesOn_19 : decode cX0_timesOn 19 = .ok (.if_icmp .ne 6, 3) := by decide +kernel
theorem dX0_timesOn_22 : decode cX0_timesOn 22 = .ok (.iinc 2 1, 3) := by decide +kernel
theorem dX0_timesOn_25 : decode cX0_timesOn 25 = .ok (.iinc 3 1, 3) := by decide +kernel
theorem dX0_timesOn_28 : decode cX0_timesOn 28 = .ok (.goto (-24), 3) := by decide +kernel
theorem dX0_timesOn_31 : decode cX0_timesOn 31 = .ok (.iload_n 2, 1) := by decide +kernel
theorem dX0_timesOn_32 : decode cX0_timesOn 32 = .ok (.ireturn, 1) := by decide +kernel
theorem dX0_placeOf_0 : decode cX0_placeOf 0 = .ok (.iload_n 1, 1) := by decide +kernel
theorem dX0_placeOf_1 : decode cX0_placeOf 1 = .ok (.aload_n 0, 1) := by decide +kernel
theorem dX0_placeOf_2 : decode cX0_placeOf 2 = .ok (.getfield 33, 3) := by decide +kernel
theorem dX0_placeOf_5 : decode cX0_placeOf 5 = .ok (.invokestatic 45, 3) := by decide +kernel
theorem dX0_placeOf_8 : decode cX0_placeOf 8 = .ok (.ifCond .eq 16, 3) := by decide +kernel
theorem dX0_placeOf_11 : decode cX0_placeOf 11 = .ok (.aload_n 0, 1) := by decide +kernel
theorem dX0_placeOf_12 : decode cX0_placeOf 12 = .ok (.getfield 21, 3) := by decide +kernel
theorem dX0_placeOf_15 : decode cX0_placeOf 15 = .ok (.aload_n 0, 1) := by decide +kernel
theorem dX0_placeOf_16 : decode cX0_placeOf 16 = .ok (.iload_n 1, 1) := by decide +kernel
theorem dX0_placeOf_17 : decode cX0_placeOf 17 = .ok (.invokevirtual 49, 3) := by decide +kernel
theorem dX0_placeOf_20 : decode cX0_placeOf 20 = .ok (.iaload, 1) := by decide +kernel
theorem dX0_placeOf_21 : decode cX0_placeOf 21 = .ok (.goto 4, 3) := by decide +kernel
theorem dX0_placeOf_24 : decode cX0_placeOf 24 = .ok (.iconst 0, 1) := by decide +kernel
theorem dX0_placeOf_25 : decode cX0_placeOf 25 = .ok (.ireturn, 1) := by decide +kernel
theorem dX0_topColour_0 : decode cX0_topColour 0 = .ok (.aload_n 0, 1) := by decide +kernel
theorem dX0_topColour_1 : decode cX0_topColour 1 = .ok (.getfield 33, 3) := by decide +kernel
theorem dX0_topColour_4 : decode cX0_topColour 4 = .ok (.ifCond .le 17, 3) := by decide +kernel
theorem dX0_topColour_7 : decode cX0_topColour 7 = .ok (.aload_n 0, 1) := by decide +kernel
theorem dX0_topColour_8 : decode cX0_topColour 8 = .ok (.getfield 15, 3) := by decide +kernel
theorem dX0_topColour_11 : decode cX0_topColour 11 = .ok (.aload_n 0, 1) := by decide +kernel
theorem dX0_topColour_12 : decode cX0_topColour 12 = .ok (.getfield 33, 3) := by decide +kernel
theorem dX0_topColour_15 : decode cX0_topColour 15 = .ok (.iconst 1, 1) := by decide +kernel
theorem dX0_topColour_16 : decode cX0_topColour 16 = .ok (.isub, 1) := by decide +kernel
theorem dX0_topColour_17 : decode cX0_topColour 17 = .ok (.iaload, 1) := by decide +kernel
theorem dX0_topColour_18 : decode cX0_topColour 18 = .ok (.goto 4, 3) := by decide +kernel
theorem dX0_topColour_21 : decode cX0_topColour 21 = .ok (.iconst 0, 1) := by decide +kernel
theorem dX0_topColour_22 : decode cX0_topColour 22 = .ok (.ireturn, 1) := by decide +kernel
theorem dX0_stepLetter_0 : decode cX0_stepLetter 0 = .ok (.aload_n 0, 1) := by decide +kernel
theorem dX0_stepLetter_1 : decode cX0_stepLetter 1 = .ok (.getfield 33, 3) := by decide +kernel
theorem dX0_stepLetter_4 : decode cX0_stepLetter 4 = .ok (.ifCond .le 35, 3) := by decide +kernel
theorem dX0_stepLetter_7 : decode cX0_stepLetter 7 = .ok (.aload_n 0, 1) := by decide +kernel
theorem dX0_stepLetter_8 : decode cX0_stepLetter 8 = .ok (.getfield 29, 3) := by decide +kernel
theorem dX0_stepLetter_11 : decode cX0_stepLetter 11 = .ok (.aload_n 0, 1) := by decide +kernel
theorem dX0_stepLetter_12 : decode cX0_stepLetter 12 = .ok (.getfield 33, 3) := by decide +kernel
theorem dX0_stepLetter_15 : decode cX0_stepLetter 15 = .ok (.iconst 1, 1) := by decide +kernel
theorem dX0_stepLetter_16 : decode cX0_stepLetter 16 = .ok (.isub, 1) := by decide +kernel
theorem dX0_stepLetter_17 : decode cX0_stepLetter 17 = .ok (.aaload, 1) := by decide +kernel
theorem dX0_stepLetter_18 : decode cX0_stepLetter 18 = .ok (.aload_n 0, 1) := by decide +kernel
theorem dX0_stepLetter_19 : decode cX0_stepLetter 19 = .ok (.getfield 21, 3) := by decide +kernel
theorem dX0_stepLetter_22 : decode cX0_stepLetter 22 = .ok (.aload_n 0, 1) := by decide +kernel
theorem dX0_stepLetter_23 : decode cX0_stepLetter 23 = .ok (.aload_n 0, 1) := by decide +kernel
theorem dX0_stepLetter_24 : decode cX0_stepLetter 24 = .ok (.getfield 33, 3) := by decide +kernel
theorem dX0_stepLetter_27 : decode cX0_stepLetter 27 = .ok (.iconst 1, 1) := by decide +kernel
theorem dX0_stepLetter_28 : decode cX0_stepLetter 28 = .ok (.isub, 1) := by decide +kernel
theorem dX0_stepLetter_29 : decode cX0_stepLetter 29 = .ok (.invokevirtual 49, 3) := by decide +kernel
theorem dX0_stepLetter_32 : decode cX0_stepLetter 32 = .ok (.iaload, 1) := by decide +kernel
theorem dX0_stepLetter_33 : decode cX0_stepLetter 33 = .ok (.invokevirtual 53, 3) := by decide +kernel
theorem dX0_stepLetter_36 : decode cX0_stepLetter 36 = .ok (.goto 4, 3) := by decide +kernel
theorem dX0_stepLetter_39 : decode cX0_stepLetter 39 = .ok (.iconst 0, 1) := by decide +kernel
theorem dX0_stepLetter_40 : decode cX0_stepLetter 40 = .ok (.ireturn, 1) := by decide +kernel
theorem dX0_stepDigit_0 : decode cX0_stepDigit 0 = .ok (.aload_n 0, 1) := by decide +kernel
theorem dX0_stepDigit_1 : decode cX0_stepDigit 1 = .ok (.getfield 33, 3) := by decide +kernel
theorem dX0_stepDigit_4 : decode cX0_stepDigit 4 = .ok (.ifCond .le 35, 3) := by decide +kernel
theorem dX0_stepDigit_7 : decode cX0_stepDigit 7 = .ok (.aload_n 0, 1) := by decide +kernel
theorem dX0_stepDigit_8 : decode cX0_stepDigit 8 = .ok (.getfield 29, 3) := by decide +kernel
theorem dX0_stepDigit_11 : decode cX0_stepDigit 11 = .ok (.aload_n 0, 1) := by decide +kernel
theorem dX0_stepDigit_12 : decode cX0_stepDigit 12 = .ok (.getfield 33, 3) := by decide +kernel
theorem dX0_stepDigit_15 : decode cX0_stepDigit 15 = .ok (.iconst 1, 1) := by decide +kernel
theorem dX0_stepDigit_16 : decode cX0_stepDigit 16 = .ok (.isub, 1) := by decide +kernel
theorem dX0_stepDigit_17 : decode cX0_stepDigit 17 = .ok (.aaload, 1) := by decide +kernel
theorem dX0_stepDigit_18 : decode cX0_stepDigit 18 = .ok (.aload_n 0, 1) := by decide +kernel
theorem dX0_stepDigit_19 : decode cX0_stepDigit 19 = .ok (.getfield 21, 3) := by decide +kernel
theorem dX0_stepDigit_22 : decode cX0_stepDigit 22 = .ok (.aload_n 0, 1) := by decide +kernel
theorem dX0_stepDigit_23 : decode cX0_stepDigit 23 = .ok (.aload_n 0, 1) := by decide +kernel
theorem dX0_stepDigit_24 : decode cX0_stepDigit 24 = .ok (.getfield 33, 3) := by decide +kernel
theorem dX0_stepDigit_27 : decode cX0_stepDigit 27 = .ok (.iconst 1, 1) := by decide +kernel
theorem dX0_stepDigit_28 : decode cX0_stepDigit 28 = .ok (.isub, 1) := by decide +kernel
theorem dX0_stepDigit_29 : decode cX0_stepDigit 29 = .ok (.invokevirtual 49, 3) := by decide +kernel
theorem dX0_stepDigit_32 : decode cX0_stepDigit 32 = .ok (.iaload, 1) := by decide +kernel
theorem dX0_stepDigit_33 : decode cX0_stepDigit 33 = .ok (.invokevirtual 56, 3) := by decide +kernel
theorem dX0_stepDigit_36 : decode cX0_stepDigit 36 = .ok (.goto 4, 3) := by decide +kernel
theorem dX0_stepDigit_39 : decode cX0_stepDigit 39 = .ok (.iconst 0, 1) := by decide +kernel
theorem dX0_stepDigit_40 : decode cX0_stepDigit 40 = .ok (.ireturn, 1) := by decide +kernel
theorem dX0_layOn_0 : decode cX0_layOn 0 = .ok (.aload_n 2, 1) := by decide +kernel
theorem dX0_layOn_1 : decode cX0_layOn 1 = .ok (.ifnull 12, 3) := by decide +kernel
theorem dX0_layOn_4 : decode cX0_layOn 4 = .ok (.aload_n 0, 1) := by decide +kernel
theorem dX0_layOn_5 : decode cX0_layOn 5 = .ok (.getfield 33, 3) := by decide +kernel
theorem dX0_layOn_8 : decode cX0_layOn 8 = .ok (.bipush 9, 2) := by decide +kernel
theorem dX0_layOn_10 : decode cX0_layOn 10 = .ok (.if_icmp .lt 4, 3) := by decide +kernel
theorem dX0_layOn_13 : decode cX0_layOn 13 = .ok (.return_, 1) := by decide +kernel
theorem dX0_layOn_14 : decode cX0_layOn 14 = .ok (.aload_n 0, 1) := by decide +kernel
theorem dX0_layOn_15 : decode cX0_layOn 15 = .ok (.getfield 11, 3) := by decide +kernel
theorem dX0_layOn_18 : decode cX0_layOn 18 = .ok (.aload_n 0, 1) := by decide +kernel
theorem dX0_layOn_19 : decode cX0_layOn 19 = .ok (.getfield 33, 3) := by decide +kernel
theorem dX0_layOn_22 : decode cX0_layOn 22 = .ok (.iload_n 1, 1) := by decide +kernel
theorem dX0_layOn_23 : decode cX0_layOn 23 = .ok (.iastore, 1) := by decide +kernel
theorem dX0_layOn_24 : decode cX0_layOn 24 = .ok (.aload_n 0, 1) := by decide +kernel
theorem dX0_layOn_25 : decode cX0_layOn 25 = .ok (.getfield 29, 3) := by decide +kernel
theorem dX0_layOn_28 : decode cX0_layOn 28 = .ok (.aload_n 0, 1) := by decide +kernel
theorem dX0_layOn_29 : decode cX0_layOn 29 = .ok (.getfield 33, 3) := by decide +kernel
theorem dX0_layOn_32 : decode cX0_layOn 32 = .ok (.aload_n 2, 1) := by decide +kernel
theorem dX0_layOn_33 : decode cX0_layOn 33 = .ok (.aastore, 1) := by decide +kernel
theorem dX0_layOn_34 : decode cX0_layOn 34 = .ok (.aload_n 0, 1) := by decide +kernel
theorem dX0_layOn_35 : decode cX0_layOn 35 = .ok (.getfield 15, 3) := by decide +kernel
theorem dX0_layOn_38 : decode cX0_layOn 38 = .ok (.aload_n 0, 1) := by decide +kernel
theorem dX0_layOn_39 : decode cX0_layOn 39 = .ok (.getfield 33, 3) := by decide +kernel
theorem dX0_layOn_42 : decode cX0_layOn 42 = .ok (.iload_n 3, 1) := by decide +kernel
theorem dX0_layOn_43 : decode cX0_layOn 43 = .ok (.iastore, 1) := by decide +kernel
theorem dX0_layOn_44 : decode cX0_layOn 44 = .ok (.aload_n 0, 1) := by decide +kernel
theorem dX0_layOn_45 : decode cX0_layOn 45 = .ok (.getfield 18, 3) := by decide +kernel
theorem dX0_layOn_48 : decode cX0_layOn 48 = .ok (.aload_n 0, 1) := by decide +kernel
theorem dX0_layOn_49 : decode cX0_layOn 49 = .ok (.getfield 33, 3) := by decide +kernel
theorem dX0_layOn_52 : decode cX0_layOn 52 = .ok (.iconst 0, 1) := by decide +kernel
theorem dX0_layOn_53 : decode cX0_layOn 53 = .ok (.iastore, 1) := by decide +kernel
theorem dX0_layOn_54 : decode cX0_layOn 54 = .ok (.aload_n 0, 1) := by decide +kernel
theorem dX0_layOn_55 : decode cX0_layOn 55 = .ok (.getfield 21, 3) := by decide +kernel
theorem dX0_layOn_58 : decode cX0_layOn 58 = .ok (.aload_n 0, 1) := by decide +kernel
theorem dX0_layOn_59 : decode cX0_layOn 59 = .ok (.getfield 33, 3) := by decide +kernel
theorem dX0_layOn_62 : decode cX0_layOn 62 = .ok (.iconst 4, 1) := by decide +kernel
theorem dX0_layOn_63 : decode cX0_layOn 63 = .ok (.imul, 1) := by decide +kernel
theorem dX0_layOn_64 : decode cX0_layOn 64 = .ok (.iconst 0, 1) := by decide +kernel
theorem dX0_layOn_65 : decode cX0_layOn 65 = .ok (.iastore, 1) := by decide +kernel
theorem dX0_layOn_66 : decode cX0_layOn 66 = .ok (.aload_n 0, 1) := by decide +kernel
theorem dX0_layOn_67 : decode cX0_layOn 67 = .ok (.getfield 24, 3) := by decide +kernel
theorem dX0_layOn_70 : decode cX0_layOn 70 = .ok (.aload_n 0, 1) := by decide +kernel
theorem dX0_layOn_71 : decode cX0_layOn 71 = .ok (.getfield 33, 3) := by decide +kernel
theorem dX0_layOn_74 : decode cX0_layOn 74 = .ok (.iconst 4, 1) := by decide +kernel
theorem dX0_layOn_75 : decode cX0_layOn 75 = .ok (.imul, 1) := by decide +kernel
theorem dX0_layOn_76 : decode cX0_layOn 76 = .ok (.aload_n 2, 1) := by decide +kernel
theorem dX0_layOn_77 : decode cX0_layOn 77 = .ok (.iconst 0, 1) := by decide +kernel
theorem dX0_layOn_78 : decode cX0_layOn 78 = .ok (.invokevirtual 59, 3) := by decide +kernel
theorem dX0_layOn_81 : decode cX0_layOn 81 = .ok (.iastore, 1) := by decide +kernel
theorem dX0_layOn_82 : decode cX0_layOn 82 = .ok (.aload_n 0, 1) := by decide +kernel
theorem dX0_layOn_83 : decode cX0_layOn 83 = .ok (.dup, 1) := by decide +kernel
theorem dX0_layOn_84 : decode cX0_layOn 84 = .ok (.getfield 33, 3) := by decide +kernel
theorem dX0_layOn_87 : decode cX0_layOn 87 = .ok (.iconst 1, 1) := by decide +kernel
theorem dX0_layOn_88 : decode cX0_layOn 88 = .ok (.iadd, 1) := by decide +kernel
theorem dX0_layOn_89 : decode cX0_layOn 89 = .ok (.putfield 33, 3) := by decide +kernel
theorem dX0_layOn_92 : decode cX0_layOn 92 = .ok (.return_, 1) := by decide +kernel
theorem dX0_dye_0 : decode cX0_dye 0 = .ok (.aload_n 0, 1) := by decide +kernel
theorem dX0_dye_1 : decode cX0_dye 1 = .ok (.getfield 33, 3) := by decide +kernel
theorem dX0_dye_4 : decode cX0_dye 4 = .ok (.ifCond .le 15, 3) := by decide +kernel
theorem dX0_dye_7 : decode cX0_dye 7 = .ok (.aload_n 0, 1) := by decide +kernel
theorem dX0_dye_8 : decode cX0_dye 8 = .ok (.getfield 15, 3) := by decide +kernel
theorem dX0_dye_11 : decode cX0_dye 11 = .ok (.aload_n 0, 1) := by decide +kernel
theorem dX0_dye_12 : decode cX0_dye 12 = .ok (.getfield 33, 3) := by decide +kernel
theorem dX0_dye_15 : decode cX0_dye 15 = .ok (.iconst 1, 1) := by decide +kernel
theorem dX0_dye_16 : decode cX0_dye 16 = .ok (.isub, 1) := by decide +kernel
theorem dX0_dye_17 : decode cX0_dye 17 = .ok (.iload_n 1, 1) := by decide +kernel
theorem dX0_dye_18 : decode cX0_dye 18 = .ok (.iastore, 1) := by decide +kernel
theorem dX0_dye_19 : decode cX0_dye 19 = .ok (.return_, 1) := by decide +kernel
theorem dX0_passOver_0 : decode cX0_passOver 0 = .ok (.aload_n 0, 1) := by decide +kernel
theorem dX0_passOver_1 : decode cX0_passOver 1 = .ok (.getfield 33, 3) := by decide +kernel
theorem dX0_passOver_4 : decode cX0_passOver 4 = .ok (.ifCond .ne 4, 3) := by decide +kernel
theorem dX0_passOver_7 : decode cX0_passOver 7 = .ok (.return_, 1) := by decide +kernel
theorem dX0_passOver_8 : decode cX0_passOver 8 = .ok (.aload_n 0, 1) := by decide +kernel
theorem dX0_passOver_9 : decode cX0_passOver 9 = .ok (.aload_n 0, 1) := by decide +kernel
theorem dX0_passOver_10 : decode cX0_passOver 10 = .ok (.getfield 33, 3) := by decide +kernel
theorem dX0_passOver_13 : decode cX0_passOver 13 = .ok (.iconst 1, 1) := by decide +kernel
theorem dX0_passOver_14 : decode cX0_passOver 14 = .ok (.isub, 1) := by decide +kernel
theorem dX0_passOver_15 : decode cX0_passOver 15 = .ok (.invokevirtual 49, 3) := by decide +kernel
theorem dX0_passOver_18 : decode cX0_passOver 18 = .ok (.istore_n 1, 1) := by decide +kernel
theorem dX0_passOver_19 : decode cX0_passOver 19 = .ok (.aload_n 0, 1) := by decide +kernel
theorem dX0_passOver_20 : decode cX0_passOver 20 = .ok (.invokevirtual 62, 3) := by decide +kernel
theorem dX0_passOver_23 : decode cX0_passOver 23 = .ok (.bipush 119, 2) := by decide +kernel
theorem dX0_passOver_25 : decode cX0_passOver 25 = .ok (.if_icmp .ne 26, 3) := by decide +kernel
theorem dX0_passOver_28 : decode cX0_passOver 28 = .ok (.aload_n 0, 1) := by decide +kernel
theorem dX0_passOver_29 : decode cX0_passOver 29 = .ok (.getfield 24, 3) := by decide +kernel
theorem dX0_passOver_32 : decode cX0_passOver 32 = .ok (.iload_n 1, 1) := by decide +kernel
theorem dX0_passOver_33 : decode cX0_passOver 33 = .ok (.iaload, 1) := by decide +kernel
theorem dX0_passOver_34 : decode cX0_passOver 34 = .ok (.iconst 1, 1) := by decide +kernel
theorem dX0_passOver_35 : decode cX0_passOver 35 = .ok (.if_icmp .le 16, 3) := by decide +kernel
theorem dX0_passOver_38 : decode cX0_passOver 38 = .ok (.aload_n 0, 1) := by decide +kernel
theorem dX0_passOver_39 : decode cX0_passOver 39 = .ok (.getfield 24, 3) := by decide +kernel
theorem dX0_passOver_42 : decode cX0_passOver 42 = .ok (.iload_n 1, 1) := by decide +kernel
theorem dX0_passOver_43 : decode cX0_passOver 43 = .ok (.dup2, 1) := by decide +kernel
theorem dX0_passOver_44 : decode cX0_passOver 44 = .ok (.iaload, 1) := by decide +kernel
theorem dX0_passOver_45 : decode cX0_passOver 45 = .ok (.iconst 1, 1) := by decide +kernel
theorem dX0_passOver_46 : decode cX0_passOver 46 = .ok (.isub, 1) := by decide +kernel
theorem dX0_passOver_47 : decode cX0_passOver 47 = .ok (.iastore, 1) := by decide +kernel
theorem dX0_passOver_48 : decode cX0_passOver 48 = .ok (.goto 11, 3) := by decide +kernel
theorem dX0_passOver_51 : decode cX0_passOver 51 = .ok (.aload_n 0, 1) := by decide +kernel
theorem dX0_passOver_52 : decode cX0_passOver 52 = .ok (.aload_n 0, 1) := by decide +kernel
theorem dX0_passOver_53 : decode cX0_passOver 53 = .ok (.invokevirtual 66, 3) := by decide +kernel
theorem dX0_passOver_56 : decode cX0_passOver 56 = .ok (.invokevirtual 69, 3) := by decide +kernel
theorem dX0_passOver_59 : decode cX0_passOver 59 = .ok (.return_, 1) := by decide +kernel
theorem dX0_beginPart_0 : decode cX0_beginPart 0 = .ok (.aload_n 0, 1) := by decide +kernel
theorem dX0_beginPart_1 : decode cX0_beginPart 1 = .ok (.getfield 33, 3) := by decide +kernel
theorem dX0_beginPart_4 : decode cX0_beginPart 4 = .ok (.ifCond .eq 18, 3) := by decide +kernel
theorem dX0_beginPart_7 : decode cX0_beginPart 7 = .ok (.aload_n 0, 1) := by decide +kernel
theorem dX0_beginPart_8 : decode cX0_beginPart 8 = .ok (.getfield 18, 3) := by decide +kernel
theorem dX0_beginPart_11 : decode cX0_beginPart 11 = .ok (.aload_n 0, 1) := by decide +kernel
theorem dX0_beginPart_12 : decode cX0_beginPart 12 = .ok (.getfield 33, 3) := by decide +kernel
theorem dX0_beginPart_15 : decode cX0_beginPart 15 = .ok (.iconst 1, 1) := by decide +kernel
theorem dX0_beginPart_16 : decode cX0_beginPart 16 = .ok (.isub, 1) := by decide +kernel
theorem dX0_beginPart_17 : decode cX0_beginPart 17 = .ok (.iaload, 1) := by decide +kernel
theorem dX0_beginPart_18 : decode cX0_beginPart 18 = .ok (.iconst 3, 1) := by decide +kernel
theorem dX0_beginPart_19 : decode cX0_beginPart 19 = .ok (.if_icmp .lt 4, 3) := by decide +kernel
theorem dX0_beginPart_22 : decode cX0_beginPart 22 = .ok (.return_, 1) := by decide +kernel
theorem dX0_beginPart_23 : decode cX0_beginPart 23 = .ok (.aload_n 0, 1) := by decide +kernel
theorem dX0_beginPart_24 : decode cX0_beginPart 24 = .ok (.aload_n 0, 1) := by decide +kernel
theorem dX0_beginPart_25 : decode cX0_beginPart 25 = .ok (.getfield 33, 3) := by decide +kernel
theorem dX0_beginPart_28 : decode cX0_beginPart 28 = .ok (.iconst 1, 1) := by decide +kernel
theorem dX0_beginPart_29 : decode cX0_beginPart 29 = .ok (.isub, 1) := by decide +kernel
theorem dX0_beginPart_30 : decode cX0_beginPart 30 = .ok (.invokevirtual 49, 3) := by decide +kernel
theorem dX0_beginPart_33 : decode cX0_beginPart 33 = .ok (.istore_n 1, 1) := by decide +kernel
theorem dX0_beginPart_34 : decode cX0_beginPart 34 = .ok (.aload_n 0, 1) := by decide +kernel
theorem dX0_beginPart_35 : decode cX0_beginPart 35 = .ok (.getfield 24, 3) := by decide +kernel
theorem dX0_beginPart_38 : decode cX0_beginPart 38 = .ok (.iload_n 1, 1) := by decide +kernel
theorem dX0_beginPart_39 : decode cX0_beginPart 39 = .ok (.dup2, 1) := by decide +kernel
theorem dX0_beginPart_40 : decode cX0_beginPart 40 = .ok (.iaload, 1) := by decide +kernel
theorem dX0_beginPart_41 : decode cX0_beginPart 41 = .ok (.iconst 1, 1) := by decide +kernel
theorem dX0_beginPart_42 : decode cX0_beginPart 42 = .ok (.isub, 1) := by decide +kernel
theorem dX0_beginPart_43 : decode cX0_beginPart 43 = .ok (.iastore, 1) := by decide +kernel
theorem dX0_beginPart_44 : decode cX0_beginPart 44 = .ok (.aload_n 0, 1) := by decide +kernel
theorem dX0_beginPart_45 : decode cX0_beginPart 45 = .ok (.getfield 18, 3) := by decide +kernel
theorem dX0_beginPart_48 : decode cX0_beginPart 48 = .ok (.aload_n 0, 1) := by decide +kernel
theorem dX0_beginPart_49 : decode cX0_beginPart 49 = .ok (.getfield 33, 3) := by decide +kernel
theorem dX0_beginPart_52 : decode cX0_beginPart 52 = .ok (.iconst 1, 1) := by decide +kernel
theorem dX0_beginPart_53 : decode cX0_beginPart 53 = .ok (.isub, 1) := by decide +kernel
theorem dX0_beginPart_54 : decode cX0_beginPart 54 = .ok (.dup2, 1) := by decide +kernel
theorem dX0_beginPart_55 : decode cX0_beginPart 55 = .ok (.iaload, 1) := by decide +kernel
theorem dX0_beginPart_56 : decode cX0_beginPart 56 = .ok (.iconst 1, 1) := by decide +kernel
theorem dX0_beginPart_57 : decode cX0_beginPart 57 = .ok (.iadd, 1) := by decide +kernel
theorem dX0_beginPart_58 : decode cX0_beginPart 58 = .ok (.iastore, 1) := by decide +kernel
theorem dX0_beginPart_59 : decode cX0_beginPart 59 = .ok (.aload_n 0, 1) := by decide +kernel
theorem dX0_beginPart_60 : decode cX0_beginPart 60 = .ok (.aload_n 0, 1) := by decide +kernel
theorem dX0_beginPart_61 : decode cX0_beginPart 61 = .ok (.getfield 29, 3) := by decide +kernel
theorem dX0_beginPart_64 : decode cX0_beginPart 64 = .ok (.aload_n 0, 1) := by decide +kernel
theorem dX0_beginPart_65 : decode cX0_beginPart 65 = .ok (.getfield 33, 3) := by decide +kernel
theorem dX0_beginPart_68 : decode cX0_beginPart 68 = .ok (.iconst 1, 1) := by decide +kernel
theorem dX0_beginPart_69 : decode cX0_beginPart 69 = .ok (.isub, 1) := by decide +kernel
theorem dX0_beginPart_70 : decode cX0_beginPart 70 = .ok (.aaload, 1) := by decide +kernel
theorem dX0_beginPart_71 : decode cX0_beginPart 71 = .ok (.aload_n 0, 1) := by decide +kernel
theorem dX0_beginPart_72 : decode cX0_beginPart 72 = .ok (.getfield 21, 3) := by decide +kernel
theorem dX0_beginPart_75 : decode cX0_beginPart 75 = .ok (.iload_n 1, 1) := by decide +kernel
theorem dX0_beginPart_76 : decode cX0_beginPart 76 = .ok (.iaload, 1) := by decide +kernel
theorem dX0_beginPart_77 : decode cX0_beginPart 77 = .ok (.invokevirtual 73, 3) := by decide +kernel
theorem dX0_beginPart_80 : decode cX0_beginPart 80 = .ok (.invokevirtual 69, 3) := by decide +kernel
theorem dX0_beginPart_83 : decode cX0_beginPart 83 = .ok (.return_, 1) := by decide +kernel
theorem dX0_leaveEnds_0 : decode cX0_leaveEnds 0 = .ok (.iconst 0, 1) := by decide +kernel
theorem dX0_leaveEnds_1 : decode cX0_leaveEnds 1 = .ok (.istore_n 1, 1) := by decide +kernel
theorem dX0_leaveEnds_2 : decode cX0_leaveEnds 2 = .ok (.iload_n 1, 1) := by decide +kernel
theorem dX0_leaveEnds_3 : decode cX0_leaveEnds 3 = .ok (.bipush 36, 2) := by decide +kernel
theorem dX0_leaveEnds_5 : decode cX0_leaveEnds 5 = .ok (.if_icmp .ge 111, 3) := by decide +kernel
theorem dX0_leaveEnds_8 : decode cX0_leaveEnds 8 = .ok (.aload_n 0, 1) := by decide +kernel
theorem dX0_leaveEnds_9 : decode cX0_leaveEnds 9 = .ok (.getfield 33, 3) := by decide +kernel
theorem dX0_leaveEnds_12 : decode cX0_leaveEnds 12 = .ok (.ifCond .le 104, 3) := by decide +kernel
theorem dX0_leaveEnds_15 : decode cX0_leaveEnds 15 = .ok (.aload_n 0, 1) := by decide +kernel
theorem dX0_leaveEnds_16 : decode cX0_leaveEnds 16 = .ok (.invokevirtual 62, 3) := by decide +kernel
theorem dX0_leaveEnds_19 : decode cX0_leaveEnds 19 = .ok (.istore_n 2, 1) := by decide +kernel
theorem dX0_leaveEnds_20 : decode cX0_leaveEnds 20 = .ok (.iload_n 2, 1) := by decide +kernel
theorem dX0_leaveEnds_21 : decode cX0_leaveEnds 21 = .ok (.bipush 41, 2) := by decide +kernel
theorem dX0_leaveEnds_23 : decode cX0_leaveEnds 23 = .ok (.if_icmp .ne 61, 3) := by decide +kernel
theorem dX0_leaveEnds_26 : decode cX0_leaveEnds 26 = .ok (.aload_n 0, 1) := by decide +kernel
theorem dX0_leaveEnds_27 : decode cX0_leaveEnds 27 = .ok (.getfield 18, 3) := by decide +kernel
theorem dX0_leaveEnds_30 : decode cX0_leaveEnds 30 = .ok (.aload_n 0, 1) := by decide +kernel
theorem dX0_leaveEnds_31 : decode cX0_leaveEnds 31 = .ok (.getfield 33, 3) := by decide +kernel
theorem dX0_leaveEnds_34 : decode cX0_leaveEnds 34 = .ok (.iconst 1, 1) := by decide +kernel
theorem dX0_leaveEnds_35 : decode cX0_leaveEnds 35 = .ok (.isub, 1) := by decide +kernel
theorem dX0_leaveEnds_36 : decode cX0_leaveEnds 36 = .ok (.iaload, 1) := by decide +kernel
theorem dX0_leaveEnds_37 : decode cX0_leaveEnds 37 = .ok (.ifCond .le 47, 3) := by decide +kernel
theorem dX0_leaveEnds_40 : decode cX0_leaveEnds 40 = .ok (.aload_n 0, 1) := by decide +kernel
theorem dX0_leaveEnds_41 : decode cX0_leaveEnds 41 = .ok (.getfield 18, 3) := by decide +kernel
theorem dX0_leaveEnds_44 : decode cX0_leaveEnds 44 = .ok (.aload_n 0, 1) := by decide +kernel
theorem dX0_leaveEnds_45 : decode cX0_leaveEnds 45 = .ok (.getfield 33, 3) := by decide +kernel
theorem dX0_leaveEnds_48 : decode cX0_leaveEnds 48 = .ok (.iconst 1, 1) := by decide +kernel
theorem dX0_leaveEnds_49 : decode cX0_leaveEnds 49 = .ok (.isub, 1) := by decide +kernel
theorem dX0_leaveEnds_50 : decode cX0_leaveEnds 50 = .ok (.dup2, 1) := by decide +kernel
theorem dX0_leaveEnds_51 : decode cX0_leaveEnds 51 = .ok (.iaload, 1) := by decide +kernel
theorem dX0_leaveEnds_52 : decode cX0_leaveEnds 52 = .ok (.iconst 1, 1) := by decide +kernel
theorem dX0_leaveEnds_53 : decode cX0_leaveEnds 53 = .ok (.isub, 1) := by decide +kernel
theorem dX0_leaveEnds_54 : decode cX0_leaveEnds 54 = .ok (.iastore, 1) := by decide +kernel
theorem dX0_leaveEnds_55 : decode cX0_leaveEnds 55 = .ok (.aload_n 0, 1) := by decide +kernel
theorem dX0_leaveEnds_56 : decode cX0_leaveEnds 56 = .ok (.getfield 24, 3) := by decide +kernel
theorem dX0_leaveEnds_59 : decode cX0_leaveEnds 59 = .ok (.aload_n 0, 1) := by decide +kernel
theorem dX0_leaveEnds_60 : decode cX0_leaveEnds 60 = .ok (.aload_n 0, 1) := by decide +kernel
theorem dX0_leaveEnds_61 : decode cX0_leaveEnds 61 = .ok (.getfield 33, 3) := by decide +kernel
theorem dX0_leaveEnds_64 : decode cX0_leaveEnds 64 = .ok (.iconst 1, 1) := by decide +kernel
theorem dX0_leaveEnds_65 : decode cX0_leaveEnds 65 = .ok (.isub, 1) := by decide +kernel
theorem dX0_leaveEnds_66 : decode cX0_leaveEnds 66 = .ok (.invokevirtual 49, 3) := by decide +kernel
theorem dX0_leaveEnds_69 : decode cX0_leaveEnds 69 = .ok (.iaload, 1) := by decide +kernel
theorem dX0_leaveEnds_70 : decode cX0_leaveEnds 70 = .ok (.ifCond .gt 40, 3) := by decide +kernel
theorem dX0_leaveEnds_73 : decode cX0_leaveEnds 73 = .ok (.aload_n 0, 1) := by decide +kernel
theorem dX0_leaveEnds_74 : decode cX0_leaveEnds 74 = .ok (.aload_n 0, 1) := by decide +kernel
theorem dX0_leaveEnds_75 : decode cX0_leaveEnds 75 = .ok (.invokevirtual 66, 3) := by decide +kernel
theorem dX0_leaveEnds_78 : decode cX0_leaveEnds 78 = .ok (.invokevirtual 69, 3) := by decide +kernel
theorem dX0_leaveEnds_81 : decode cX0_leaveEnds 81 = .ok (.goto 29, 3) := by decide +kernel
theorem dX0_leaveEnds_84 : decode cX0_leaveEnds 84 = .ok (.iload_n 2, 1) := by decide +kernel
theorem dX0_leaveEnds_85 : decode cX0_leaveEnds 85 = .ok (.ifCond .ne 24, 3) := by decide +kernel
theorem dX0_leaveEnds_88 : decode cX0_leaveEnds 88 = .ok (.aload_n 0, 1) := by decide +kernel
theorem dX0_leaveEnds_89 : decode cX0_leaveEnds 89 = .ok (.dup, 1) := by decide +kernel
theorem dX0_leaveEnds_90 : decode cX0_leaveEnds 90 = .ok (.getfield 33, 3) := by decide +kernel
theorem dX0_leaveEnds_93 : decode cX0_leaveEnds 93 = .ok (.iconst 1, 1) := by decide +kernel
theorem dX0_leaveEnds_94 : decode cX0_leaveEnds 94 = .ok (.isub, 1) := by decide +kernel
theorem dX0_leaveEnds_95 : decode cX0_leaveEnds 95 = .ok (.putfield 33, 3) := by decide +kernel
theorem dX0_leaveEnds_98 : decode cX0_leaveEnds 98 = .ok (.aload_n 0, 1) := by decide +kernel
theorem dX0_leaveEnds_99 : decode cX0_leaveEnds 99 = .ok (.aload_n 0, 1) := by decide +kernel
theorem dX0_leaveEnds_100 : decode cX0_leaveEnds 100 = .ok (.invokevirtual 66, 3) := by decide +kernel
theorem dX0_leaveEnds_103 : decode cX0_leaveEnds 103 = .ok (.invokevirtual 69, 3) := by decide +kernel
theorem dX0_leaveEnds_106 : decode cX0_leaveEnds 106 = .ok (.goto 4, 3) := by decide +kernel
theorem dX0_leaveEnds_109 : decode cX0_leaveEnds 109 = .ok (.return_, 1) := by decide +kernel
theorem dX0_leaveEnds_110 : decode cX0_leaveEnds 110 = .ok (.iinc 1 1, 3) := by decide +kernel
theorem dX0_leaveEnds_113 : decode cX0_leaveEnds 113 = .ok (.goto (-111), 3) := by decide +kernel
theorem dX0_leaveEnds_116 : decode cX0_leaveEnds 116 = .ok (.return_, 1) := by decide +kernel
theorem dX0_placeBehind_0 : decode cX0_placeBehind 0 = .ok (.aload_n 0, 1) := by decide +kernel
theorem dX0_placeBehind_1 : decode cX0_placeBehind 1 = .ok (.getfield 33, 3) := by decide +kernel
theorem dX0_placeBehind_4 : decode cX0_placeBehind 4 = .ok (.ifCond .le 35, 3) := by decide +kernel
theorem dX0_placeBehind_7 : decode cX0_placeBehind 7 = .ok (.aload_n 0, 1) := by decide +kernel
theorem dX0_placeBehind_8 : decode cX0_placeBehind 8 = .ok (.getfield 29, 3) := by decide +kernel
theorem dX0_placeBehind_11 : decode cX0_placeBehind 11 = .ok (.aload_n 0, 1) := by decide +kernel
theorem dX0_placeBehind_12 : decode cX0_placeBehind 12 = .ok (.getfield 33, 3) := by decide +kernel
theorem dX0_placeBehind_15 : decode cX0_placeBehind 15 = .ok (.iconst 1, 1) := by decide +kernel
theorem dX0_placeBehind_16 : decode cX0_placeBehind 16 = .ok (.isub, 1) := by decide +kernel
theorem dX0_placeBehind_17 : decode cX0_placeBehind 17 = .ok (.aaload, 1) := by decide +kernel
theorem dX0_placeBehind_18 : decode cX0_placeBehind 18 = .ok (.aload_n 0, 1) := by decide +kernel
theorem dX0_placeBehind_19 : decode cX0_placeBehind 19 = .ok (.getfield 21, 3) := by decide +kernel
theorem dX0_placeBehind_22 : decode cX0_placeBehind 22 = .ok (.aload_n 0, 1) := by decide +kernel
theorem dX0_placeBehind_23 : decode cX0_placeBehind 23 = .ok (.aload_n 0, 1) := by decide +kernel
theorem dX0_placeBehind_24 : decode cX0_placeBehind 24 = .ok (.getfield 33, 3) := by decide +kernel
theorem dX0_placeBehind_27 : decode cX0_placeBehind 27 = .ok (.iconst 1, 1) := by decide +kernel
theorem dX0_placeBehind_28 : decode cX0_placeBehind 28 = .ok (.isub, 1) := by decide +kernel
theorem dX0_placeBehind_29 : decode cX0_placeBehind 29 = .ok (.invokevirtual 49, 3) := by decide +kernel
theorem dX0_placeBehind_32 : decode cX0_placeBehind 32 = .ok (.iaload, 1) := by decide +kernel
theorem dX0_placeBehind_33 : decode cX0_placeBehind 33 = .ok (.invokevirtual 76, 3) := by decide +kernel
theorem dX0_placeBehind_36 : decode cX0_placeBehind 36 = .ok (.goto 4, 3) := by decide +kernel
theorem dX0_placeBehind_39 : decode cX0_placeBehind 39 = .ok (.iconst 0, 1) := by decide +kernel
theorem dX0_placeBehind_40 : decode cX0_placeBehind 40 = .ok (.ireturn, 1) := by decide +kernel
theorem dX0_arriveAt_0 : decode cX0_arriveAt 0 = .ok (.aload_n 0, 1) := by decide +kernel
theorem dX0_arriveAt_1 : decode cX0_arriveAt 1 = .ok (.getfield 33, 3) := by decide +kernel
theorem dX0_arriveAt_4 : decode cX0_arriveAt 4 = .ok (.ifCond .ne 4, 3) := by decide +kernel
theorem dX0_arriveAt_7 : decode cX0_arriveAt 7 = .ok (.return_, 1) := by decide +kernel
theorem dX0_arriveAt_8 : decode cX0_arriveAt 8 = .ok (.aload_n 0, 1) := by decide +kernel
theorem dX0_arriveAt_9 : decode cX0_arriveAt 9 = .ok (.aload_n 0, 1) := by decide +kernel
theorem dX0_arriveAt_10 : decode cX0_arriveAt 10 = .ok (.getfield 33, 3) := by decide +kernel
theorem dX0_arriveAt_13 : decode cX0_arriveAt 13 = .ok (.iconst 1, 1) := by decide +kernel
theorem dX0_arriveAt_14 : decode cX0_arriveAt 14 = .ok (.isub, 1) := by decide +kernel
theorem dX0_arriveAt_15 : decode cX0_arriveAt 15 = .ok (.invokevirtual 49, 3) := by decide +kernel
theorem dX0_arriveAt_18 : decode cX0_arriveAt 18 = .ok (.istore_n 2, 1) := by decide +kernel
theorem dX0_arriveAt_19 : decode cX0_arriveAt 19 = .ok (.aload_n 0, 1) := by decide +kernel
theorem dX0_arriveAt_20 : decode cX0_arriveAt 20 = .ok (.getfield 21, 3) := by decide +kernel
theorem dX0_arriveAt_23 : decode cX0_arriveAt 23 = .ok (.iload_n 2, 1) := by decide +kernel
theorem dX0_arriveAt_24 : decode cX0_arriveAt 24 = .ok (.iload_n 1, 1) := by decide +kernel
theorem dX0_arriveAt_25 : decode cX0_arriveAt 25 = .ok (.iastore, 1) := by decide +kernel
theorem dX0_arriveAt_26 : decode cX0_arriveAt 26 = .ok (.aload_n 0, 1) := by decide +kernel
theorem dX0_arriveAt_27 : decode cX0_arriveAt 27 = .ok (.getfield 24, 3) := by decide +kernel
theorem dX0_arriveAt_30 : decode cX0_arriveAt 30 = .ok (.iload_n 2, 1) := by decide +kernel
theorem dX0_arriveAt_31 : decode cX0_arriveAt 31 = .ok (.aload_n 0, 1) := by decide +kernel
theorem dX0_arriveAt_32 : decode cX0_arriveAt 32 = .ok (.getfield 29, 3) := by decide +kernel
theorem dX0_arriveAt_35 : decode cX0_arriveAt 35 = .ok (.aload_n 0, 1) := by decide +kernel
theorem dX0_arriveAt_36 : decode cX0_arriveAt 36 = .ok (.getfield 33, 3) := by decide +kernel
theorem dX0_arriveAt_39 : decode cX0_arriveAt 39 = .ok (.iconst 1, 1) := by decide +kernel
theorem dX0_arriveAt_40 : decode cX0_arriveAt 40 = .ok (.isub, 1) := by decide +kernel
theorem dX0_arriveAt_41 : decode cX0_arriveAt 41 = .ok (.aaload, 1) := by decide +kernel
theorem dX0_arriveAt_42 : decode cX0_arriveAt 42 = .ok (.iload_n 1, 1) := by decide +kernel
theorem dX0_arriveAt_43 : decode cX0_arriveAt 43 = .ok (.invokevirtual 59, 3) := by decide +kernel
theorem dX0_arriveAt_46 : decode cX0_arriveAt 46 = .ok (.iastore, 1) := by decide +kernel
theorem dX0_arriveAt_47 : decode cX0_arriveAt 47 = .ok (.return_, 1) := by decide +kernel
theorem dX0_spotOf_0 : decode cX0_spotOf 0 = .ok (.iload_n 1, 1) := by decide +kernel
theorem dX0_spotOf_1 : decode cX0_spotOf 1 = .ok (.iconst 4, 1) := by decide +kernel
theorem dX0_spotOf_2 : decode cX0_spotOf 2 = .ok (.imul, 1) := by decide +kernel
theorem dX0_spotOf_3 : decode cX0_spotOf 3 = .ok (.aload_n 0, 1) := by decide +kernel
theorem dX0_spotOf_4 : decode cX0_spotOf 4 = .ok (.getfield 18, 3) := by decide +kernel
theorem dX0_spotOf_7 : decode cX0_spotOf 7 = .ok (.iload_n 1, 1) := by decide +kernel
theorem dX0_spotOf_8 : decode cX0_spotOf 8 = .ok (.iaload, 1) := by decide +kernel
theorem dX0_spotOf_9 : decode cX0_spotOf 9 = .ok (.iadd, 1) := by decide +kernel
theorem dX0_spotOf_10 : decode cX0_spotOf 10 = .ok (.ireturn, 1) := by decide +kernel
theorem dX1_init_0 : decode cX1_init 0 = .ok (.aload_n 0, 1) := by decide +kernel
theorem dX1_init_1 : decode cX1_init 1 = .ok (.invokespecial 1, 3) := by decide +kernel
theorem dX1_init_4 : decode cX1_init 4 = .ok (.aload_n 0, 1) := by decide +kernel
theorem dX1_init_5 : decode cX1_init 5 = .ok (.aload_n 1, 1) := by decide +kernel
theorem dX1_init_6 : decode cX1_init 6 = .ok (.getfield 7, 3) := by decide +kernel
theorem dX1_init_9 : decode cX1_init 9 = .ok (.putfield 13, 3) := by decide +kernel
theorem dX1_init_12 : decode cX1_init 12 = .ok (.aload_n 0, 1) := by decide +kernel
theorem dX1_init_13 : decode cX1_init 13 = .ok (.aload_n 1, 1) := by decide +kernel
theorem dX1_init_14 : decode cX1_init 14 = .ok (.getfield 16, 3) := by decide +kernel
theorem dX1_init_17 : decode cX1_init 17 = .ok (.putfield 19, 3) := by decide +kernel
theorem dX1_init_20 : decode cX1_init 20 = .ok (.aload_n 0, 1) := by decide +kernel
theorem dX1_init_21 : decode cX1_init 21 = .ok (.aload_n 1, 1) := by decide +kernel
theorem dX1_init_22 : decode cX1_init 22 = .ok (.getfield 20, 3) := by decide +kernel
theorem dX1_init_25 : decode cX1_init 25 = .ok (.putfield 23, 3) := by decide +kernel
theorem dX1_init_28 : decode cX1_init 28 = .ok (.aload_n 0, 1) := by decide +kernel
theorem dX1_init_29 : decode cX1_init 29 = .ok (.aload_n 1, 1) := by decide +kernel
theorem dX1_init_30 : decode cX1_init 30 = .ok (.getfield 24, 3) := by decide +kernel
theorem dX1_init_33 : decode cX1_init 33 = .ok (.putfield 27, 3) := by decide +kernel
theorem dX1_init_36 : decode cX1_init 36 = .ok (.aload_n 0, 1) := by decide +kernel
theorem dX1_init_37 : decode cX1_init 37 = .ok (.aload_n 0, 1) := by decide +kernel
theorem dX1_init_38 : decode cX1_init 38 = .ok (.getfield 13, 3) := by decide +kernel
theorem dX1_init_41 : decode cX1_init 41 = .ok (.newarray .char, 2) := by decide +kernel
theorem dX1_init_43 : decode cX1_init 43 = .ok (.putfield 28, 3) := by decide +kernel
theorem dX1_init_46 : decode cX1_init 46 = .ok (.aload_n 0, 1) := by decide +kernel
theorem dX1_init_47 : decode cX1_init 47 = .ok (.aload_n 0, 1) := by decide +kernel
theorem dX1_init_48 : decode cX1_init 48 = .ok (.getfield 13, 3) := by decide +kernel
theorem dX1_init_51 : decode cX1_init 51 = .ok (.newarray .int, 2) := by decide +kernel
theorem dX1_init_53 : decode cX1_init 53 = .ok (.putfield 32, 3) := by decide +kernel
theorem dX1_init_56 : decode cX1_init 56 = .ok (.aload_n 0, 1) := by decide +kernel
theorem dX1_init_57 : decode cX1_init 57 = .ok (.aload_n 0, 1) := by decide +kernel
theorem dX1_init_58 : decode cX1_init 58 = .ok (.getfield 13, 3) := by decide +kernel
theorem dX1_init_61 : decode cX1_init 61 = .ok (.newarray .int, 2) := by decide +kernel
theorem dX1_init_63 : decode cX1_init 63 = .ok (.putfield 36, 3) := by decide +kernel
theorem dX1_init_66 : decode cX1_init 66 = .ok (.aload_n 0, 1) := by decide +kernel
theorem dX1_init_67 : decode cX1_init 67 = .ok (.aload_n 0, 1) := by decide +kernel
theorem dX1_init_68 : decode cX1_init 68 = .ok (.getfield 13, 3) := by decide +kernel
theorem dX1_init_71 : decode cX1_init 71 = .ok (.newarray .int, 2) := by decide +kernel
theorem dX1_init_73 : decode cX1_init 73 = .ok (.putfield 39, 3) := by decide +kernel
theorem dX1_init_76 : decode cX1_init 76 = .ok (.aload_n 0, 1) := by decide +kernel
theorem dX1_init_77 : decode cX1_init 77 = .ok (.aload_n 0, 1) := by decide +kernel
theorem dX1_init_78 : decode cX1_init 78 = .ok (.getfield 13, 3) := by decide +kernel
theorem dX1_init_81 : decode cX1_init 81 = .ok (.newarray .int, 2) := by decide +kernel
theorem dX1_init_83 : decode cX1_init 83 = .ok (.putfield 42, 3) := by decide +kernel
theorem dX1_init_86 : decode cX1_init 86 = .ok (.aload_n 1, 1) := by decide +kernel
theorem dX1_init_87 : decode cX1_init 87 = .ok (.getfield 45, 3) := by decide +kernel
theorem dX1_init_90 : decode cX1_init 90 = .ok (.iconst 0, 1) := by decide +kernel
theorem dX1_init_91 : decode cX1_init 91 = .ok (.aload_n 0, 1) := by decide +kernel
theorem dX1_init_92 : decode cX1_init 92 = .ok (.getfield 28, 3) := by decide +kernel
theorem dX1_init_95 : decode cX1_init 95 = .ok (.iconst 0, 1) := by decide +kernel
theorem dX1_init_96 : decode cX1_init 96 = .ok (.aload_n 0, 1) := by decide +kernel
theorem dX1_init_97 : decode cX1_init 97 = .ok (.getfield 13, 3) := by decide +kernel
theorem dX1_init_100 : decode cX1_init 100 = .ok (.invokestatic 46, 3) := by decide +kernel
theorem dX1_init_103 : decode cX1_init 103 = .ok (.aload_n 1, 1) := by decide +kernel
theorem dX1_init_104 : decode cX1_init 104 = .ok (.getfield 52, 3) := by decide +kernel
theorem dX1_init_107 : decode cX1_init 107 = .ok (.iconst 0, 1) := by decide +kernel
theorem dX1_init_108 : decode cX1_init 108 = .ok (.aload_n 0, 1) := by decide +kernel
theorem dX1_init_109 : decode cX1_init 109 = .ok (.getfield 32, 3) := by decide +kernel
theorem dX1_init_112 : decode cX1_init 112 = .ok (.iconst 0, 1) := by decide +kernel
theorem dX1_init_113 : decode cX1_init 113 = .ok (.aload_n 0, 1) := by decide +kernel
theorem dX1_init_114 : decode cX1_init 114 = .ok (.getfield 13, 3) := by decide +kernel
theorem dX1_init_117 : decode cX1_init 117 = .ok (.invokestatic 46, 3) := by decide +kernel
theorem dX1_init_120 : decode cX1_init 120 = .ok (.aload_n 1, 1) := by decide +kernel
theorem dX1_init_121 : decode cX1_init 121 = .ok (.getfield 53, 3) := by decide +kernel
theorem dX1_init_124 : decode cX1_init 124 = .ok (.iconst 0, 1) := by decide +kernel
theorem dX1_init_125 : decode cX1_init 125 = .ok (.aload_n 0, 1) := by decide +kernel
theorem dX1_init_126 : decode cX1_init 126 = .ok (.getfield 36, 3) := by decide +kernel
theorem dX1_init_129 : decode cX1_init 129 = .ok (.iconst 0, 1) := by decide +kernel
theorem dX1_init_130 : decode cX1_init 130 = .ok (.aload_n 0, 1) := by decide +kernel
theorem dX1_init_131 : decode cX1_init 131 = .ok (.getfield 13, 3) := by decide +kernel
theorem dX1_init_134 : decode cX1_init 134 = .ok (.invokestatic 46, 3) := by decide +kernel
theorem dX1_init_137 : decode cX1_init 137 = .ok (.aload_n 1, 1) := by decide +kernel
theorem dX1_init_138 : decode cX1_init 138 = .ok (.getfield 54, 3) := by decide +kernel
theorem dX1_init_141 : decode cX1_init 141 = .ok (.iconst 0, 1) := by decide +kernel
theorem dX1_init_142 : decode cX1_init 142 = .ok (.aload_n 0, 1) := by decide +kernel
theorem dX1_init_143 : decode cX1_init 143 = .ok (.getfield 39, 3) := by decide +kernel
theorem dX1_init_146 : decode cX1_init 146 = .ok (.iconst 0, 1) := by decide +kernel
theorem dX1_init_147 : decode cX1_init 147 = .ok (.aload_n 0, 1) := by decide +kernel
theorem dX1_init_148 : decode cX1_init 148 = .ok (.getfield 13, 3) := by decide +kernel
theorem dX1_init_151 : decode cX1_init 151 = .ok (.invokestatic 46, 3) := by decide +kernel
theorem dX1_init_154 : decode cX1_init 154 = .ok (.aload_n 1, 1) := by decide +kernel
theorem dX1_init_155 : decode cX1_init 155 = .ok (.getfield 55, 3) := by decide +kernel
theorem dX1_init_158 : decode cX1_init 158 = .ok (.iconst 0, 1) := by decide +kernel
theorem dX1_init_159 : decode cX1_init 159 = .ok (.aload_n 0, 1) := by decide +kernel
theorem dX1_init_160 : decode cX1_init 160 = .ok (.getfield 42, 3) := by decide +kernel
theorem dX1_init_163 : decode cX1_init 163 = .ok (.iconst 0, 1) := by decide +kernel
theorem dX1_init_164 : decode cX1_init 164 = .ok (.aload_n 0, 1) := by decide +kernel
theorem dX1_init_165 : decode cX1_init 165 = .ok (.getfield 13, 3) := by decide +kernel
theorem dX1_init_168 : decode cX1_init 168 = .ok (.invokestatic 46, 3) := by decide +kernel
theorem dX1_init_171 : decode cX1_init 171 = .ok (.return_, 1) := by decide +kernel
theorem dX1_signAt_0 : decode cX1_signAt 0 = .ok (.iload_n 1, 1) := by decide +kernel
theorem dX1_signAt_1 : decode cX1_signAt 1 = .ok (.ifCond .lt 20, 3) := by decide +kernel
theorem dX1_signAt_4 : decode cX1_signAt 4 = .ok (.iload_n 1, 1) := by decide +kernel
theorem dX1_signAt_5 : decode cX1_signAt 5 = .ok (.aload_n 0, 1) := by decide +kernel
theorem dX1_signAt_6 : decode cX1_signAt 6 = .ok (.getfield 13, 3) := by decide +kernel
theorem dX1_signAt_9 : decode cX1_signAt 9 = .ok (.if_icmp .ge 12, 3) := by decide +kernel
theorem dX1_signAt_12 : decode cX1_signAt 12 = .ok (.aload_n 0, 1) := by decide +kernel
theorem dX1_signAt_13 : decode cX1_signAt 13 = .ok (.getfield 28, 3) := by decide +kernel
theorem dX1_signAt_16 : decode cX1_signAt 16 = .ok (.iload_n 1, 1) := by decide +kernel
theorem dX1_signAt_17 : decode cX1_signAt 17 = .ok (.caload, 1) := by decide +kernel
theorem dX1_signAt_18 : decode cX1_signAt 18 = .ok (.goto 4, 3) := by decide +kernel
theorem dX1_signAt_21 : decode cX1_signAt 21 = .ok (.iconst 0, 1) := by decide +kernel
theorem dX1_signAt_22 : decode cX1_signAt 22 = .ok (.ireturn, 1) := by decide +kernel
theorem dX1_timesAt_0 : decode cX1_timesAt 0 = .ok (.iload_n 1, 1) := by decide +kernel
theorem dX1_timesAt_1 : decode cX1_timesAt 1 = .ok (.ifCond .lt 20, 3) := by decide +kernel
theorem dX1_timesAt_4 : decode cX1_timesAt 4 = .ok (.iload_n 1, 1) := by decide +kernel
theorem dX1_timesAt_5 : decode cX1_timesAt 5 = .ok (.aload_n 0, 1) := by decide +kernel
theorem dX1_timesAt_6 : decode cX1_timesAt 6 = .ok (.getfield 13, 3) := by decide +kernel
theorem dX1_timesAt_9 : decode cX1_timesAt 9 = .ok (.if_icmp .ge 12, 3) := by decide +kernel
theorem dX1_timesAt_12 : decode cX1_timesAt 12 = .ok (.aload_n 0, 1) := by decide +kernel
theorem dX1_timesAt_13 : decode cX1_timesAt 13 = .ok (.getfield 32, 3) := by decide +kernel
theorem dX1_timesAt_16 : decode cX1_timesAt 16 = .ok (.iload_n 1, 1) := by decide +kernel
theorem dX1_timesAt_17 : decode cX1_timesAt 17 = .ok (.iaload, 1) := by decide +kernel
theorem dX1_timesAt_18 : decode cX1_timesAt 18 = .ok (.goto 4, 3) := by decide +kernel
theorem dX1_timesAt_21 : decode cX1_timesAt 21 = .ok (.iconst 0, 1) := by decide +kernel
theorem dX1_timesAt_22 : decode cX1_timesAt 22 = .ok (.ireturn, 1) := by decide +kernel
theorem dX1_digitAt_0 : decode cX1_digitAt 0 = .ok (.iload_n 1, 1) := by decide +kernel
theorem dX1_digitAt_1 : decode cX1_digitAt 1 = .ok (.ifCond .lt 20, 3) := by decide +kernel
theorem dX1_digitAt_4 : decode cX1_digitAt 4 = .ok (.iload_n 1, 1) := by decide +kernel
theorem dX1_digitAt_5 : decode cX1_digitAt 5 = .ok (.aload_n 0, 1) := by decide +kernel
theorem dX1_digitAt_6 : decode cX1_digitAt 6 = .ok (.getfield 13, 3) := by decide +kernel
theorem dX1_digitAt_9 : decode cX1_digitAt 9 = .ok (.if_icmp .ge 12, 3) := by decide +kernel
theorem dX1_digitAt_12 : decode cX1_digitAt 12 = .ok (.aload_n 0, 1) := by decide +kernel
theorem dX1_digitAt_13 : decode cX1_digitAt 13 = .ok (.getfield 36, 3) := by decide +kernel
theorem dX1_digitAt_16 : decode cX1_digitAt 16 = .ok (.iload_n 1, 1) := by decide +kernel
theorem dX1_digitAt_17 : decode cX1_digitAt 17 = .ok (.iaload, 1) := by decide +kernel
theorem dX1_digitAt_18 : decode cX1_digitAt 18 = .ok (.goto 4, 3) := by decide +kernel
theorem dX1_digitAt_21 : decode cX1_digitAt 21 = .ok (.iconst 0, 1) := by decide +kernel
theorem dX1_digitAt_22 : decode cX1_digitAt 22 = .ok (.ireturn, 1) := by decide +kernel
theorem dX1_insideOf_0 : decode cX1_insideOf 0 = .ok (.iload_n 1, 1) := by decide +kernel
theorem dX1_insideOf_1 : decode cX1_insideOf 1 = .ok (.ifCond .lt 20, 3) := by decide +kernel
theorem dX1_insideOf_4 : decode cX1_insideOf 4 = .ok (.iload_n 1, 1) := by decide +kernel
theorem dX1_insideOf_5 : decode cX1_insideOf 5 = .ok (.aload_n 0, 1) := by decide +kernel
theorem dX1_insideOf_6 : decode cX1_insideOf 6 = .ok (.getfield 13, 3) := by decide +kernel
theorem dX1_insideOf_9 : decode cX1_insideOf 9 = .ok (.if_icmp .ge 12, 3) := by decide +kernel
theorem dX1_insideOf_12 : decode cX1_insideOf 12 = .ok (.aload_n 0, 1) := by decide +kernel
theorem dX1_insideOf_13 : decode cX1_insideOf 13 = .ok (.getfield 39, 3) := by decide +kernel
theorem dX1_insideOf_16 : decode cX1_insideOf 16 = .ok (.iload_n 1, 1) := by decide +kernel
theorem dX1_insideOf_17 : decode cX1_insideOf 17 = .ok (.iaload, 1) := by decide +kernel
theorem dX1_insideOf_18 : decode cX1_insideOf 18 = .ok (.goto 7, 3) := by decide +kernel
theorem dX1_insideOf_21 : decode cX1_insideOf 21 = .ok (.aload_n 0, 1) := by decide +kernel
theorem dX1_insideOf_22 : decode cX1_insideOf 22 = .ok (.getfield 13, 3) := by decide +kernel
theorem dX1_insideOf_25 : decode cX1_insideOf 25 = .ok (.ireturn, 1) := by decide +kernel
theorem dX1_behind_0 : decode cX1_behind 0 = .ok (.iload_n 1, 1) := by decide +kernel
theorem dX1_behind_1 : decode cX1_behind 1 = .ok (.ifCond .lt 20, 3) := by decide +kernel
theorem dX1_behind_4 : decode cX1_behind 4 = .ok (.iload_n 1, 1) := by decide +kernel
theorem dX1_behind_5 : decode cX1_behind 5 = .ok (.aload_n 0, 1) := by decide +kernel
theorem dX1_behind_6 : decode cX1_behind 6 = .ok (.getfield 13, 3) := by decide +kernel
theorem dX1_behind_9 : decode cX1_behind 9 = .ok (.if_icmp .ge 12, 3) := by decide +kernel
theorem dX1_behind_12 : decode cX1_behind 12 = .ok (.aload_n 0, 1) := by decide +kernel
theorem dX1_behind_13 : decode cX1_behind 13 = .ok (.getfield 42, 3) := by decide +kernel
theorem dX1_behind_16 : decode cX1_behind 16 = .ok (.iload_n 1, 1) := by decide +kernel
theorem dX1_behind_17 : decode cX1_behind 17 = .ok (.iaload, 1) := by decide +kernel
theorem dX1_behind_18 : decode cX1_behind 18 = .ok (.goto 7, 3) := by decide +kernel
theorem dX1_behind_21 : decode cX1_behind 21 = .ok (.aload_n 0, 1) := by decide +kernel
theorem dX1_behind_22 : decode cX1_behind 22 = .ok (.getfield 13, 3) := by decide +kernel
theorem dX1_behind_25 : decode cX1_behind 25 = .ok (.ireturn, 1) := by decide +kernel
theorem dX2_init_0 : decode cX2_init 0 = .ok (.aload_n 0, 1) := by decide +kernel
theorem dX2_init_1 : decode cX2_init 1 = .ok (.invokespecial 3, 3) := by decide +kernel
theorem dX2_init_4 : decode cX2_init 4 = .ok (.aload_n 0, 1) := by decide +kernel
theorem dX2_init_5 : decode cX2_init 5 = .ok (.bipush 10, 2) := by decide +kernel
theorem dX2_init_7 : decode cX2_init 7 = .ok (.newarray .int, 2) := by decide +kernel
theorem dX2_init_9 : decode cX2_init 9 = .ok (.putfield 9, 3) := by decide +kernel
theorem dX2_init_12 : decode cX2_init 12 = .ok (.aload_n 0, 1) := by decide +kernel
theorem dX2_init_13 : decode cX2_init 13 = .ok (.bipush 60, 2) := by decide +kernel
theorem dX2_init_15 : decode cX2_init 15 = .ok (.newarray .int, 2) := by decide +kernel
theorem dX2_init_17 : decode cX2_init 17 = .ok (.putfield 15, 3) := by decide +kernel
theorem dX2_init_20 : decode cX2_init 20 = .ok (.return_, 1) := by decide +kernel
theorem dX2_written_0 : decode cX2_written 0 = .ok (.iconst 0, 1) := by decide +kernel
theorem dX2_written_1 : decode cX2_written 1 = .ok (.istore_n 1, 1) := by decide +kernel
theorem dX2_written_2 : decode cX2_written 2 = .ok (.iconst 0, 1) := by decide +kernel
theorem dX2_written_3 : decode cX2_written 3 = .ok (.istore_n 2, 1) := by decide +kernel
theorem dX2_written_4 : decode cX2_written 4 = .ok (.iload_n 2, 1) := by decide +kernel
theorem dX2_written_5 : decode cX2_written 5 = .ok (.bipush 10, 2) := by decide +kernel
theorem dX2_written_7 : decode cX2_written 7 = .ok (.if_icmp .ge 21, 3) := by decide +kernel
theorem dX2_written_10 : decode cX2_written 10 = .ok (.aload_n 0, 1) := by decide +kernel
theorem dX2_written_11 : decode cX2_written 11 = .ok (.iload_n 2, 1) := by decide +kernel
theorem dX2_written_12 : decode cX2_written 12 = .ok (.aaload, 1) := by decide +kernel
theorem dX2_written_13 : decode cX2_written 13 = .ok (.ifnull 9, 3) := by decide +kernel
theorem dX2_written_16 : decode cX2_written 16 = .ok (.iload_n 1, 1) := by decide +kernel
theorem dX2_written_17 : decode cX2_written 17 = .ok (.iconst 1, 1) := by decide +kernel
theorem dX2_written_18 : decode cX2_written 18 = .ok (.iload_n 2, 1) := by decide +kernel
theorem dX2_written_19 : decode cX2_written 19 = .ok (.ishl, 1) := by decide +kernel
theorem dX2_written_20 : decode cX2_written 20 = .ok (.ior, 1) := by decide +kernel
theorem dX2_written_21 : decode cX2_written 21 = .ok (.istore_n 1, 1) := by decide +kernel
theorem dX2_written_22 : decode cX2_written 22 = .ok (.iinc 2 1, 3) := by decide +kernel
theorem dX2_written_25 : decode cX2_written 25 = .ok (.goto (-21), 3) := by decide +kernel
theorem dX2_written_28 : decode cX2_written 28 = .ok (.iload_n 1, 1) := by decide +kernel
theorem dX2_written_29 : decode cX2_written 29 = .ok (.ireturn, 1) := by decide +kernel
theorem dX2_callersOf_0 : decode cX2_callersOf 0 = .ok (.iconst 0, 1) := by decide +kernel
theorem dX2_callersOf_1 : decode cX2_callersOf 1 = .ok (.istore_n 2, 1) := by decide +kernel
theorem dX2_callersOf_2 : decode cX2_callersOf 2 = .ok (.iconst 0, 1) := by decide +kernel
theorem dX2_callersOf_3 : decode cX2_callersOf 3 = .ok (.istore_n 3, 1) := by decide +kernel
theorem dX2_callersOf_4 : decode cX2_callersOf 4 = .ok (.iload_n 3, 1) := by decide +kernel
theorem dX2_callersOf_5 : decode cX2_callersOf 5 = .ok (.bipush 10, 2) := by decide +kernel
theorem dX2_callersOf_7 : decode cX2_callersOf 7 = .ok (.if_icmp .ge 27, 3) := by decide +kernel
theorem dX2_callersOf_10 : decode cX2_callersOf 10 = .ok (.aload_n 0, 1) := by decide +kernel
theorem dX2_callersOf_11 : decode cX2_callersOf 11 = .ok (.iload_n 3, 1) := by decide +kernel
theorem dX2_callersOf_12 : decode cX2_callersOf 12 = .ok (.invokestatic 18, 3) := by decide +kernel
theorem dX2_callersOf_15 : decode cX2_callersOf 15 = .ok (.iload_n 1, 1) := by decide +kernel
theorem dX2_callersOf_16 : decode cX2_callersOf 16 = .ok (.invokestatic 22, 3) := by decide +kernel
theorem dX2_callersOf_19 : decode cX2_callersOf 19 = .ok (.ifCond .eq 9, 3) := by decide +kernel
theorem dX2_callersOf_22 : decode cX2_callersOf 22 = .ok (.iload_n 2, 1) := by decide +kernel
theorem dX2_callersOf_23 : decode cX2_callersOf 23 = .ok (.iconst 1, 1) := by decide +kernel
theorem dX2_callersOf_24 : decode cX2_callersOf 24 = .ok (.iload_n 3, 1) := by decide +kernel
theorem dX2_callersOf_25 : decode cX2_callersOf 25 = .ok (.ishl, 1) := by decide +kernel
theorem dX2_callersOf_26 : decode cX2_callersOf 26 = .ok (.ior, 1) := by decide +kernel
theorem dX2_callersOf_27 : decode cX2_callersOf 27 = .ok (.istore_n 2, 1) := by decide +kernel
theorem dX2_callersOf_28 : decode cX2_callersOf 28 = .ok (.iinc 3 1, 3) := by decide +kernel
theorem dX2_callersOf_31 : decode cX2_callersOf 31 = .ok (.goto (-27), 3) := by decide +kernel
theorem dX2_callersOf_34 : decode cX2_callersOf 34 = .ok (.iload_n 2, 1) := by decide +kernel
theorem dX2_callersOf_35 : decode cX2_callersOf 35 = .ok (.ireturn, 1) := by decide +kernel
theorem dX2_calledBy_0 : decode cX2_calledBy 0 = .ok (.aload_n 0, 1) := by decide +kernel
theorem dX2_calledBy_1 : decode cX2_calledBy 1 = .ok (.iload_n 1, 1) := by decide +kernel
theorem dX2_calledBy_2 : decode cX2_calledBy 2 = .ok (.aaload, 1) := by decide +kernel
theorem dX2_calledBy_3 : decode cX2_calledBy 3 = .ok (.ifnonnull 7, 3) := by decide +kernel
theorem dX2_calledBy_6 : decode cX2_calledBy 6 = .ok (.iconst 0, 1) := by decide +kernel
theorem dX2_calledBy_7 : decode cX2_calledBy 7 = .ok (.goto 9, 3) := by decide +kernel
theorem dX2_calledBy_10 : decode cX2_calledBy 10 = .ok (.aload_n 0, 1) := by decide +kernel
theorem dX2_calledBy_11 : decode cX2_calledBy 11 = .ok (.iload_n 1, 1) := by decide +kernel
theorem dX2_calledBy_12 : decode cX2_calledBy 12 = .ok (.aaload, 1) := by decide +kernel
theorem dX2_calledBy_13 : decode cX2_calledBy 13 = .ok (.getfield 26, 3) := by decide +kernel
theorem dX2_calledBy_16 : decode cX2_calledBy 16 = .ok (.ireturn, 1) := by decide +kernel
theorem dX2_holds_0 : decode cX2_holds 0 = .ok (.iload_n 0, 1) := by decide +kernel
theorem dX2_holds_1 : decode cX2_holds 1 = .ok (.iload_n 1, 1) := by decide +kernel
theorem dX2_holds_2 : decode cX2_holds 2 = .ok (.ishr, 1) := by decide +kernel
theorem dX2_holds_3 : decode cX2_holds 3 = .ok (.iconst 1, 1) := by decide +kernel
theorem dX2_holds_4 : decode cX2_holds 4 = .ok (.iand, 1) := by decide +kernel
theorem dX2_holds_5 : decode cX2_holds 5 = .ok (.iconst 1, 1) := by decide +kernel
theorem dX2_holds_6 : decode cX2_holds 6 = .ok (.if_icmp .ne 7, 3) := by decide +kernel
theorem dX2_holds_9 : decode cX2_holds 9 = .ok (.iconst 1, 1) := by decide +kernel
theorem dX2_holds_10 : decode cX2_holds 10 = .ok (.goto 4, 3) := by decide +kernel
theorem dX2_holds_13 : decode cX2_holds 13 = .ok (.iconst 0, 1) := by decide +kernel
theorem dX2_holds_14 : decode cX2_holds 14 = .ok (.ireturn, 1) := by decide +kernel
theorem dX3_init_0 : decode cX3_init 0 = .ok (.aload_n 0, 1) := by decide +kernel
theorem dX3_init_1 : decode cX3_init 1 = .ok (.invokespecial 1, 3) := by decide +kernel
theorem dX3_init_4 : decode cX3_init 4 = .ok (.aload_n 0, 1) := by decide +kernel
theorem dX3_init_5 : decode cX3_init 5 = .ok (.bipush 6, 2) := by decide +kernel
theorem dX3_init_7 : decode cX3_init 7 = .ok (.anewarray 9, 3) := by decide +kernel
theorem dX3_init_10 : decode cX3_init 10 = .ok (.putfield 11, 3) := by decide +kernel
theorem dX3_init_13 : decode cX3_init 13 = .ok (.aload_n 0, 1) := by decide +kernel
theorem dX3_init_14 : decode cX3_init 14 = .ok (.iconst 0, 1) := by decide +kernel
theorem dX3_init_15 : decode cX3_init 15 = .ok (.putfield 15, 3) := by decide +kernel
theorem dX3_init_18 : decode cX3_init 18 = .ok (.iconst 0, 1) := by decide +kernel
theorem dX3_init_19 : decode cX3_init 19 = .ok (.istore_n 1, 1) := by decide +kernel
theorem dX3_init_20 : decode cX3_init 20 = .ok (.iload_n 1, 1) := by decide +kernel
theorem dX3_init_21 : decode cX3_init 21 = .ok (.bipush 6, 2) := by decide +kernel
theorem dX3_init_23 : decode cX3_init 23 = .ok (.if_icmp .ge 22, 3) := by decide +kernel
theorem dX3_init_26 : decode cX3_init 26 = .ok (.aload_n 0, 1) := by decide +kernel
theorem dX3_init_27 : decode cX3_init 27 = .ok (.getfield 11, 3) := by decide +kernel
theorem dX3_init_30 : decode cX3_init 30 = .ok (.iload_n 1, 1) := by decide +kernel
theorem dX3_init_31 : decode cX3_init 31 = .ok (.new 9, 3) := by decide +kernel
theorem dX3_init_34 : decode cX3_init 34 = .ok (.dup, 1) := by decide +kernel
theorem dX3_init_35 : decode cX3_init 35 = .ok (.invokespecial 19, 3) := by decide +kernel
theorem dX3_init_38 : decode cX3_init 38 = .ok (.aastore, 1) := by decide +kernel
theorem dX3_init_39 : decode cX3_init 39 = .ok (.iinc 1 1, 3) := by decide +kernel
theorem dX3_init_42 : decode cX3_init 42 = .ok (.goto (-22), 3) := by decide +kernel
theorem dX3_init_45 : decode cX3_init 45 = .ok (.return_, 1) := by decide +kernel
theorem dX3_keep_0 : decode cX3_keep 0 = .ok (.aload_n 0, 1) := by decide +kernel
theorem dX3_keep_1 : decode cX3_keep 1 = .ok (.getfield 15, 3) := by decide +kernel
theorem dX3_keep_4 : decode cX3_keep 4 = .ok (.bipush 6, 2) := by decide +kernel
theorem dX3_keep_6 : decode cX3_keep 6 = .ok (.if_icmp .ne 7, 3) := by decide +kernel
theorem dX3_keep_9 : decode cX3_keep 9 = .ok (.aload_n 0, 1) := by decide +kernel
theorem dX3_keep_10 : decode cX3_keep 10 = .ok (.invokevirtual 20, 3) := by decide +kernel
theorem dX3_keep_13 : decode cX3_keep 13 = .ok (.aload_n 0, 1) := by decide +kernel
theorem dX3_keep_14 : decode cX3_keep 14 = .ok (.getfield 11, 3) := by decide +kernel
theorem dX3_keep_17 : decode cX3_keep 17 = .ok (.aload_n 0, 1) := by decide +kernel
theorem dX3_keep_18 : decode cX3_keep 18 = .ok (.getfield 15, 3) := by decide +kernel
theorem dX3_keep_21 : decode cX3_keep 21 = .ok (.aaload, 1) := by decide +kernel
theorem dX3_keep_22 : decode cX3_keep 22 = .ok (.aload_n 1, 1) := by decide +kernel
theorem dX3_keep_23 : decode cX3_keep 23 = .ok (.invokevirtual 23, 3) := by decide +kernel
theorem dX3_keep_26 : decode cX3_keep 26 = .ok (.aload_n 0, 1) := by decide +kernel
theorem dX3_keep_27 : decode cX3_keep 27 = .ok (.dup, 1) := by decide +kernel
theorem dX3_keep_28 : decode cX3_keep 28 = .ok (.getfield 15, 3) := by decide +kernel
theorem dX3_keep_31 : decode cX3_keep 31 = .ok (.iconst 1, 1) := by decide +kernel
theorem dX3_keep_32 : decode cX3_keep 32 = .ok (.iadd, 1) := by decide +kernel
theorem dX3_keep_33 : decode cX3_keep 33 = .ok (.putfield 15, 3) := by decide +kernel
theorem dX3_keep_36 : decode cX3_keep 36 = .ok (.return_, 1) := by decide +kernel
theorem dX3_dropOldest_0 : decode cX3_dropOldest 0 = .ok (.aload_n 0, 1) := by decide +kernel
theorem dX3_dropOldest_1 : decode cX3_dropOldest 1 = .ok (.getfield 11, 3) := by decide +kernel
theorem dX3_dropOldest_4 : decode cX3_dropOldest 4 = .ok (.iconst 0, 1) := by decide +kernel
theorem dX3_dropOldest_5 : decode cX3_dropOldest 5 = .ok (.aaload, 1) := by decide +kernel
theorem dX3_dropOldest_6 : decode cX3_dropOldest 6 = .ok (.astore_n 1, 1) := by decide +kernel
theorem dX3_dropOldest_7 : decode cX3_dropOldest 7 = .ok (.iconst 1, 1) := by decide +kernel
theorem dX3_dropOldest_8 : decode cX3_dropOldest 8 = .ok (.istore_n 2, 1) := by decide +kernel
theorem dX3_dropOldest_9 : decode cX3_dropOldest 9 = .ok (.iload_n 2, 1) := by decide +kernel
theorem dX3_dropOldest_10 : decode cX3_dropOldest 10 = .ok (.bipush 6, 2) := by decide +kernel
theorem dX3_dropOldest_12 : decode cX3_dropOldest 12 = .ok (.if_icmp .ge 23, 3) := by decide +kernel
theorem dX3_dropOldest_15 : decode cX3_dropOldest 15 = .ok (.aload_n 0, 1) := by decide +kernel
theorem dX3_dropOldest_16 : decode cX3_dropOldest 16 = .ok (.getfield 11, 3) := by decide +kernel
theorem dX3_dropOldest_19 : decode cX3_dropOldest 19 = .ok (.iload_n 2, 1) := by decide +kernel
theorem dX3_dropOldest_20 : decode cX3_dropOldest 20 = .ok (.iconst 1, 1) := by decide +kernel
theorem dX3_dropOldest_21 : decode cX3_dropOldest 21 = .ok (.isub, 1) := by decide +kernel
theorem dX3_dropOldest_22 : decode cX3_dropOldest 22 = .ok (.aload_n 0, 1) := by decide +kernel
theorem dX3_dropOldest_23 : decode cX3_dropOldest 23 = .ok (.getfield 11, 3) := by decide +kernel
theorem dX3_dropOldest_26 : decode cX3_dropOldest 26 = .ok (.iload_n 2, 1) := by decide +kernel
theorem dX3_dropOldest_27 : decode cX3_dropOldest 27 = .ok (.aaload, 1) := by decide +kernel
theorem dX3_dropOldest_28 : decode cX3_dropOldest 28 = .ok (.aastore, 1) := by decide +kernel
theorem dX3_dropOldest_29 : decode cX3_dropOldest 29 = .ok (.iinc 2 1, 3) := by decide +kernel
theorem dX3_dropOldest_32 : decode cX3_dropOldest 32 = .ok (.goto (-23), 3) := by decide +kernel
theorem dX3_dropOldest_35 : decode cX3_dropOldest 35 = .ok (.aload_n 0, 1) := by decide +kernel
theorem dX3_dropOldest_36 : decode cX3_dropOldest 36 = .ok (.getfield 11, 3) := by decide +kernel
theorem dX3_dropOldest_39 : decode cX3_dropOldest 39 = .ok (.iconst 5, 1) := by decide +kernel
theorem dX3_dropOldest_40 : decode cX3_dropOldest 40 = .ok (.aload_n 1, 1) := by decide +kernel
theorem dX3_dropOldest_41 : decode cX3_dropOldest 41 = .ok (.aastore, 1) := by decide +kernel
theorem dX3_dropOldest_42 : decode cX3_dropOldest 42 = .ok (.aload_n 0, 1) := by decide +kernel
theorem dX3_dropOldest_43 : decode cX3_dropOldest 43 = .ok (.iconst 5, 1) := by decide +kernel
theorem dX3_dropOldest_44 : decode cX3_dropOldest 44 = .ok (.putfield 15, 3) := by decide +kernel
theorem dX3_dropOldest_47 : decode cX3_dropOldest 47 = .ok (.return_, 1) := by decide +kernel
theorem dX3_takeBack_0 : decode cX3_takeBack 0 = .ok (.aload_n 0, 1) := by decide +kernel
theorem dX3_takeBack_1 : decode cX3_takeBack 1 = .ok (.getfield 15, 3) := by decide +kernel
theorem dX3_takeBack_4 : decode cX3_takeBack 4 = .ok (.ifCond .ne 4, 3) := by decide +kernel
theorem dX3_takeBack_7 : decode cX3_takeBack 7 = .ok (.return_, 1) := by decide +kernel
theorem dX3_takeBack_8 : decode cX3_takeBack 8 = .ok (.aload_n 0, 1) := by decide +kernel
theorem dX3_takeBack_9 : decode cX3_takeBack 9 = .ok (.dup, 1) := by decide +kernel
theorem dX3_takeBack_10 : decode cX3_takeBack 10 = .ok (.getfield 15, 3) := by decide +kernel
theorem dX3_takeBack_13 : decode cX3_takeBack 13 = .ok (.iconst 1, 1) := by decide +kernel
theorem dX3_takeBack_14 : decode cX3_takeBack 14 = .ok (.isub, 1) := by decide +kernel
theorem dX3_takeBack_15 : decode cX3_takeBack 15 = .ok (.putfield 15, 3) := by decide +kernel
theorem dX3_takeBack_18 : decode cX3_takeBack 18 = .ok (.aload_n 1, 1) := by decide +kernel
theorem dX3_takeBack_19 : decode cX3_takeBack 19 = .ok (.aload_n 0, 1) := by decide +kernel
theorem dX3_takeBack_20 : decode cX3_takeBack 20 = .ok (.getfield 11, 3) := by decide +kernel
theorem dX3_takeBack_23 : decode cX3_takeBack 23 = .ok (.aload_n 0, 1) := by decide +kernel
theorem dX3_takeBack_24 : decode cX3_takeBack 24 = .ok (.getfield 15, 3) := by decide +kernel
theorem dX3_takeBack_27 : decode cX3_takeBack 27 = .ok (.aaload, 1) := by decide +kernel
theorem dX3_takeBack_28 : decode cX3_takeBack 28 = .ok (.invokevirtual 23, 3) := by decide +kernel
theorem dX3_takeBack_31 : decode cX3_takeBack 31 = .ok (.return_, 1) := by decide +kernel
theorem dX4_init_0 : decode cX4_init 0 = .ok (.aload_n 0, 1) := by decide +kernel
theorem dX4_init_1 : decode cX4_init 1 = .ok (.invokespecial 3, 3) := by decide +kernel
theorem dX4_init_4 : decode cX4_init 4 = .ok (.aload_n 0, 1) := by decide +kernel
theorem dX4_init_5 : decode cX4_init 5 = .ok (.bipush 10, 2) := by decide +kernel
theorem dX4_init_7 : decode cX4_init 7 = .ok (.anewarray 9, 3) := by decide +kernel
theorem dX4_init_10 : decode cX4_init 10 = .ok (.putfield 11, 3) := by decide +kernel
theorem dX4_init_13 : decode cX4_init 13 = .ok (.aload_n 0, 1) := by decide +kernel
theorem dX4_init_14 : decode cX4_init 14 = .ok (.bipush 10, 2) := by decide +kernel
theorem dX4_init_16 : decode cX4_init 16 = .ok (.newarray .int, 2) := by decide +kernel
theorem dX4_init_18 : decode cX4_init 18 = .ok (.putfield 17, 3) := by decide +kernel
theorem dX4_init_21 : decode cX4_init 21 = .ok (.aload_n 0, 1) := by decide +kernel
theorem dX4_init_22 : decode cX4_init 22 = .ok (.iconst 3, 1) := by decide +kernel
theorem dX4_init_23 : decode cX4_init 23 = .ok (.newarray .int, 2) := by decide +kernel
theorem dX4_init_25 : decode cX4_init 25 = .ok (.putfield 21, 3) := by decide +kernel
theorem dX4_init_28 : decode cX4_init 28 = .ok (.aload_n 0, 1) := by decide +kernel
theorem dX4_init_29 : decode cX4_init 29 = .ok (.bipush 6, 2) := by decide +kernel
theorem dX4_init_31 : decode cX4_init 31 = .ok (.newarray .int, 2) := by decide +kernel
theorem dX4_init_33 : decode cX4_init 33 = .ok (.putfield 24, 3) := by decide +kernel
theorem dX4_init_36 : decode cX4_init 36 = .ok (.aload_n 0, 1) := by decide +kernel
theorem dX4_init_37 : decode cX4_init 37 = .ok (.bipush 6, 2) := by decide +kernel
theorem dX4_init_39 : decode cX4_init 39 = .ok (.newarray .int, 2) := by decide +kernel
theorem dX4_init_41 : decode cX4_init 41 = .ok (.putfield 27, 3) := by decide +kernel
theorem dX4_init_44 : decode cX4_init 44 = .ok (.aload_n 0, 1) := by decide +kernel
theorem dX4_init_45 : decode cX4_init 45 = .ok (.bipush 6, 2) := by decide +kernel
theorem dX4_init_47 : decode cX4_init 47 = .ok (.newarray .int, 2) := by decide +kernel
theorem dX4_init_49 : decode cX4_init 49 = .ok (.putfield 30, 3) := by decide +kernel
theorem dX4_init_52 : decode cX4_init 52 = .ok (.aload_n 0, 1) := by decide +kernel
theorem dX4_init_53 : decode cX4_init 53 = .ok (.bipush 6, 2) := by decide +kernel
theorem dX4_init_55 : decode cX4_init 55 = .ok (.newarray .int, 2) := by decide +kernel
theorem dX4_init_57 : decode cX4_init 57 = .ok (.putfield 33, 3) := by decide +kernel
theorem dX4_init_60 : decode cX4_init 60 = .ok (.aload_n 0, 1) := by decide +kernel
theorem dX4_init_61 : decode cX4_init 61 = .ok (.sipush 400, 3) := by decide +kernel
theorem dX4_init_64 : decode cX4_init 64 = .ok (.newarray .byte, 2) := by decide +kernel
theorem dX4_init_66 : decode cX4_init 66 = .ok (.putfield 36, 3) := by decide +kernel
theorem dX4_init_69 : decode cX4_init 69 = .ok (.aload_n 0, 1) := by decide +kernel
theorem dX4_init_70 : decode cX4_init 70 = .ok (.new 40, 3) := by decide +kernel
theorem dX4_init_73 : decode cX4_init 73 = .ok (.dup, 1) := by decide +kernel
theorem dX4_init_74 : decode cX4_init 74 = .ok (.invokespecial 42, 3) := by decide +kernel
theorem dX4_init_77 : decode cX4_init 77 = .ok (.putfield 43, 3) := by decide +kernel
theorem dX4_init_80 : decode cX4_init 80 = .ok (.aload_n 0, 1) := by decide +kernel
theorem dX4_init_81 : decode cX4_init 81 = .ok (.iconst 0, 1) := by decide +kernel
theorem dX4_init_82 : decode cX4_init 82 = .ok (.putfield 47, 3) := by decide +kernel
theorem dX4_init_85 : decode cX4_init 85 = .ok (.aload_n 0, 1) := by decide +kernel
theorem dX4_init_86 : decode cX4_init 86 = .ok (.iconst 0, 1) := by decide +kernel
theorem dX4_init_87 : decode cX4_init 87 = .ok (.putfield 51, 3) := by decide +kernel
theorem dX4_init_90 : decode cX4_init 90 = .ok (.aload_n 0, 1) := by decide +kernel
theorem dX4_init_91 : decode cX4_init 91 = .ok (.iconst 0, 1) := by decide +kernel
theorem dX4_init_92 : decode cX4_init 92 = .ok (.putfield 54, 3) := by decide +kernel
theorem dX4_init_95 : decode cX4_init 95 = .ok (.aload_n 0, 1) := by decide +kernel
theorem dX4_init_96 : decode cX4_init 96 = .ok (.iconst 0, 1) := by decide +kernel
theorem dX4_init_97 : decode cX4_init 97 = .ok (.putfield 57, 3) := by decide +kernel
theorem dX4_init_100 : decode cX4_init 100 = .ok (.aload_n 0, 1) := by decide +kernel
theorem dX4_init_101 : decode cX4_init 101 = .ok (.getfield 21, 3) := by decide +kernel
theorem dX4_init_104 : decode cX4_init 104 = .ok (.iconst 0, 1) := by decide +kernel
theorem dX4_init_105 : decode cX4_init 105 = .ok (.iconst 5, 1) := by decide +kernel
theorem dX4_init_106 : decode cX4_init 106 = .ok (.iastore, 1) := by decide +kernel
theorem dX4_init_107 : decode cX4_init 107 = .ok (.aload_n 0, 1) := by decide +kernel
theorem dX4_init_108 : decode cX4_init 108 = .ok (.getfield 21, 3) := by decide +kernel
theorem dX4_init_111 : decode cX4_init 111 = .ok (.iconst 1, 1) := by decide +kernel
theorem dX4_init_112 : decode cX4_init 112 = .ok (.bipush 20, 2) := by decide +kernel
theorem dX4_init_114 : decode cX4_init 114 = .ok (.iastore, 1) := by decide +kernel
theorem dX4_init_115 : decode cX4_init 115 = .ok (.aload_n 0, 1) := by decide +kernel
theorem dX4_init_116 : decode cX4_init 116 = .ok (.getfield 21, 3) := by decide +kernel
theorem dX4_init_119 : decode cX4_init 119 = .ok (.iconst 2, 1) := by decide +kernel
theorem dX4_init_120 : decode cX4_init 120 = .ok (.bipush 10, 2) := by decide +kernel
theorem dX4_init_122 : decode cX4_init 122 = .ok (.iastore, 1) := by decide +kernel
theorem dX4_init_123 : decode cX4_init 123 = .ok (.iconst 0, 1) := by decide +kernel
theorem dX4_init_124 : decode cX4_init 124 = .ok (.istore_n 1, 1) := by decide +kernel
theorem dX4_init_125 : decode cX4_init 125 = .ok (.iload_n 1, 1) := by decide +kernel
theorem dX4_init_126 : decode cX4_init 126 = .ok (.bipush 6, 2) := by decide +kernel
theorem dX4_init_128 : decode cX4_init 128 = .ok (.if_icmp .ge 17, 3) := by decide +kernel
theorem dX4_init_131 : decode cX4_init 131 = .ok (.aload_n 0, 1) := by decide +kernel
theorem dX4_init_132 : decode cX4_init 132 = .ok (.getfield 24, 3) := by decide +kernel
theorem dX4_init_135 : decode cX4_init 135 = .ok (.iload_n 1, 1) := by decide +kernel
theorem dX4_init_136 : decode cX4_init 136 = .ok (.bipush 50, 2) := by decide +kernel
theorem dX4_init_138 : decode cX4_init 138 = .ok (.iastore, 1) := by decide +kernel
theorem dX4_init_139 : decode cX4_init 139 = .ok (.iinc 1 1, 3) := by decide +kernel
theorem dX4_init_142 : decode cX4_init 142 = .ok (.goto (-17), 3) := by decide +kernel
theorem dX4_init_145 : decode cX4_init 145 = .ok (.return_, 1) := by decide +kernel
theorem dX4_copyFrom_0 : decode cX4_copyFrom 0 = .ok (.aload_n 1, 1) := by decide +kernel
theorem dX4_copyFrom_1 : decode cX4_copyFrom 1 = .ok (.getfield 11, 3) := by decide +kernel
theorem dX4_copyFrom_4 : decode cX4_copyFrom 4 = .ok (.aload_n 0, 1) := by decide +kernel
theorem dX4_copyFrom_5 : decode cX4_copyFrom 5 = .ok (.getfield 11, 3) := by decide +kernel
theorem dX4_copyFrom_8 : decode cX4_copyFrom 8 = .ok (.invokestatic 60, 3) := by decide +kernel
theorem dX4_copyFrom_11 : decode cX4_copyFrom 11 = .ok (.aload_n 1, 1) := by decide +kernel
theorem dX4_copyFrom_12 : decode cX4_copyFrom 12 = .ok (.getfield 17, 3) := by decide +kernel
theorem dX4_copyFrom_15 : decode cX4_copyFrom 15 = .ok (.aload_n 0, 1) := by decide +kernel
theorem dX4_copyFrom_16 : decode cX4_copyFrom 16 = .ok (.getfield 17, 3) := by decide +kernel
theorem dX4_copyFrom_19 : decode cX4_copyFrom 19 = .ok (.invokestatic 64, 3) := by decide +kernel
theorem dX4_copyFrom_22 : decode cX4_copyFrom 22 = .ok (.aload_n 1, 1) := by decide +kernel
theorem dX4_copyFrom_23 : decode cX4_copyFrom 23 = .ok (.getfield 21, 3) := by decide +kernel
theorem dX4_copyFrom_26 : decode cX4_copyFrom 26 = .ok (.aload_n 0, 1) := by decide +kernel
theorem dX4_copyFrom_27 : decode cX4_copyFrom 27 = .ok (.getfield 21, 3) := by decide +kernel
theorem dX4_copyFrom_30 : decode cX4_copyFrom 30 = .ok (.invokestatic 64, 3) := by decide +kernel
theorem dX4_copyFrom_33 : decode cX4_copyFrom 33 = .ok (.aload_n 1, 1) := by decide +kernel
theorem dX4_copyFrom_34 : decode cX4_copyFrom 34 = .ok (.getfield 24, 3) := by decide +kernel
theorem dX4_copyFrom_37 : decode cX4_copyFrom 37 = .ok (.aload_n 0, 1) := by decide +kernel
theorem dX4_copyFrom_38 : decode cX4_copyFrom 38 = .ok (.getfield 24, 3) := by decide +kernel
theorem dX4_copyFrom_41 : decode cX4_copyFrom 41 = .ok (.invokestatic 64, 3) := by decide +kernel
theorem dX4_copyFrom_44 : decode cX4_copyFrom 44 = .ok (.aload_n 1, 1) := by decide +kernel
theorem dX4_copyFrom_45 : decode cX4_copyFrom 45 = .ok (.getfield 27, 3) := by decide +kernel
theorem dX4_copyFrom_48 : decode cX4_copyFrom 48 = .ok (.aload_n 0, 1) := by decide +kernel
theorem dX4_copyFrom_49 : decode cX4_copyFrom 49 = .ok (.getfield 27, 3) := by decide +kernel
theorem dX4_copyFrom_52 : decode cX4_copyFrom 52 = .ok (.invokestatic 64, 3) := by decide +kernel
theorem dX4_copyFrom_55 : decode cX4_copyFrom 55 = .ok (.aload_n 1, 1) := by decide +kernel
theorem dX4_copyFrom_56 : decode cX4_copyFrom 56 = .ok (.getfield 30, 3) := by decide +kernel
theorem dX4_copyFrom_59 : decode cX4_copyFrom 59 = .ok (.aload_n 0, 1) := by decide +kernel
theorem dX4_copyFrom_60 : decode cX4_copyFrom 60 = .ok (.getfield 30, 3) := by decide +kernel
theorem dX4_copyFrom_63 : decode cX4_copyFrom 63 = .ok (.invokestatic 64, 3) := by decide +kernel
theorem dX4_copyFrom_66 : decode cX4_copyFrom 66 = .ok (.aload_n 1, 1) := by decide +kernel
theorem dX4_copyFrom_67 : decode cX4_copyFrom 67 = .ok (.getfield 33, 3) := by decide +kernel
theorem dX4_copyFrom_70 : decode cX4_copyFrom 70 = .ok (.aload_n 0, 1) := by decide +kernel
theorem dX4_copyFrom_71 : decode cX4_copyFrom 71 = .ok (.getfield 33, 3) := by decide +kernel
theorem dX4_copyFrom_74 : decode cX4_copyFrom 74 = .ok (.invokestatic 64, 3) := by decide +kernel
theorem dX4_copyFrom_77 : decode cX4_copyFrom 77 = .ok (.aload_n 0, 1) := by decide +kernel
theorem dX4_copyFrom_78 : decode cX4_copyFrom 78 = .ok (.aload_n 1, 1) := by decide +kernel
theorem dX4_copyFrom_79 : decode cX4_copyFrom 79 = .ok (.getfield 47, 3) := by decide +kernel
theorem dX4_copyFrom_82 : decode cX4_copyFrom 82 = .ok (.sipush 400, 3) := by decide +kernel
theorem dX4_copyFrom_85 : decode cX4_copyFrom 85 = .ok (.invokestatic 68, 3) := by decide +kernel
theorem dX4_copyFrom_88 : decode cX4_copyFrom 88 = .ok (.putfield 47, 3) := by decide +kernel
theorem dX4_copyFrom_91 : decode cX4_copyFrom 91 = .ok (.aload_n 1, 1) := by decide +kernel
theorem dX4_copyFrom_92 : decode cX4_copyFrom 92 = .ok (.getfield 36, 3) := by decide +kernel
theorem dX4_copyFrom_95 : decode cX4_copyFrom 95 = .ok (.iconst 0, 1) := by decide +kernel
theorem dX4_copyFrom_96 : decode cX4_copyFrom 96 = .ok (.aload_n 0, 1) := by decide +kernel
theorem dX4_copyFrom_97 : decode cX4_copyFrom 97 = .ok (.getfield 36, 3) := by decide +kernel
theorem dX4_copyFrom_100 : decode cX4_copyFrom 100 = .ok (.iconst 0, 1) := by decide +kernel
theorem dX4_copyFrom_101 : decode cX4_copyFrom 101 = .ok (.aload_n 0, 1) := by decide +kernel
theorem dX4_copyFrom_102 : decode cX4_copyFrom 102 = .ok (.getfield 47, 3) := by decide +kernel
theorem dX4_copyFrom_105 : decode cX4_copyFrom 105 = .ok (.invokestatic 74, 3) := by decide +kernel
theorem dX4_copyFrom_108 : decode cX4_copyFrom 108 = .ok (.aload_n 0, 1) := by decide +kernel
theorem dX4_copyFrom_109 : decode cX4_copyFrom 109 = .ok (.getfield 43, 3) := by decide +kernel
theorem dX4_copyFrom_112 : decode cX4_copyFrom 112 = .ok (.aload_n 1, 1) := by decide +kernel
theorem dX4_copyFrom_113 : decode cX4_copyFrom 113 = .ok (.getfield 43, 3) := by decide +kernel
theorem dX4_copyFrom_116 : decode cX4_copyFrom 116 = .ok (.invokevirtual 80, 3) := by decide +kernel
theorem dX4_copyFrom_119 : decode cX4_copyFrom 119 = .ok (.aload_n 0, 1) := by decide +kernel
theorem dX4_copyFrom_120 : decode cX4_copyFrom 120 = .ok (.aload_n 1, 1) := by decide +kernel
theorem dX4_copyFrom_121 : decode cX4_copyFrom 121 = .ok (.getfield 51, 3) := by decide +kernel
theorem dX4_copyFrom_124 : decode cX4_copyFrom 124 = .ok (.putfield 51, 3) := by decide +kernel
theorem dX4_copyFrom_127 : decode cX4_copyFrom 127 = .ok (.aload_n 0, 1) := by decide +kernel
theorem dX4_copyFrom_128 : decode cX4_copyFrom 128 = .ok (.aload_n 1, 1) := by decide +kernel
theorem dX4_copyFrom_129 : decode cX4_copyFrom 129 = .ok (.getfield 54, 3) := by decide +kernel
theorem dX4_copyFrom_132 : decode cX4_copyFrom 132 = .ok (.putfield 54, 3) := by decide +kernel
theorem dX4_copyFrom_135 : decode cX4_copyFrom 135 = .ok (.aload_n 0, 1) := by decide +kernel
theorem dX4_copyFrom_136 : decode cX4_copyFrom 136 = .ok (.aload_n 1, 1) := by decide +kernel
theorem dX4_copyFrom_137 : decode cX4_copyFrom 137 = .ok (.getfield 57, 3) := by decide +kernel
theorem dX4_copyFrom_140 : decode cX4_copyFrom 140 = .ok (.putfield 57, 3) := by decide +kernel
theorem dX4_copyFrom_143 : decode cX4_copyFrom 143 = .ok (.return_, 1) := by decide +kernel
theorem dX4_beginWith_0 : decode cX4_beginWith 0 = .ok (.aload_n 0, 1) := by decide +kernel
theorem dX4_beginWith_1 : decode cX4_beginWith 1 = .ok (.getfield 43, 3) := by decide +kernel
theorem dX4_beginWith_4 : decode cX4_beginWith 4 = .ok (.getfield 84, 3) := by decide +kernel
theorem dX4_beginWith_7 : decode cX4_beginWith 7 = .ok (.istore_n 2, 1) := by decide +kernel
theorem dX4_beginWith_8 : decode cX4_beginWith 8 = .ok (.aload_n 0, 1) := by decide +kernel
theorem dX4_beginWith_9 : decode cX4_beginWith 9 = .ok (.getfield 43, 3) := by decide +kernel
theorem dX4_beginWith_12 : decode cX4_beginWith 12 = .ok (.iconst 0, 1) := by decide +kernel
theorem dX4_beginWith_13 : decode cX4_beginWith 13 = .ok (.putfield 84, 3) := by decide +kernel
theorem dX4_beginWith_16 : decode cX4_beginWith 16 = .ok (.aload_n 0, 1) := by decide +kernel
theorem dX4_beginWith_17 : decode cX4_beginWith 17 = .ok (.iload_n 1, 1) := by decide +kernel
theorem dX4_beginWith_18 : decode cX4_beginWith 18 = .ok (.iconst 0, 1) := by decide +kernel
theorem dX4_beginWith_19 : decode cX4_beginWith 19 = .ok (.invokevirtual 87, 3) := by decide +kernel
theorem dX4_beginWith_22 : decode cX4_beginWith 22 = .ok (.iload_n 2, 1) := by decide +kernel
theorem dX4_beginWith_23 : decode cX4_beginWith 23 = .ok (.ireturn, 1) := by decide +kernel
theorem dX4_layOnStack_0 : decode cX4_layOnStack 0 = .ok (.aload_n 0, 1) := by decide +kernel
theorem dX4_layOnStack_1 : decode cX4_layOnStack 1 = .ok (.getfield 43, 3) := by decide +kernel
theorem dX4_layOnStack_4 : decode cX4_layOnStack 4 = .ok (.iload_n 1, 1) := by decide +kernel
theorem dX4_layOnStack_5 : decode cX4_layOnStack 5 = .ok (.aload_n 0, 1) := by decide +kernel
theorem dX4_layOnStack_6 : decode cX4_layOnStack 6 = .ok (.getfield 11, 3) := by decide +kernel
theorem dX4_layOnStack_9 : decode cX4_layOnStack 9 = .ok (.iload_n 1, 1) := by decide +kernel
theorem dX4_layOnStack_10 : decode cX4_layOnStack 10 = .ok (.aaload, 1) := by decide +kernel
theorem dX4_layOnStack_11 : decode cX4_layOnStack 11 = .ok (.iload_n 2, 1) := by decide +kernel
theorem dX4_layOnStack_12 : decode cX4_layOnStack 12 = .ok (.invokevirtual 91, 3) := by decide +kernel
theorem dX4_layOnStack_15 : decode cX4_layOnStack 15 = .ok (.aload_n 0, 1) := by decide +kernel
theorem dX4_layOnStack_16 : decode cX4_layOnStack 16 = .ok (.getfield 17, 3) := by decide +kernel
theorem dX4_layOnStack_19 : decode cX4_layOnStack 19 = .ok (.iload_n 1, 1) := by decide +kernel
theorem dX4_layOnStack_20 : decode cX4_layOnStack 20 = .ok (.dup2, 1) := by decide +kernel
theorem dX4_layOnStack_21 : decode cX4_layOnStack 21 = .ok (.iaload, 1) := by decide +kernel
theorem dX4_layOnStack_22 : decode cX4_layOnStack 22 = .ok (.iconst 1, 1) := by decide +kernel
theorem dX4_layOnStack_23 : decode cX4_layOnStack 23 = .ok (.iadd, 1) := by decide +kernel
theorem dX4_layOnStack_24 : decode cX4_layOnStack 24 = .ok (.iastore, 1) := by decide +kernel
theorem dX4_layOnStack_25 : decode cX4_layOnStack 25 = .ok (.aload_n 0, 1) := by decide +kernel
theorem dX4_layOnStack_26 : decode cX4_layOnStack 26 = .ok (.aload_n 0, 1) := by decide +kernel
theorem dX4_layOnStack_27 : decode cX4_layOnStack 27 = .ok (.getfield 51, 3) := by decide +kernel
theorem dX4_layOnStack_30 : decode cX4_layOnStack 30 = .ok (.aload_n 0, 1) := by decide +kernel
theorem dX4_layOnStack_31 : decode cX4_layOnStack 31 = .ok (.getfield 43, 3) := by decide +kernel
theorem dX4_layOnStack_34 : decode cX4_layOnStack 34 = .ok (.getfield 84, 3) := by decide +kernel
theorem dX4_layOnStack_37 : decode cX4_layOnStack 37 = .ok (.invokestatic 95, 3) := by decide +kernel
theorem dX4_layOnStack_40 : decode cX4_layOnStack 40 = .ok (.putfield 51, 3) := by decide +kernel
theorem dX4_layOnStack_43 : decode cX4_layOnStack 43 = .ok (.return_, 1) := by decide +kernel
theorem dX4_tieThread_0 : decode cX4_tieThread 0 = .ok (.aload_n 0, 1) := by decide +kernel
theorem dX4_tieThread_1 : decode cX4_tieThread 1 = .ok (.getfield 24, 3) := by decide +kernel
theorem dX4_tieThread_4 : decode cX4_tieThread 4 = .ok (.iload_n 1, 1) := by decide +kernel
theorem dX4_tieThread_5 : decode cX4_tieThread 5 = .ok (.sipush 999, 3) := by decide +kernel
theorem dX4_tieThread_8 : decode cX4_tieThread 8 = .ok (.aload_n 0, 1) := by decide +kernel
theorem dX4_tieThread_9 : decode cX4_tieThread 9 = .ok (.getfield 24, 3) := by decide +kernel
theorem dX4_tieThread_12 : decode cX4_tieThread 12 = .ok (.iload_n 1, 1) := by decide +kernel
theorem dX4_tieThread_13 : decode cX4_tieThread 13 = .ok (.iaload, 1) := by decide +kernel
theorem dX4_tieThread_14 : decode cX4_tieThread 14 = .ok (.iload_n 2, 1) := by decide +kernel
theorem dX4_tieThread_15 : decode cX4_tieThread 15 = .ok (.iadd, 1) := by decide +kernel
theorem dX4_tieThread_16 : decode cX4_tieThread 16 = .ok (.invokestatic 68, 3) := by decide +kernel
theorem dX4_tieThread_19 : decode cX4_tieThread 19 = .ok (.iastore, 1) := by decide +kernel
theorem dX4_tieThread_20 : decode cX4_tieThread 20 = .ok (.aload_n 0, 1) := by decide +kernel
theorem dX4_tieThread_21 : decode cX4_tieThread 21 = .ok (.getfield 27, 3) := by decide +kernel
theorem dX4_tieThread_24 : decode cX4_tieThread 24 = .ok (.iload_n 1, 1) := by decide +kernel
theorem dX4_tieThread_25 : decode cX4_tieThread 25 = .ok (.iconst 0, 1) := by decide +kernel
theorem dX4_tieThread_26 : decode cX4_tieThread 26 = .ok (.iastore, 1) := by decide +kernel
theorem dX4_tieThread_27 : decode cX4_tieThread 27 = .ok (.aload_n 0, 1) := by decide +kernel
theorem dX4_tieThread_28 : decode cX4_tieThread 28 = .ok (.getfield 30, 3) := by decide +kernel
theorem dX4_tieThread_31 : decode cX4_tieThread 31 = .ok (.iload_n 1, 1) := by decide +kernel
theorem dX4_tieThread_32 : decode cX4_tieThread 32 = .ok (.dup2, 1) := by decide +kernel
theorem dX4_tieThread_33 : decode cX4_tieThread 33 = .ok (.iaload, 1) := by decide +kernel
theorem dX4_tieThread_34 : decode cX4_tieThread 34 = .ok (.iconst 1, 1) := by decide +kernel
theorem dX4_tieThread_35 : decode cX4_tieThread 35 = .ok (.iadd, 1) := by decide +kernel
theorem dX4_tieThread_36 : decode cX4_tieThread 36 = .ok (.iastore, 1) := by decide +kernel
theorem dX4_tieThread_37 : decode cX4_tieThread 37 = .ok (.aload_n 0, 1) := by decide +kernel
theorem dX4_tieThread_38 : decode cX4_tieThread 38 = .ok (.getfield 24, 3) := by decide +kernel
theorem dX4_tieThread_41 : decode cX4_tieThread 41 = .ok (.iload_n 1, 1) := by decide +kernel
theorem dX4_tieThread_42 : decode cX4_tieThread 42 = .ok (.iaload, 1) := by decide +kernel
theorem dX4_tieThread_43 : decode cX4_tieThread 43 = .ok (.ireturn, 1) := by decide +kernel
theorem dX4_goOn_0 : decode cX4_goOn 0 = .ok (.iconst 0, 1) := by decide +kernel
theorem dX4_goOn_1 : decode cX4_goOn 1 = .ok (.istore_n 2, 1) := by decide +kernel
theorem dX4_goOn_2 : decode cX4_goOn 2 = .ok (.iload_n 2, 1) := by decide +kernel
theorem dX4_goOn_3 : decode cX4_goOn 3 = .ok (.iload_n 1, 1) := by decide +kernel
theorem dX4_goOn_4 : decode cX4_goOn 4 = .ok (.if_icmp .ge 26, 3) := by decide +kernel
theorem dX4_goOn_7 : decode cX4_goOn 7 = .ok (.aload_n 0, 1) := by decide +kernel
theorem dX4_goOn_8 : decode cX4_goOn 8 = .ok (.aload_n 0, 1) := by decide +kernel
theorem dX4_goOn_9 : decode cX4_goOn 9 = .ok (.invokevirtual 98, 3) := by decide +kernel
theorem dX4_goOn_12 : decode cX4_goOn 12 = .ok (.putfield 57, 3) := by decide +kernel
theorem dX4_goOn_15 : decode cX4_goOn 15 = .ok (.aload_n 0, 1) := by decide +kernel
theorem dX4_goOn_16 : decode cX4_goOn 16 = .ok (.getfield 57, 3) := by decide +kernel
theorem dX4_goOn_19 : decode cX4_goOn 19 = .ok (.ifCond .eq 5, 3) := by decide +kernel
theorem dX4_goOn_22 : decode cX4_goOn 22 = .ok (.iload_n 2, 1) := by decide +kernel
theorem dX4_goOn_23 : decode cX4_goOn 23 = .ok (.ireturn, 1) := by decide +kernel
theorem dX4_goOn_24 : decode cX4_goOn 24 = .ok (.iinc 2 1, 3) := by decide +kernel
theorem dX4_goOn_27 : decode cX4_goOn 27 = .ok (.goto (-25), 3) := by decide +kernel
theorem dX4_goOn_30 : decode cX4_goOn 30 = .ok (.iload_n 1, 1) := by decide +kernel
theorem dX4_goOn_31 : decode cX4_goOn 31 = .ok (.ireturn, 1) := by decide +kernel
theorem dX4_weaveNext_0 : decode cX4_weaveNext 0 = .ok (.iconst 0, 1) := by decide +kernel
theorem dX4_weaveNext_1 : decode cX4_weaveNext 1 = .ok (.istore_n 1, 1) := by decide +kernel
theorem dX4_weaveNext_2 : decode cX4_weaveNext 2 = .ok (.iload_n 1, 1) := by decide +kernel
theorem dX4_weaveNext_3 : decode cX4_weaveNext 3 = .ok (.sipush 500, 3) := by decide +kernel
theorem dX4_weaveNext_6 : decode cX4_weaveNext 6 = .ok (.if_icmp .gt 62, 3) := by decide +kernel
theorem dX4_weaveNext_9 : decode cX4_weaveNext 9 = .ok (.aload_n 0, 1) := by decide +kernel
theorem dX4_weaveNext_10 : decode cX4_weaveNext 10 = .ok (.iload_n 1, 1) := by decide +kernel
theorem dX4_weaveNext_11 : decode cX4_weaveNext 11 = .ok (.invokevirtual 102, 3) := by decide +kernel
theorem dX4_weaveNext_14 : decode cX4_weaveNext 14 = .ok (.istore_n 2, 1) := by decide +kernel
theorem dX4_weaveNext_15 : decode cX4_weaveNext 15 = .ok (.iload_n 2, 1) := by decide +kernel
theorem dX4_weaveNext_16 : decode cX4_weaveNext 16 = .ok (.ifCond .eq 5, 3) := by decide +kernel
theorem dX4_weaveNext_19 : decode cX4_weaveNext 19 = .ok (.iload_n 2, 1) := by decide +kernel
theorem dX4_weaveNext_20 : decode cX4_weaveNext 20 = .ok (.ireturn, 1) := by decide +kernel
theorem dX4_weaveNext_21 : decode cX4_weaveNext 21 = .ok (.aload_n 0, 1) := by decide +kernel
theorem dX4_weaveNext_22 : decode cX4_weaveNext 22 = .ok (.getfield 43, 3) := by decide +kernel
theorem dX4_weaveNext_25 : decode cX4_weaveNext 25 = .ok (.invokevirtual 106, 3) := by decide +kernel
theorem dX4_weaveNext_28 : decode cX4_weaveNext 28 = .ok (.istore_n 3, 1) := by decide +kernel
theorem dX4_weaveNext_29 : decode cX4_weaveNext 29 = .ok (.iload_n 3, 1) := by decide +kernel
theorem dX4_weaveNext_30 : decode cX4_weaveNext 30 = .ok (.bipush 119, 2) := by decide +kernel
theorem dX4_weaveNext_32 : decode cX4_weaveNext 32 = .ok (.if_icmp .ne 10, 3) := by decide +kernel
theorem dX4_weaveNext_35 : decode cX4_weaveNext 35 = .ok (.aload_n 0, 1) := by decide +kernel
theorem dX4_weaveNext_36 : decode cX4_weaveNext 36 = .ok (.invokevirtual 109, 3) := by decide +kernel
theorem dX4_weaveNext_39 : decode cX4_weaveNext 39 = .ok (.goto 8, 3) := by decide +kernel
theorem dX4_weaveNext_42 : decode cX4_weaveNext 42 = .ok (.aload_n 0, 1) := by decide +kernel
theorem dX4_weaveNext_43 : decode cX4_weaveNext 43 = .ok (.iload_n 3, 1) := by decide +kernel
theorem dX4_weaveNext_44 : decode cX4_weaveNext 44 = .ok (.invokevirtual 112, 3) := by decide +kernel
theorem dX4_weaveNext_47 : decode cX4_weaveNext 47 = .ok (.aload_n 0, 1) := by decide +kernel
theorem dX4_weaveNext_48 : decode cX4_weaveNext 48 = .ok (.getfield 43, 3) := by decide +kernel
theorem dX4_weaveNext_51 : decode cX4_weaveNext 51 = .ok (.invokevirtual 116, 3) := by decide +kernel
theorem dX4_weaveNext_54 : decode cX4_weaveNext 54 = .ok (.iload_n 3, 1) := by decide +kernel
theorem dX4_weaveNext_55 : decode cX4_weaveNext 55 = .ok (.bipush 119, 2) := by decide +kernel
theorem dX4_weaveNext_57 : decode cX4_weaveNext 57 = .ok (.if_icmp .ne 5, 3) := by decide +kernel
theorem dX4_weaveNext_60 : decode cX4_weaveNext 60 = .ok (.iconst 0, 1) := by decide +kernel
theorem dX4_weaveNext_61 : decode cX4_weaveNext 61 = .ok (.ireturn, 1) := by decide +kernel
theorem dX4_weaveNext_62 : decode cX4_weaveNext 62 = .ok (.iinc 1 1, 3) := by decide +kernel
theorem dX4_weaveNext_65 : decode cX4_weaveNext 65 = .ok (.goto (-63), 3) := by decide +kernel
theorem dX4_weaveNext_68 : decode cX4_weaveNext 68 = .ok (.bipush 7, 2) := by decide +kernel
theorem dX4_weaveNext_70 : decode cX4_weaveNext 70 = .ok (.ireturn, 1) := by decide +kernel
theorem dX4_hindranceAfter_0 : decode cX4_hindranceAfter 0 = .ok (.aload_n 0, 1) := by decide +kernel
theorem dX4_hindranceAfter_1 : decode cX4_hindranceAfter 1 = .ok (.getfield 43, 3) := by decide +kernel
theorem dX4_hindranceAfter_4 : decode cX4_hindranceAfter 4 = .ok (.getfield 84, 3) := by decide +kernel
theorem dX4_hindranceAfter_7 : decode cX4_hindranceAfter 7 = .ok (.ifCond .ne 5, 3) := by decide +kernel
theorem dX4_hindranceAfter_10 : decode cX4_hindranceAfter 10 = .ok (.iconst 1, 1) := by decide +kernel
theorem dX4_hindranceAfter_11 : decode cX4_hindranceAfter 11 = .ok (.ireturn, 1) := by decide +kernel
theorem dX4_hindranceAfter_12 : decode cX4_hindranceAfter 12 = .ok (.aload_n 0, 1) := by decide +kernel
theorem dX4_hindranceAfter_13 : decode cX4_hindranceAfter 13 = .ok (.getfield 43, 3) := by decide +kernel
theorem dX4_hindranceAfter_16 : decode cX4_hindranceAfter 16 = .ok (.invokevirtual 106, 3) := by decide +kernel
theorem dX4_hindranceAfter_19 : decode cX4_hindranceAfter 19 = .ok (.istore_n 2, 1) := by decide +kernel
theorem dX4_hindranceAfter_20 : decode cX4_hindranceAfter 20 = .ok (.iload_n 2, 1) := by decide +kernel
theorem dX4_hindranceAfter_21 : decode cX4_hindranceAfter 21 = .ok (.bipush 119, 2) := by decide +kernel
theorem dX4_hindranceAfter_23 : decode cX4_hindranceAfter 23 = .ok (.if_icmp .ne 51, 3) := by decide +kernel
theorem dX4_hindranceAfter_26 : decode cX4_hindranceAfter 26 = .ok (.aload_n 0, 1) := by decide +kernel
theorem dX4_hindranceAfter_27 : decode cX4_hindranceAfter 27 = .ok (.getfield 43, 3) := by decide +kernel
theorem dX4_hindranceAfter_30 : decode cX4_hindranceAfter 30 = .ok (.invokevirtual 119, 3) := by decide +kernel
theorem dX4_hindranceAfter_33 : decode cX4_hindranceAfter 33 = .ok (.istore_n 3, 1) := by decide +kernel
theorem dX4_hindranceAfter_34 : decode cX4_hindranceAfter 34 = .ok (.aload_n 0, 1) := by decide +kernel
theorem dX4_hindranceAfter_35 : decode cX4_hindranceAfter 35 = .ok (.getfield 24, 3) := by decide +kernel
theorem dX4_hindranceAfter_38 : decode cX4_hindranceAfter 38 = .ok (.iload_n 3, 1) := by decide +kernel
theorem dX4_hindranceAfter_39 : decode cX4_hindranceAfter 39 = .ok (.iaload, 1) := by decide +kernel
theorem dX4_hindranceAfter_40 : decode cX4_hindranceAfter 40 = .ok (.ifCond .ne 5, 3) := by decide +kernel
theorem dX4_hindranceAfter_43 : decode cX4_hindranceAfter 43 = .ok (.iconst 2, 1) := by decide +kernel
theorem dX4_hindranceAfter_44 : decode cX4_hindranceAfter 44 = .ok (.ireturn, 1) := by decide +kernel
theorem dX4_hindranceAfter_45 : decode cX4_hindranceAfter 45 = .ok (.aload_n 0, 1) := by decide +kernel
theorem dX4_hindranceAfter_46 : decode cX4_hindranceAfter 46 = .ok (.getfield 27, 3) := by decide +kernel
theorem dX4_hindranceAfter_49 : decode cX4_hindranceAfter 49 = .ok (.iload_n 3, 1) := by decide +kernel
theorem dX4_hindranceAfter_50 : decode cX4_hindranceAfter 50 = .ok (.iaload, 1) := by decide +kernel
theorem dX4_hindranceAfter_51 : decode cX4_hindranceAfter 51 = .ok (.aload_n 0, 1) := by decide +kernel
theorem dX4_hindranceAfter_52 : decode cX4_hindranceAfter 52 = .ok (.getfield 21, 3) := by decide +kernel
theorem dX4_hindranceAfter_55 : decode cX4_hindranceAfter 55 = .ok (.iconst 1, 1) := by decide +kernel
theorem dX4_hindranceAfter_56 : decode cX4_hindranceAfter 56 = .ok (.iaload, 1) := by decide +kernel
theorem dX4_hindranceAfter_57 : decode cX4_hindranceAfter 57 = .ok (.if_icmp .lt 5, 3) := by decide +kernel
theorem dX4_hindranceAfter_60 : decode cX4_hindranceAfter 60 = .ok (.iconst 3, 1) := by decide +kernel
theorem dX4_hindranceAfter_61 : decode cX4_hindranceAfter 61 = .ok (.ireturn, 1) := by decide +kernel
theorem dX4_hindranceAfter_62 : decode cX4_hindranceAfter 62 = .ok (.aload_n 0, 1) := by decide +kernel
theorem dX4_hindranceAfter_63 : decode cX4_hindranceAfter 63 = .ok (.getfield 47, 3) := by decide +kernel
theorem dX4_hindranceAfter_66 : decode cX4_hindranceAfter 66 = .ok (.sipush 400, 3) := by decide +kernel
theorem dX4_hindranceAfter_69 : decode cX4_hindranceAfter 69 = .ok (.if_icmp .lt 5, 3) := by decide +kernel
theorem dX4_hindranceAfter_72 : decode cX4_hindranceAfter 72 = .ok (.iconst 4, 1) := by decide +kernel
theorem dX4_hindranceAfter_73 : decode cX4_hindranceAfter 73 = .ok (.ireturn, 1) := by decide +kernel
theorem dX4_hindranceAfter_74 : decode cX4_hindranceAfter 74 = .ok (.iload_n 2, 1) := by decide +kernel
theorem dX4_hindranceAfter_75 : decode cX4_hindranceAfter 75 = .ok (.bipush 107, 2) := by decide +kernel
theorem dX4_hindranceAfter_77 : decode cX4_hindranceAfter 77 = .ok (.if_icmp .ne 39, 3) := by decide +kernel
theorem dX4_hindranceAfter_80 : decode cX4_hindranceAfter 80 = .ok (.aload_n 0, 1) := by decide +kernel
theorem dX4_hindranceAfter_81 : decode cX4_hindranceAfter 81 = .ok (.getfield 11, 3) := by decide +kernel
theorem dX4_hindranceAfter_84 : decode cX4_hindranceAfter 84 = .ok (.aload_n 0, 1) := by decide +kernel
theorem dX4_hindranceAfter_85 : decode cX4_hindranceAfter 85 = .ok (.getfield 43, 3) := by decide +kernel
theorem dX4_hindranceAfter_88 : decode cX4_hindranceAfter 88 = .ok (.invokevirtual 122, 3) := by decide +kernel
theorem dX4_hindranceAfter_91 : decode cX4_hindranceAfter 91 = .ok (.aaload, 1) := by decide +kernel
theorem dX4_hindranceAfter_92 : decode cX4_hindranceAfter 92 = .ok (.ifnonnull 5, 3) := by decide +kernel
theorem dX4_hindranceAfter_95 : decode cX4_hindranceAfter 95 = .ok (.iconst 5, 1) := by decide +kernel
theorem dX4_hindranceAfter_96 : decode cX4_hindranceAfter 96 = .ok (.ireturn, 1) := by decide +kernel
theorem dX4_hindranceAfter_97 : decode cX4_hindranceAfter 97 = .ok (.aload_n 0, 1) := by decide +kernel
theorem dX4_hindranceAfter_98 : decode cX4_hindranceAfter 98 = .ok (.getfield 43, 3) := by decide +kernel
theorem dX4_hindranceAfter_101 : decode cX4_hindranceAfter 101 = .ok (.getfield 84, 3) := by decide +kernel
theorem dX4_hindranceAfter_104 : decode cX4_hindranceAfter 104 = .ok (.aload_n 0, 1) := by decide +kernel
theorem dX4_hindranceAfter_105 : decode cX4_hindranceAfter 105 = .ok (.getfield 21, 3) := by decide +kernel
theorem dX4_hindranceAfter_108 : decode cX4_hindranceAfter 108 = .ok (.iconst 0, 1) := by decide +kernel
theorem dX4_hindranceAfter_109 : decode cX4_hindranceAfter 109 = .ok (.iaload, 1) := by decide +kernel
theorem dX4_hindranceAfter_110 : decode cX4_hindranceAfter 110 = .ok (.if_icmp .lt 6, 3) := by decide +kernel
theorem dX4_hindranceAfter_113 : decode cX4_hindranceAfter 113 = .ok (.bipush 6, 2) := by decide +kernel
theorem dX4_hindranceAfter_115 : decode cX4_hindranceAfter 115 = .ok (.ireturn, 1) := by decide +kernel
theorem dX4_hindranceAfter_116 : decode cX4_hindranceAfter 116 = .ok (.iload_n 1, 1) := by decide +kernel
theorem dX4_hindranceAfter_117 : decode cX4_hindranceAfter 117 = .ok (.sipush 500, 3) := by decide +kernel
theorem dX4_hindranceAfter_120 : decode cX4_hindranceAfter 120 = .ok (.if_icmp .lt 8, 3) := by decide +kernel
theorem dX4_hindranceAfter_123 : decode cX4_hindranceAfter 123 = .ok (.bipush 7, 2) := by decide +kernel
theorem dX4_hindranceAfter_125 : decode cX4_hindranceAfter 125 = .ok (.goto 4, 3) := by decide +kernel
theorem dX4_hindranceAfter_128 : decode cX4_hindranceAfter 128 = .ok (.iconst 0, 1) := by decide +kernel
theorem dX4_hindranceAfter_129 : decode cX4_hindranceAfter 129 = .ok (.ireturn, 1) := by decide +kernel
theorem dX4_weavePick_0 : decode cX4_weavePick 0 = .ok (.aload_n 0, 1) := by decide +kernel
theorem dX4_weavePick_1 : decode cX4_weavePick 1 = .ok (.getfield 43, 3) := by decide +kernel
theorem dX4_weavePick_4 : decode cX4_weavePick 4 = .ok (.invokevirtual 119, 3) := by decide +kernel
theorem dX4_weavePick_7 : decode cX4_weavePick 7 = .ok (.istore_n 1, 1) := by decide +kernel
theorem dX4_weavePick_8 : decode cX4_weavePick 8 = .ok (.aload_n 0, 1) := by decide +kernel
theorem dX4_weavePick_9 : decode cX4_weavePick 9 = .ok (.getfield 24, 3) := by decide +kernel
theorem dX4_weavePick_12 : decode cX4_weavePick 12 = .ok (.iload_n 1, 1) := by decide +kernel
theorem dX4_weavePick_13 : decode cX4_weavePick 13 = .ok (.dup2, 1) := by decide +kernel
theorem dX4_weavePick_14 : decode cX4_weavePick 14 = .ok (.iaload, 1) := by decide +kernel
theorem dX4_weavePick_15 : decode cX4_weavePick 15 = .ok (.iconst 1, 1) := by decide +kernel
theorem dX4_weavePick_16 : decode cX4_weavePick 16 = .ok (.isub, 1) := by decide +kernel
theorem dX4_weavePick_17 : decode cX4_weavePick 17 = .ok (.iastore, 1) := by decide +kernel
theorem dX4_weavePick_18 : decode cX4_weavePick 18 = .ok (.aload_n 0, 1) := by decide +kernel
theorem dX4_weavePick_19 : decode cX4_weavePick 19 = .ok (.getfield 27, 3) := by decide +kernel
theorem dX4_weavePick_22 : decode cX4_weavePick 22 = .ok (.iload_n 1, 1) := by decide +kernel
theorem dX4_weavePick_23 : decode cX4_weavePick 23 = .ok (.dup2, 1) := by decide +kernel
theorem dX4_weavePick_24 : decode cX4_weavePick 24 = .ok (.iaload, 1) := by decide +kernel
theorem dX4_weavePick_25 : decode cX4_weavePick 25 = .ok (.iconst 1, 1) := by decide +kernel
theorem dX4_weavePick_26 : decode cX4_weavePick 26 = .ok (.iadd, 1) := by decide +kernel
theorem dX4_weavePick_27 : decode cX4_weavePick 27 = .ok (.iastore, 1) := by decide +kernel
theorem dX4_weavePick_28 : decode cX4_weavePick 28 = .ok (.aload_n 0, 1) := by decide +kernel
theorem dX4_weavePick_29 : decode cX4_weavePick 29 = .ok (.getfield 33, 3) := by decide +kernel
theorem dX4_weavePick_32 : decode cX4_weavePick 32 = .ok (.iload_n 1, 1) := by decide +kernel
theorem dX4_weavePick_33 : decode cX4_weavePick 33 = .ok (.dup2, 1) := by decide +kernel
theorem dX4_weavePick_34 : decode cX4_weavePick 34 = .ok (.iaload, 1) := by decide +kernel
theorem dX4_weavePick_35 : decode cX4_weavePick 35 = .ok (.iconst 1, 1) := by decide +kernel
theorem dX4_weavePick_36 : decode cX4_weavePick 36 = .ok (.iadd, 1) := by decide +kernel
theorem dX4_weavePick_37 : decode cX4_weavePick 37 = .ok (.iastore, 1) := by decide +kernel
theorem dX4_weavePick_38 : decode cX4_weavePick 38 = .ok (.aload_n 0, 1) := by decide +kernel
theorem dX4_weavePick_39 : decode cX4_weavePick 39 = .ok (.getfield 36, 3) := by decide +kernel
theorem dX4_weavePick_42 : decode cX4_weavePick 42 = .ok (.aload_n 0, 1) := by decide +kernel
theorem dX4_weavePick_43 : decode cX4_weavePick 43 = .ok (.getfield 47, 3) := by decide +kernel
theorem dX4_weavePick_46 : decode cX4_weavePick 46 = .ok (.iload_n 1, 1) := by decide +kernel
theorem dX4_weavePick_47 : decode cX4_weavePick 47 = .ok (.i2b, 1) := by decide +kernel
theorem dX4_weavePick_48 : decode cX4_weavePick 48 = .ok (.bastore, 1) := by decide +kernel
theorem dX4_weavePick_49 : decode cX4_weavePick 49 = .ok (.aload_n 0, 1) := by decide +kernel
theorem dX4_weavePick_50 : decode cX4_weavePick 50 = .ok (.dup, 1) := by decide +kernel
theorem dX4_weavePick_51 : decode cX4_weavePick 51 = .ok (.getfield 47, 3) := by decide +kernel
theorem dX4_weavePick_54 : decode cX4_weavePick 54 = .ok (.iconst 1, 1) := by decide +kernel
theorem dX4_weavePick_55 : decode cX4_weavePick 55 = .ok (.iadd, 1) := by decide +kernel
theorem dX4_weavePick_56 : decode cX4_weavePick 56 = .ok (.putfield 47, 3) := by decide +kernel
theorem dX4_weavePick_59 : decode cX4_weavePick 59 = .ok (.aload_n 0, 1) := by decide +kernel
theorem dX4_weavePick_60 : decode cX4_weavePick 60 = .ok (.getfield 43, 3) := by decide +kernel
theorem dX4_weavePick_63 : decode cX4_weavePick 63 = .ok (.invokevirtual 125, 3) := by decide +kernel
theorem dX4_weavePick_66 : decode cX4_weavePick 66 = .ok (.return_, 1) := by decide +kernel
theorem dX4_doStep_0 : decode cX4_doStep 0 = .ok (.iload_n 1, 1) := by decide +kernel
theorem dX4_doStep_1 : decode cX4_doStep 1 = .ok (.lookupswitch 100 #[(99, 35), (107, 59), (120, 90)], 35) := by decide +kernel
theorem dX4_doStep_36 : decode cX4_doStep 36 = .ok (.aload_n 0, 1) := by decide +kernel
theorem dX4_doStep_37 : decode cX4_doStep 37 = .ok (.getfield 43, 3) := by decide +kernel
theorem dX4_doStep_40 : decode cX4_doStep 40 = .ok (.aload_n 0, 1) := by decide +kernel
theorem dX4_doStep_41 : decode cX4_doStep 41 = .ok (.getfield 43, 3) := by decide +kernel
theorem dX4_doStep_44 : decode cX4_doStep 44 = .ok (.invokevirtual 122, 3) := by decide +kernel
theorem dX4_doStep_47 : decode cX4_doStep 47 = .ok (.invokevirtual 128, 3) := by decide +kernel
theorem dX4_doStep_50 : decode cX4_doStep 50 = .ok (.aload_n 0, 1) := by decide +kernel
theorem dX4_doStep_51 : decode cX4_doStep 51 = .ok (.getfield 43, 3) := by decide +kernel
theorem dX4_doStep_54 : decode cX4_doStep 54 = .ok (.invokevirtual 125, 3) := by decide +kernel
theorem dX4_doStep_57 : decode cX4_doStep 57 = .ok (.goto 86, 3) := by decide +kernel
theorem dX4_doStep_60 : decode cX4_doStep 60 = .ok (.aload_n 0, 1) := by decide +kernel
theorem dX4_doStep_61 : decode cX4_doStep 61 = .ok (.dup, 1) := by decide +kernel
theorem dX4_doStep_62 : decode cX4_doStep 62 = .ok (.getfield 54, 3) := by decide +kernel
theorem dX4_doStep_65 : decode cX4_doStep 65 = .ok (.iconst 1, 1) := by decide +kernel
theorem dX4_doStep_66 : decode cX4_doStep 66 = .ok (.iadd, 1) := by decide +kernel
theorem dX4_doStep_67 : decode cX4_doStep 67 = .ok (.putfield 54, 3) := by decide +kernel
theorem dX4_doStep_70 : decode cX4_doStep 70 = .ok (.aload_n 0, 1) := by decide +kernel
theorem dX4_doStep_71 : decode cX4_doStep 71 = .ok (.aload_n 0, 1) := by decide +kernel
theorem dX4_doStep_72 : decode cX4_doStep 72 = .ok (.getfield 43, 3) := by decide +kernel
theorem dX4_doStep_75 : decode cX4_doStep 75 = .ok (.invokevirtual 122, 3) := by decide +kernel
theorem dX4_doStep_78 : decode cX4_doStep 78 = .ok (.aload_n 0, 1) := by decide +kernel
theorem dX4_doStep_79 : decode cX4_doStep 79 = .ok (.getfield 43, 3) := by decide +kernel
theorem dX4_doStep_82 : decode cX4_doStep 82 = .ok (.invokevirtual 119, 3) := by decide +kernel
theorem dX4_doStep_85 : decode cX4_doStep 85 = .ok (.invokevirtual 87, 3) := by decide +kernel
theorem dX4_doStep_88 : decode cX4_doStep 88 = .ok (.goto 55, 3) := by decide +kernel
theorem dX4_doStep_91 : decode cX4_doStep 91 = .ok (.aload_n 0, 1) := by decide +kernel
theorem dX4_doStep_92 : decode cX4_doStep 92 = .ok (.getfield 43, 3) := by decide +kernel
theorem dX4_doStep_95 : decode cX4_doStep 95 = .ok (.invokevirtual 131, 3) := by decide +kernel
theorem dX4_doStep_98 : decode cX4_doStep 98 = .ok (.goto 45, 3) := by decide +kernel
theorem dX4_doStep_101 : decode cX4_doStep 101 = .ok (.aload_n 0, 1) := by decide +kernel
theorem dX4_doStep_102 : decode cX4_doStep 102 = .ok (.aload_n 0, 1) := by decide +kernel
theorem dX4_doStep_103 : decode cX4_doStep 103 = .ok (.getfield 43, 3) := by decide +kernel
theorem dX4_doStep_106 : decode cX4_doStep 106 = .ok (.invokevirtual 119, 3) := by decide +kernel
theorem dX4_doStep_109 : decode cX4_doStep 109 = .ok (.invokevirtual 134, 3) := by decide +kernel
theorem dX4_doStep_112 : decode cX4_doStep 112 = .ok (.iload_n 1, 1) := by decide +kernel
theorem dX4_doStep_113 : decode cX4_doStep 113 = .ok (.bipush 115, 2) := by decide +kernel
theorem dX4_doStep_115 : decode cX4_doStep 115 = .ok (.if_icmp .ne 7, 3) := by decide +kernel
theorem dX4_doStep_118 : decode cX4_doStep 118 = .ok (.iconst 1, 1) := by decide +kernel
theorem dX4_doStep_119 : decode cX4_doStep 119 = .ok (.goto 4, 3) := by decide +kernel
theorem dX4_doStep_122 : decode cX4_doStep 122 = .ok (.iconst 0, 1) := by decide +kernel
theorem dX4_doStep_123 : decode cX4_doStep 123 = .ok (.if_icmp .ne 13, 3) := by decide +kernel
theorem dX4_doStep_126 : decode cX4_doStep 126 = .ok (.aload_n 0, 1) := by decide +kernel
theorem dX4_doStep_127 : decode cX4_doStep 127 = .ok (.getfield 43, 3) := by decide +kernel
theorem dX4_doStep_130 : decode cX4_doStep 130 = .ok (.invokevirtual 131, 3) := by decide +kernel
theorem dX4_doStep_133 : decode cX4_doStep 133 = .ok (.goto 10, 3) := by decide +kernel
theorem dX4_doStep_136 : decode cX4_doStep 136 = .ok (.aload_n 0, 1) := by decide +kernel
theorem dX4_doStep_137 : decode cX4_doStep 137 = .ok (.getfield 43, 3) := by decide +kernel
theorem dX4_doStep_140 : decode cX4_doStep 140 = .ok (.invokevirtual 125, 3) := by decide +kernel
theorem dX4_doStep_143 : decode cX4_doStep 143 = .ok (.return_, 1) := by decide +kernel
theorem dX4_isShort_0 : decode cX4_isShort 0 = .ok (.aload_n 0, 1) := by decide +kernel
theorem dX4_isShort_1 : decode cX4_isShort 1 = .ok (.getfield 24, 3) := by decide +kernel
theorem dX4_isShort_4 : decode cX4_isShort 4 = .ok (.iload_n 1, 1) := by decide +kernel
theorem dX4_isShort_5 : decode cX4_isShort 5 = .ok (.iaload, 1) := by decide +kernel
theorem dX4_isShort_6 : decode cX4_isShort 6 = .ok (.aload_n 0, 1) := by decide +kernel
theorem dX4_isShort_7 : decode cX4_isShort 7 = .ok (.getfield 21, 3) := by decide +kernel
theorem dX4_isShort_10 : decode cX4_isShort 10 = .ok (.iconst 2, 1) := by decide +kernel
theorem dX4_isShort_11 : decode cX4_isShort 11 = .ok (.iaload, 1) := by decide +kernel
theorem dX4_isShort_12 : decode cX4_isShort 12 = .ok (.if_icmp .ge 7, 3) := by decide +kernel
theorem dX4_isShort_15 : decode cX4_isShort 15 = .ok (.iconst 1, 1) := by decide +kernel
theorem dX4_isShort_16 : decode cX4_isShort 16 = .ok (.goto 4, 3) := by decide +kernel
theorem dX4_isShort_19 : decode cX4_isShort 19 = .ok (.iconst 0, 1) := by decide +kernel
theorem dX4_isShort_20 : decode cX4_isShort 20 = .ok (.ireturn, 1) := by decide +kernel
theorem dX4_clothPicks_0 : decode cX4_clothPicks 0 = .ok (.iconst 0, 1) := by decide +kernel
theorem dX4_clothPicks_1 : decode cX4_clothPicks 1 = .ok (.istore_n 2, 1) := by decide +kernel
theorem dX4_clothPicks_2 : decode cX4_clothPicks 2 = .ok (.iconst 0, 1) := by decide +kernel
theorem dX4_clothPicks_3 : decode cX4_clothPicks 3 = .ok (.istore_n 3, 1) := by decide +kernel
theorem dX4_clothPicks_4 : decode cX4_clothPicks 4 = .ok (.iload_n 3, 1) := by decide +kernel
theorem dX4_clothPicks_5 : decode cX4_clothPicks 5 = .ok (.aload_n 0, 1) := by decide +kernel
theorem dX4_clothPicks_6 : decode cX4_clothPicks 6 = .ok (.getfield 47, 3) := by decide +kernel
theorem dX4_clothPicks_9 : decode cX4_clothPicks 9 = .ok (.if_icmp .ge 22, 3) := by decide +kernel
theorem dX4_clothPicks_12 : decode cX4_clothPicks 12 = .ok (.aload_n 0, 1) := by decide +kernel
theorem dX4_clothPicks_13 : decode cX4_clothPicks 13 = .ok (.getfield 36, 3) := by decide +kernel
theorem dX4_clothPicks_16 : decode cX4_clothPicks 16 = .ok (.iload_n 3, 1) := by decide +kernel
theorem dX4_clothPicks_17 : decode cX4_clothPicks 17 = .ok (.baload, 1) := by decide +kernel
theorem dX4_clothPicks_18 : decode cX4_clothPicks 18 = .ok (.iload_n 1, 1) := by decide +kernel
theorem dX4_clothPicks_19 : decode cX4_clothPicks 19 = .ok (.if_icmp .ne 6, 3) := by decide +kernel
theorem dX4_clothPicks_22 : decode cX4_clothPicks 22 = .ok (.iinc 2 1, 3) := by decide +kernel
theorem dX4_clothPicks_25 : decode cX4_clothPicks 25 = .ok (.iinc 3 1, 3) := by decide +kernel
theorem dX4_clothPicks_28 : decode cX4_clothPicks 28 = .ok (.goto (-24), 3) := by decide +kernel
theorem dX4_clothPicks_31 : decode cX4_clothPicks 31 = .ok (.iload_n 2, 1) := by decide +kernel
theorem dX4_clothPicks_32 : decode cX4_clothPicks 32 = .ok (.ireturn, 1) := by decide +kernel
theorem dX4_longestRow_0 : decode cX4_longestRow 0 = .ok (.iconst 0, 1) := by decide +kernel
theorem dX4_longestRow_1 : decode cX4_longestRow 1 = .ok (.istore_n 2, 1) := by decide +kernel
theorem dX4_longestRow_2 : decode cX4_longestRow 2 = .ok (.iconst 0, 1) := by decide +kernel
theorem dX4_longestRow_3 : decode cX4_longestRow 3 = .ok (.istore_n 3, 1) := by decide +kernel
theorem dX4_longestRow_4 : decode cX4_longestRow 4 = .ok (.iconst 0, 1) := by decide +kernel
theorem dX4_longestRow_5 : decode cX4_longestRow 5 = .ok (.istore 4, 2) := by decide +kernel
theorem dX4_longestRow_7 : decode cX4_longestRow 7 = .ok (.iload 4, 2) := by decide +kernel
theorem dX4_longestRow_9 : decode cX4_longestRow 9 = .ok (.aload_n 0, 1) := by decide +kernel
theorem dX4_longestRow_10 : decode cX4_longestRow 10 = .ok (.getfield 47, 3) := by decide +kernel
theorem dX4_longestRow_13 : decode cX4_longestRow 13 = .ok (.if_icmp .ge 34, 3) := by decide +kernel
theorem dX4_longestRow_16 : decode cX4_longestRow 16 = .ok (.aload_n 0, 1) := by decide +kernel
theorem dX4_longestRow_17 : decode cX4_longestRow 17 = .ok (.getfield 36, 3) := by decide +kernel
theorem dX4_longestRow_20 : decode cX4_longestRow 20 = .ok (.iload 4, 2) := by decide +kernel
theorem dX4_longestRow_22 : decode cX4_longestRow 22 = .ok (.baload, 1) := by decide +kernel
theorem dX4_longestRow_23 : decode cX4_longestRow 23 = .ok (.iload_n 1, 1) := by decide +kernel
theorem dX4_longestRow_24 : decode cX4_longestRow 24 = .ok (.if_icmp .ne 9, 3) := by decide +kernel
theorem dX4_longestRow_27 : decode cX4_longestRow 27 = .ok (.iload_n 3, 1) := by decide +kernel
theorem dX4_longestRow_28 : decode cX4_longestRow 28 = .ok (.iconst 1, 1) := by decide +kernel
theorem dX4_longestRow_29 : decode cX4_longestRow 29 = .ok (.iadd, 1) := by decide +kernel
theorem dX4_longestRow_30 : decode cX4_longestRow 30 = .ok (.goto 4, 3) := by decide +kernel
theorem dX4_longestRow_33 : decode cX4_longestRow 33 = .ok (.iconst 0, 1) := by decide +kernel
theorem dX4_longestRow_34 : decode cX4_longestRow 34 = .ok (.istore_n 3, 1) := by decide +kernel
theorem dX4_longestRow_35 : decode cX4_longestRow 35 = .ok (.iload_n 2, 1) := by decide +kernel
theorem dX4_longestRow_36 : decode cX4_longestRow 36 = .ok (.iload_n 3, 1) := by decide +kernel
theorem dX4_longestRow_37 : decode cX4_longestRow 37 = .ok (.invokestatic 95, 3) := by decide +kernel
theorem dX4_longestRow_40 : decode cX4_longestRow 40 = .ok (.istore_n 2, 1) := by decide +kernel
theorem dX4_longestRow_41 : decode cX4_longestRow 41 = .ok (.iinc 4 1, 3) := by decide +kernel
theorem dX4_longestRow_44 : decode cX4_longestRow 44 = .ok (.goto (-37), 3) := by decide +kernel
theorem dX4_longestRow_47 : decode cX4_longestRow 47 = .ok (.iload_n 2, 1) := by decide +kernel
theorem dX4_longestRow_48 : decode cX4_longestRow 48 = .ok (.ireturn, 1) := by decide +kernel
theorem dX4_endRank_0 : decode cX4_endRank 0 = .ok (.iconst 0, 1) := by decide +kernel
theorem dX4_endRank_1 : decode cX4_endRank 1 = .ok (.istore_n 2, 1) := by decide +kernel
theorem dX4_endRank_2 : decode cX4_endRank 2 = .ok (.iconst 0, 1) := by decide +kernel
theorem dX4_endRank_3 : decode cX4_endRank 3 = .ok (.istore_n 3, 1) := by decide +kernel
theorem dX4_endRank_4 : decode cX4_endRank 4 = .ok (.iload_n 3, 1) := by decide +kernel
theorem dX4_endRank_5 : decode cX4_endRank 5 = .ok (.bipush 6, 2) := by decide +kernel
theorem dX4_endRank_7 : decode cX4_endRank 7 = .ok (.if_icmp .ge 59, 3) := by decide +kernel
theorem dX4_endRank_10 : decode cX4_endRank 10 = .ok (.aload_n 0, 1) := by decide +kernel
theorem dX4_endRank_11 : decode cX4_endRank 11 = .ok (.getfield 24, 3) := by decide +kernel
theorem dX4_endRank_14 : decode cX4_endRank 14 = .ok (.iload_n 3, 1) := by decide +kernel
theorem dX4_endRank_15 : decode cX4_endRank 15 = .ok (.iaload, 1) := by decide +kernel
theorem dX4_endRank_16 : decode cX4_endRank 16 = .ok (.aload_n 0, 1) := by decide +kernel
theorem dX4_endRank_17 : decode cX4_endRank 17 = .ok (.getfield 24, 3) := by decide +kernel
theorem dX4_endRank_20 : decode cX4_endRank 20 = .ok (.iload_n 1, 1) := by decide +kernel
theorem dX4_endRank_21 : decode cX4_endRank 21 = .ok (.iaload, 1) := by decide +kernel
theorem dX4_endRank_22 : decode cX4_endRank 22 = .ok (.if_icmp .ge 7, 3) := by decide +kernel
theorem dX4_endRank_25 : decode cX4_endRank 25 = .ok (.iconst 1, 1) := by decide +kernel
theorem dX4_endRank_26 : decode cX4_endRank 26 = .ok (.goto 4, 3) := by decide +kernel
theorem dX4_endRank_29 : decode cX4_endRank 29 = .ok (.iconst 0, 1) := by decide +kernel
theorem dX4_endRank_30 : decode cX4_endRank 30 = .ok (.istore 4, 2) := by decide +kernel
theorem dX4_endRank_32 : decode cX4_endRank 32 = .ok (.iload 4, 2) := by decide +kernel
theorem dX4_endRank_34 : decode cX4_endRank 34 = .ok (.ifCond .ne 23, 3) := by decide +kernel
theorem dX4_endRank_37 : decode cX4_endRank 37 = .ok (.aload_n 0, 1) := by decide +kernel
theorem dX4_endRank_38 : decode cX4_endRank 38 = .ok (.getfield 24, 3) := by decide +kernel
theorem dX4_endRank_41 : decode cX4_endRank 41 = .ok (.iload_n 3, 1) := by decide +kernel
theorem dX4_endRank_42 : decode cX4_endRank 42 = .ok (.iaload, 1) := by decide +kernel
theorem dX4_endRank_43 : decode cX4_endRank 43 = .ok (.aload_n 0, 1) := by decide +kernel
theorem dX4_endRank_44 : decode cX4_endRank 44 = .ok (.getfield 24, 3) := by decide +kernel
theorem dX4_endRank_47 : decode cX4_endRank 47 = .ok (.iload_n 1, 1) := by decide +kernel
theorem dX4_endRank_48 : decode cX4_endRank 48 = .ok (.iaload, 1) := by decide +kernel
theorem dX4_endRank_49 : decode cX4_endRank 49 = .ok (.if_icmp .ne 11, 3) := by decide +kernel
theorem dX4_endRank_52 : decode cX4_endRank 52 = .ok (.iload_n 3, 1) := by decide +kernel
theorem dX4_endRank_53 : decode cX4_endRank 53 = .ok (.iload_n 1, 1) := by decide +kernel
theorem dX4_endRank_54 : decode cX4_endRank 54 = .ok (.if_icmp .ge 6, 3) := by decide +kernel
theorem dX4_endRank_57 : decode cX4_endRank 57 = .ok (.iinc 2 1, 3) := by decide +kernel
theorem dX4_endRank_60 : decode cX4_endRank 60 = .ok (.iinc 3 1, 3) := by decide +kernel
theorem dX4_endRank_63 : decode cX4_endRank 63 = .ok (.goto (-59), 3) := by decide +kernel
theorem dX4_endRank_66 : decode cX4_endRank 66 = .ok (.iload_n 2, 1) := by decide +kernel
theorem dX4_endRank_67 : decode cX4_endRank 67 = .ok (.ireturn, 1) := by decide +kernel
theorem dX4_clothRank_0 : decode cX4_clothRank 0 = .ok (.aload_n 0, 1) := by decide +kernel
theorem dX4_clothRank_1 : decode cX4_clothRank 1 = .ok (.iload_n 1, 1) := by decide +kernel
theorem dX4_clothRank_2 : decode cX4_clothRank 2 = .ok (.invokevirtual 138, 3) := by decide +kernel
theorem dX4_clothRank_5 : decode cX4_clothRank 5 = .ok (.istore_n 2, 1) := by decide +kernel
theorem dX4_clothRank_6 : decode cX4_clothRank 6 = .ok (.iconst 0, 1) := by decide +kernel
theorem dX4_clothRank_7 : decode cX4_clothRank 7 = .ok (.istore_n 3, 1) := by decide +kernel
theorem dX4_clothRank_8 : decode cX4_clothRank 8 = .ok (.iconst 0, 1) := by decide +kernel
theorem dX4_clothRank_9 : decode cX4_clothRank 9 = .ok (.istore 4, 2) := by decide +kernel
theorem dX4_clothRank_11 : decode cX4_clothRank 11 = .ok (.iload 4, 2) := by decide +kernel
theorem dX4_clothRank_13 : decode cX4_clothRank 13 = .ok (.bipush 6, 2) := by decide +kernel
theorem dX4_clothRank_15 : decode cX4_clothRank 15 = .ok (.if_icmp .ge 38, 3) := by decide +kernel
theorem dX4_clothRank_18 : decode cX4_clothRank 18 = .ok (.aload_n 0, 1) := by decide +kernel
theorem dX4_clothRank_19 : decode cX4_clothRank 19 = .ok (.iload 4, 2) := by decide +kernel
theorem dX4_clothRank_21 : decode cX4_clothRank 21 = .ok (.invokevirtual 138, 3) := by decide +kernel
theorem dX4_clothRank_24 : decode cX4_clothRank 24 = .ok (.istore 5, 2) := by decide +kernel
theorem dX4_clothRank_26 : decode cX4_clothRank 26 = .ok (.iload 5, 2) := by decide +kernel
theorem dX4_clothRank_28 : decode cX4_clothRank 28 = .ok (.iload_n 2, 1) := by decide +kernel
theorem dX4_clothRank_29 : decode cX4_clothRank 29 = .ok (.if_icmp .gt 15, 3) := by decide +kernel
theorem dX4_clothRank_32 : decode cX4_clothRank 32 = .ok (.iload 5, 2) := by decide +kernel
theorem dX4_clothRank_34 : decode cX4_clothRank 34 = .ok (.iload_n 2, 1) := by decide +kernel
theorem dX4_clothRank_35 : decode cX4_clothRank 35 = .ok (.if_icmp .ne 12, 3) := by decide +kernel
theorem dX4_clothRank_38 : decode cX4_clothRank 38 = .ok (.iload 4, 2) := by decide +kernel
theorem dX4_clothRank_40 : decode cX4_clothRank 40 = .ok (.iload_n 1, 1) := by decide +kernel
theorem dX4_clothRank_41 : decode cX4_clothRank 41 = .ok (.if_icmp .ge 6, 3) := by decide +kernel
theorem dX4_clothRank_44 : decode cX4_clothRank 44 = .ok (.iinc 3 1, 3) := by decide +kernel
theorem dX4_clothRank_47 : decode cX4_clothRank 47 = .ok (.iinc 4 1, 3) := by decide +kernel
theorem dX4_clothRank_50 : decode cX4_clothRank 50 = .ok (.goto (-39), 3) := by decide +kernel
theorem dX4_clothRank_53 : decode cX4_clothRank 53 = .ok (.iload_n 3, 1) := by decide +kernel
theorem dX4_clothRank_54 : decode cX4_clothRank 54 = .ok (.ireturn, 1) := by decide +kernel
theorem dX5_init_0 : decode cX5_init 0 = .ok (.aload_n 0, 1) := by decide +kernel
theorem dX5_init_1 : decode cX5_init 1 = .ok (.invokespecial 3, 3) := by decide +kernel
theorem dX5_init_4 : decode cX5_init 4 = .ok (.aload_n 0, 1) := by decide +kernel
theorem dX5_init_5 : decode cX5_init 5 = .ok (.bipush 80, 2) := by decide +kernel
theorem dX5_init_7 : decode cX5_init 7 = .ok (.newarray .char, 2) := by decide +kernel
theorem dX5_init_9 : decode cX5_init 9 = .ok (.putfield 9, 3) := by decide +kernel
theorem dX5_init_12 : decode cX5_init 12 = .ok (.aload_n 0, 1) := by decide +kernel
theorem dX5_init_13 : decode cX5_init 13 = .ok (.iconst 0, 1) := by decide +kernel
theorem dX5_init_14 : decode cX5_init 14 = .ok (.putfield 15, 3) := by decide +kernel
theorem dX5_init_17 : decode cX5_init 17 = .ok (.return_, 1) := by decide +kernel
theorem dX5_charactersIn_0 : decode cX5_charactersIn 0 = .ok (.lload_n 0, 1) := by decide +kernel
theorem dX5_charactersIn_1 : decode cX5_charactersIn 1 = .ok (.lstore_n 2, 1) := by decide +kernel
theorem dX5_charactersIn_2 : decode cX5_charactersIn 2 = .ok (.iconst 0, 1) := by decide +kernel
theorem dX5_charactersIn_3 : decode cX5_charactersIn 3 = .ok (.istore 4, 2) := by decide +kernel
theorem dX5_charactersIn_5 : decode cX5_charactersIn 5 = .ok (.iconst 0, 1) := by decide +kernel
theorem dX5_charactersIn_6 : decode cX5_charactersIn 6 = .ok (.istore 5, 2) := by decide +kernel
theorem dX5_charactersIn_8 : decode cX5_charactersIn 8 = .ok (.iload 5, 2) := by decide +kernel
theorem dX5_charactersIn_10 : decode cX5_charactersIn 10 = .ok (.bipush 8, 2) := by decide +kernel
theorem dX5_charactersIn_12 : decode cX5_charactersIn 12 = .ok (.if_icmp .ge 47, 3) := by decide +kernel
theorem dX5_charactersIn_15 : decode cX5_charactersIn 15 = .ok (.lload_n 2, 1) := by decide +kernel
theorem dX5_charactersIn_16 : decode cX5_charactersIn 16 = .ok (.lconst 0, 1) := by decide +kernel
theorem dX5_charactersIn_17 : decode cX5_charactersIn 17 = .ok (.lcmp, 1) := by decide +kernel
theorem dX5_charactersIn_18 : decode cX5_charactersIn 18 = .ok (.ifCond .eq 41, 3) := by decide +kernel
theorem dX5_charactersIn_21 : decode cX5_charactersIn 21 = .ok (.lload_n 2, 1) := by decide +kernel
theorem dX5_charactersIn_22 : decode cX5_charactersIn 22 = .ok (.ldc2_w 19, 3) := by decide +kernel
theorem dX5_charactersIn_25 : decode cX5_charactersIn 25 = .ok (.land, 1) := by decide +kernel
theorem dX5_charactersIn_26 : decode cX5_charactersIn 26 = .ok (.l2i, 1) := by decide +kernel
theorem dX5_charactersIn_27 : decode cX5_charactersIn 27 = .ok (.istore 6, 2) := by decide +kernel
theorem dX5_charactersIn_29 : decode cX5_charactersIn 29 = .ok (.iload 6, 2) := by decide +kernel
theorem dX5_charactersIn_31 : decode cX5_charactersIn 31 = .ok (.bipush 33, 2) := by decide +kernel
theorem dX5_charactersIn_33 : decode cX5_charactersIn 33 = .ok (.if_icmp .lt 10, 3) := by decide +kernel
theorem dX5_charactersIn_36 : decode cX5_charactersIn 36 = .ok (.iload 6, 2) := by decide +kernel
theorem dX5_charactersIn_38 : decode cX5_charactersIn 38 = .ok (.bipush 126, 2) := by decide +kernel
theorem dX5_charactersIn_40 : decode cX5_charactersIn 40 = .ok (.if_icmp .le 5, 3) := by decide +kernel
theorem dX5_charactersIn_43 : decode cX5_charactersIn 43 = .ok (.iconst 0, 1) := by decide +kernel
theorem dX5_charactersIn_44 : decode cX5_charactersIn 44 = .ok (.ireturn, 1) := by decide +kernel
theorem dX5_charactersIn_45 : decode cX5_charactersIn 45 = .ok (.lload_n 2, 1) := by decide +kernel
theorem dX5_charactersIn_46 : decode cX5_charactersIn 46 = .ok (.bipush 8, 2) := by decide +kernel
theorem dX5_charactersIn_48 : decode cX5_charactersIn 48 = .ok (.lushr, 1) := by decide +kernel
theorem dX5_charactersIn_49 : decode cX5_charactersIn 49 = .ok (.lstore_n 2, 1) := by decide +kernel
theorem dX5_charactersIn_50 : decode cX5_charactersIn 50 = .ok (.iinc 4 1, 3) := by decide +kernel
theorem dX5_charactersIn_53 : decode cX5_charactersIn 53 = .ok (.iinc 5 1, 3) := by decide +kernel
theorem dX5_charactersIn_56 : decode cX5_charactersIn 56 = .ok (.goto (-48), 3) := by decide +kernel
theorem dX5_charactersIn_59 : decode cX5_charactersIn 59 = .ok (.iload 4, 2) := by decide +kernel
theorem dX5_charactersIn_61 : decode cX5_charactersIn 61 = .ok (.ireturn, 1) := by decide +kernel
theorem dX5_append_0 : decode cX5_append 0 = .ok (.iload_n 3, 1) := by decide +kernel
theorem dX5_append_1 : decode cX5_append 1 = .ok (.ifCond .lt 20, 3) := by decide +kernel
theorem dX5_append_4 : decode cX5_append 4 = .ok (.iload_n 3, 1) := by decide +kernel
theorem dX5_append_5 : decode cX5_append 5 = .ok (.bipush 8, 2) := by decide +kernel
theorem dX5_append_7 : decode cX5_append 7 = .ok (.if_icmp .gt 14, 3) := by decide +kernel
theorem dX5_append_10 : decode cX5_append 10 = .ok (.iload_n 3, 1) := by decide +kernel
theorem dX5_append_11 : decode cX5_append 11 = .ok (.bipush 80, 2) := by decide +kernel
theorem dX5_append_13 : decode cX5_append 13 = .ok (.aload_n 0, 1) := by decide +kernel
theorem dX5_append_14 : decode cX5_append 14 = .ok (.getfield 15, 3) := by decide +kernel
theorem dX5_append_17 : decode cX5_append 17 = .ok (.isub, 1) := by decide +kernel
theorem dX5_append_18 : decode cX5_append 18 = .ok (.if_icmp .le 4, 3) := by decide +kernel
theorem dX5_append_21 : decode cX5_append 21 = .ok (.return_, 1) := by decide +kernel
theorem dX5_append_22 : decode cX5_append 22 = .ok (.iconst 0, 1) := by decide +kernel
theorem dX5_append_23 : decode cX5_append 23 = .ok (.istore 4, 2) := by decide +kernel
theorem dX5_append_25 : decode cX5_append 25 = .ok (.iload 4, 2) := by decide +kernel
theorem dX5_append_27 : decode cX5_append 27 = .ok (.iload_n 3, 1) := by decide +kernel
theorem dX5_append_28 : decode cX5_append 28 = .ok (.if_icmp .ge 38, 3) := by decide +kernel
theorem dX5_append_31 : decode cX5_append 31 = .ok (.aload_n 0, 1) := by decide +kernel
theorem dX5_append_32 : decode cX5_append 32 = .ok (.getfield 9, 3) := by decide +kernel
theorem dX5_append_35 : decode cX5_append 35 = .ok (.aload_n 0, 1) := by decide +kernel
theorem dX5_append_36 : decode cX5_append 36 = .ok (.getfield 15, 3) := by decide +kernel
theorem dX5_append_39 : decode cX5_append 39 = .ok (.iload 4, 2) := by decide +kernel
theorem dX5_append_41 : decode cX5_append 41 = .ok (.iadd, 1) := by decide +kernel
theorem dX5_append_42 : decode cX5_append 42 = .ok (.lload_n 1, 1) := by decide +kernel
theorem dX5_append_43 : decode cX5_append 43 = .ok (.bipush 8, 2) := by decide +kernel
theorem dX5_append_45 : decode cX5_append 45 = .ok (.iload_n 3, 1) := by decide +kernel
theorem dX5_append_46 : decode cX5_append 46 = .ok (.iconst 1, 1) := by decide +kernel
theorem dX5_append_47 : decode cX5_append 47 = .ok (.isub, 1) := by decide +kernel
theorem dX5_append_48 : decode cX5_append 48 = .ok (.iload 4, 2) := by decide +kernel
theorem dX5_append_50 : decode cX5_append 50 = .ok (.isub, 1) := by decide +kernel
theorem dX5_append_51 : decode cX5_append 51 = .ok (.imul, 1) := by decide +kernel
theorem dX5_append_52 : decode cX5_append 52 = .ok (.lushr, 1) := by decide +kernel
theorem dX5_append_53 : decode cX5_append 53 = .ok (.ldc2_w 19, 3) := by decide +kernel
theorem dX5_append_56 : decode cX5_append 56 = .ok (.land, 1) := by decide +kernel
theorem dX5_append_57 : decode cX5_append 57 = .ok (.l2i, 1) := by decide +kernel
theorem dX5_append_58 : decode cX5_append 58 = .ok (.i2c, 1) := by decide +kernel
theorem dX5_append_59 : decode cX5_append 59 = .ok (.castore, 1) := by decide +kernel
theorem dX5_append_60 : decode cX5_append 60 = .ok (.iinc 4 1, 3) := by decide +kernel
theorem dX5_append_63 : decode cX5_append 63 = .ok (.goto (-38), 3) := by decide +kernel
theorem dX5_append_66 : decode cX5_append 66 = .ok (.aload_n 0, 1) := by decide +kernel
theorem dX5_append_67 : decode cX5_append 67 = .ok (.dup, 1) := by decide +kernel
theorem dX5_append_68 : decode cX5_append 68 = .ok (.getfield 15, 3) := by decide +kernel
theorem dX5_append_71 : decode cX5_append 71 = .ok (.iload_n 3, 1) := by decide +kernel
theorem dX5_append_72 : decode cX5_append 72 = .ok (.iadd, 1) := by decide +kernel
theorem dX5_append_73 : decode cX5_append 73 = .ok (.putfield 15, 3) := by decide +kernel
theorem dX5_append_76 : decode cX5_append 76 = .ok (.return_, 1) := by decide +kernel
theorem dX6_init_0 : decode cX6_init 0 = .ok (.aload_n 0, 1) := by decide +kernel
theorem dX6_init_1 : decode cX6_init 1 = .ok (.invokespecial 3, 3) := by decide +kernel
theorem dX6_init_4 : decode cX6_init 4 = .ok (.aload_n 0, 1) := by decide +kernel
theorem dX6_init_5 : decode cX6_init 5 = .ok (.bipush 80, 2) := by decide +kernel
theorem dX6_init_7 : decode cX6_init 7 = .ok (.newarray .char, 2) := by decide +kernel
theorem dX6_init_9 : decode cX6_init 9 = .ok (.putfield 9, 3) := by decide +kernel
theorem dX6_init_12 : decode cX6_init 12 = .ok (.aload_n 0, 1) := by decide +kernel
theorem dX6_init_13 : decode cX6_init 13 = .ok (.bipush 80, 2) := by decide +kernel
theorem dX6_init_15 : decode cX6_init 15 = .ok (.newarray .int, 2) := by decide +kernel
theorem dX6_init_17 : decode cX6_init 17 = .ok (.putfield 15, 3) := by decide +kernel
theorem dX6_init_20 : decode cX6_init 20 = .ok (.aload_n 0, 1) := by decide +kernel
theorem dX6_init_21 : decode cX6_init 21 = .ok (.bipush 80, 2) := by decide +kernel
theorem dX6_init_23 : decode cX6_init 23 = .ok (.newarray .int, 2) := by decide +kernel
theorem dX6_init_25 : decode cX6_init 25 = .ok (.putfield 19, 3) := by decide +kernel
theorem dX6_init_28 : decode cX6_init 28 = .ok (.aload_n 0, 1) := by decide +kernel
theorem dX6_init_29 : decode cX6_init 29 = .ok (.bipush 80, 2) := by decide +kernel
theorem dX6_init_31 : decode cX6_init 31 = .ok (.newarray .int, 2) := by decide +kernel
theorem dX6_init_33 : decode cX6_init 33 = .ok (.putfield 22, 3) := by decide +kernel
theorem dX6_init_36 : decode cX6_init 36 = .ok (.aload_n 0, 1) := by decide +kernel
theorem dX6_init_37 : decode cX6_init 37 = .ok (.bipush 80, 2) := by decide +kernel
theorem dX6_init_39 : decode cX6_init 39 = .ok (.newarray .int, 2) := by decide +kernel
theorem dX6_init_41 : decode cX6_init 41 = .ok (.putfield 25, 3) := by decide +kernel
theorem dX6_init_44 : decode cX6_init 44 = .ok (.aload_n 0, 1) := by decide +kernel
theorem dX6_init_45 : decode cX6_init 45 = .ok (.iconst 3, 1) := by decide +kernel
theorem dX6_init_46 : decode cX6_init 46 = .ok (.newarray .int, 2) := by decide +kernel
theorem dX6_init_48 : decode cX6_init 48 = .ok (.putfield 28, 3) := by decide +kernel
theorem dX6_init_51 : decode cX6_init 51 = .ok (.return_, 1) := by decide +kernel
theorem dX6_faultOf_0 : decode cX6_faultOf 0 = .ok (.aload_n 0, 1) := by decide +kernel
theorem dX6_faultOf_1 : decode cX6_faultOf 1 = .ok (.iconst 0, 1) := by decide +kernel
theorem dX6_faultOf_2 : decode cX6_faultOf 2 = .ok (.putfield 31, 3) := by decide +kernel
theorem dX6_faultOf_5 : decode cX6_faultOf 5 = .ok (.aload_n 0, 1) := by decide +kernel
theorem dX6_faultOf_6 : decode cX6_faultOf 6 = .ok (.iconst 0, 1) := by decide +kernel
theorem dX6_faultOf_7 : decode cX6_faultOf 7 = .ok (.putfield 35, 3) := by decide +kernel
theorem dX6_faultOf_10 : decode cX6_faultOf 10 = .ok (.aload_n 0, 1) := by decide +kernel
theorem dX6_faultOf_11 : decode cX6_faultOf 11 = .ok (.iconst 0, 1) := by decide +kernel
theorem dX6_faultOf_12 : decode cX6_faultOf 12 = .ok (.putfield 38, 3) := by decide +kernel
theorem dX6_faultOf_15 : decode cX6_faultOf 15 = .ok (.aload_n 0, 1) := by decide +kernel
theorem dX6_faultOf_16 : decode cX6_faultOf 16 = .ok (.iconst 0, 1) := by decide +kernel
theorem dX6_faultOf_17 : decode cX6_faultOf 17 = .ok (.putfield 41, 3) := by decide +kernel
theorem dX6_faultOf_20 : decode cX6_faultOf 20 = .ok (.aload_n 0, 1) := by decide +kernel
theorem dX6_faultOf_21 : decode cX6_faultOf 21 = .ok (.iconst 0, 1) := by decide +kernel
theorem dX6_faultOf_22 : decode cX6_faultOf 22 = .ok (.putfield 44, 3) := by decide +kernel
theorem dX6_faultOf_25 : decode cX6_faultOf 25 = .ok (.aload_n 0, 1) := by decide +kernel
theorem dX6_faultOf_26 : decode cX6_faultOf 26 = .ok (.iconst 0, 1) := by decide +kernel
theorem dX6_faultOf_27 : decode cX6_faultOf 27 = .ok (.putfield 47, 3) := by decide +kernel
theorem dX6_faultOf_30 : decode cX6_faultOf 30 = .ok (.aload_n 0, 1) := by decide +kernel
theorem dX6_faultOf_31 : decode cX6_faultOf 31 = .ok (.iconst 0, 1) := by decide +kernel
theorem dX6_faultOf_32 : decode cX6_faultOf 32 = .ok (.putfield 50, 3) := by decide +kernel
theorem dX6_faultOf_35 : decode cX6_faultOf 35 = .ok (.aload_n 1, 1) := by decide +kernel
theorem dX6_faultOf_36 : decode cX6_faultOf 36 = .ok (.getfield 53, 3) := by decide +kernel
theorem dX6_faultOf_39 : decode cX6_faultOf 39 = .ok (.bipush 80, 2) := by decide +kernel
theorem dX6_faultOf_41 : decode cX6_faultOf 41 = .ok (.invokestatic 56, 3) := by decide +kernel
theorem dX6_faultOf_44 : decode cX6_faultOf 44 = .ok (.istore_n 2, 1) := by decide +kernel
theorem dX6_faultOf_45 : decode cX6_faultOf 45 = .ok (.iconst 0, 1) := by decide +kernel
theorem dX6_faultOf_46 : decode cX6_faultOf 46 = .ok (.istore_n 3, 1) := by decide +kernel
theorem dX6_faultOf_47 : decode cX6_faultOf 47 = .ok (.iload_n 3, 1) := by decide +kernel
theorem dX6_faultOf_48 : decode cX6_faultOf 48 = .ok (.iload_n 2, 1) := by decide +kernel
theorem dX6_faultOf_49 : decode cX6_faultOf 49 = .ok (.if_icmp .ge 44, 3) := by decide +kernel
theorem dX6_faultOf_52 : decode cX6_faultOf 52 = .ok (.aload_n 0, 1) := by decide +kernel
theorem dX6_faultOf_53 : decode cX6_faultOf 53 = .ok (.aload_n 1, 1) := by decide +kernel
theorem dX6_faultOf_54 : decode cX6_faultOf 54 = .ok (.getfield 62, 3) := by decide +kernel
theorem dX6_faultOf_57 : decode cX6_faultOf 57 = .ok (.iload_n 3, 1) := by decide +kernel
theorem dX6_faultOf_58 : decode cX6_faultOf 58 = .ok (.caload, 1) := by decide +kernel
theorem dX6_faultOf_59 : decode cX6_faultOf 59 = .ok (.iload_n 3, 1) := by decide +kernel
theorem dX6_faultOf_60 : decode cX6_faultOf 60 = .ok (.invokevirtual 63, 3) := by decide +kernel
theorem dX6_faultOf_63 : decode cX6_faultOf 63 = .ok (.ifCond .ne 5, 3) := by decide +kernel
theorem dX6_faultOf_66 : decode cX6_faultOf 66 = .ok (.iload_n 3, 1) := by decide +kernel
theorem dX6_faultOf_67 : decode cX6_faultOf 67 = .ok (.ireturn, 1) := by decide +kernel
theorem dX6_faultOf_68 : decode cX6_faultOf 68 = .ok (.aload_n 0, 1) := by decide +kernel
theorem dX6_faultOf_69 : decode cX6_faultOf 69 = .ok (.getfield 9, 3) := by decide +kernel
theorem dX6_faultOf_72 : decode cX6_faultOf 72 = .ok (.iload_n 3, 1) := by decide +kernel
theorem dX6_faultOf_73 : decode cX6_faultOf 73 = .ok (.aload_n 1, 1) := by decide +kernel
theorem dX6_faultOf_74 : decode cX6_faultOf 74 = .ok (.getfield 62, 3) := by decide +kernel
theorem dX6_faultOf_77 : decode cX6_faultOf 77 = .ok (.iload_n 3, 1) := by decide +kernel
theorem dX6_faultOf_78 : decode cX6_faultOf 78 = .ok (.caload, 1) := by decide +kernel
theorem dX6_faultOf_79 : decode cX6_faultOf 79 = .ok (.castore, 1) := by decide +kernel
theorem dX6_faultOf_80 : decode cX6_faultOf 80 = .ok (.aload_n 0, 1) := by decide +kernel
theorem dX6_faultOf_81 : decode cX6_faultOf 81 = .ok (.iload_n 3, 1) := by decide +kernel
theorem dX6_faultOf_82 : decode cX6_faultOf 82 = .ok (.iconst 1, 1) := by decide +kernel
theorem dX6_faultOf_83 : decode cX6_faultOf 83 = .ok (.iadd, 1) := by decide +kernel
theorem dX6_faultOf_84 : decode cX6_faultOf 84 = .ok (.putfield 31, 3) := by decide +kernel
theorem dX6_faultOf_87 : decode cX6_faultOf 87 = .ok (.iinc 3 1, 3) := by decide +kernel
theorem dX6_faultOf_90 : decode cX6_faultOf 90 = .ok (.goto (-43), 3) := by decide +kernel
theorem dX6_faultOf_93 : decode cX6_faultOf 93 = .ok (.aload_n 0, 1) := by decide +kernel
theorem dX6_faultOf_94 : decode cX6_faultOf 94 = .ok (.getfield 44, 3) := by decide +kernel
theorem dX6_faultOf_97 : decode cX6_faultOf 97 = .ok (.ifCond .ne 23, 3) := by decide +kernel
theorem dX6_faultOf_100 : decode cX6_faultOf 100 = .ok (.aload_n 0, 1) := by decide +kernel
theorem dX6_faultOf_101 : decode cX6_faultOf 101 = .ok (.getfield 50, 3) := by decide +kernel
theorem dX6_faultOf_104 : decode cX6_faultOf 104 = .ok (.iconst 1, 1) := by decide +kernel
theorem dX6_faultOf_105 : decode cX6_faultOf 105 = .ok (.if_icmp .eq 11, 3) := by decide +kernel
theorem dX6_faultOf_108 : decode cX6_faultOf 108 = .ok (.aload_n 0, 1) := by decide +kernel
theorem dX6_faultOf_109 : decode cX6_faultOf 109 = .ok (.getfield 50, 3) := by decide +kernel
theorem dX6_faultOf_112 : decode cX6_faultOf 112 = .ok (.iconst 2, 1) := by decide +kernel
theorem dX6_faultOf_113 : decode cX6_faultOf 113 = .ok (.if_icmp .ne 7, 3) := by decide +kernel
theorem dX6_faultOf_116 : decode cX6_faultOf 116 = .ok (.iconst 1, 1) := by decide +kernel
theorem dX6_faultOf_117 : decode cX6_faultOf 117 = .ok (.goto 4, 3) := by decide +kernel
theorem dX6_faultOf_120 : decode cX6_faultOf 120 = .ok (.iconst 0, 1) := by decide +kernel
theorem dX6_faultOf_121 : decode cX6_faultOf 121 = .ok (.istore_n 3, 1) := by decide +kernel
theorem dX6_faultOf_122 : decode cX6_faultOf 122 = .ok (.iload_n 3, 1) := by decide +kernel
theorem dX6_faultOf_123 : decode cX6_faultOf 123 = .ok (.ifCond .eq 8, 3) := by decide +kernel
theorem dX6_faultOf_126 : decode cX6_faultOf 126 = .ok (.bipush (-6), 2) := by decide +kernel
theorem dX6_faultOf_128 : decode cX6_faultOf 128 = .ok (.goto 4, 3) := by decide +kernel
theorem dX6_faultOf_131 : decode cX6_faultOf 131 = .ok (.iload_n 2, 1) := by decide +kernel
theorem dX6_faultOf_132 : decode cX6_faultOf 132 = .ok (.ireturn, 1) := by decide +kernel
theorem dX6_readText_0 : decode cX6_readText 0 = .ok (.new 67, 3) := by decide +kernel
theorem dX6_readText_3 : decode cX6_readText 3 = .ok (.dup, 1) := by decide +kernel
theorem dX6_readText_4 : decode cX6_readText 4 = .ok (.aload_n 0, 1) := by decide +kernel
theorem dX6_readText_5 : decode cX6_readText 5 = .ok (.invokespecial 69, 3) := by decide +kernel
theorem dX6_readText_8 : decode cX6_readText 8 = .ok (.areturn, 1) := by decide +kernel
theorem dX6_takes_0 : decode cX6_takes 0 = .ok (.aload_n 0, 1) := by decide +kernel
theorem dX6_takes_1 : decode cX6_takes 1 = .ok (.getfield 50, 3) := by decide +kernel
theorem dX6_takes_4 : decode cX6_takes 4 = .ok (.tableswitch 172 0 5 #[40, 47, 68, 103, 109, 136], 40) := by decide +kernel
theorem dX6_takes_44 : decode cX6_takes 44 = .ok (.aload_n 0, 1) := by decide +kernel
theorem dX6_takes_45 : decode cX6_takes 45 = .ok (.iload_n 1, 1) := by decide +kernel
theorem dX6_takes_46 : decode cX6_takes 46 = .ok (.iload_n 2, 1) := by decide +kernel
theorem dX6_takes_47 : decode cX6_takes 47 = .ok (.invokevirtual 72, 3) := by decide +kernel
theorem dX6_takes_50 : decode cX6_takes 50 = .ok (.ireturn, 1) := by decide +kernel
theorem dX6_takes_51 : decode cX6_takes 51 = .ok (.iload_n 1, 1) := by decide +kernel
theorem dX6_takes_52 : decode cX6_takes 52 = .ok (.bipush 41, 2) := by decide +kernel
theorem dX6_takes_54 : decode cX6_takes 54 = .ok (.if_icmp .ne 11, 3) := by decide +kernel
theorem dX6_takes_57 : decode cX6_takes 57 = .ok (.aload_n 0, 1) := by decide +kernel
theorem dX6_takes_58 : decode cX6_takes 58 = .ok (.iload_n 2, 1) := by decide +kernel
theorem dX6_takes_59 : decode cX6_takes 59 = .ok (.invokevirtual 75, 3) := by decide +kernel
theorem dX6_takes_62 : decode cX6_takes 62 = .ok (.goto 9, 3) := by decide +kernel
theorem dX6_takes_65 : decode cX6_takes 65 = .ok (.aload_n 0, 1) := by decide +kernel
theorem dX6_takes_66 : decode cX6_takes 66 = .ok (.iload_n 1, 1) := by decide +kernel
theorem dX6_takes_67 : decode cX6_takes 67 = .ok (.iload_n 2, 1) := by decide +kernel
theorem dX6_takes_68 : decode cX6_takes 68 = .ok (.invokevirtual 72, 3) := by decide +kernel
theorem dX6_takes_71 : decode cX6_takes 71 = .ok (.ireturn, 1) := by decide +kernel
theorem dX6_takes_72 : decode cX6_takes 72 = .ok (.iload_n 1, 1) := by decide +kernel
theorem dX6_takes_73 : decode cX6_takes 73 = .ok (.invokestatic 79, 3) := by decide +kernel
theorem dX6_takes_76 : decode cX6_takes 76 = .ok (.ifCond .eq 10, 3) := by decide +kernel
theorem dX6_takes_79 : decode cX6_takes 79 = .ok (.aload_n 0, 1) := by decide +kernel
theorem dX6_takes_80 : decode cX6_takes 80 = .ok (.iload_n 1, 1) := by decide +kernel
theorem dX6_takes_81 : decode cX6_takes 81 = .ok (.iload_n 2, 1) := by decide +kernel
theorem dX6_takes_82 : decode cX6_takes 82 = .ok (.invokevirtual 82, 3) := by decide +kernel
theorem dX6_takes_85 : decode cX6_takes 85 = .ok (.ireturn, 1) := by decide +kernel
theorem dX6_takes_86 : decode cX6_takes 86 = .ok (.iload_n 1, 1) := by decide +kernel
theorem dX6_takes_87 : decode cX6_takes 87 = .ok (.bipush 41, 2) := by decide +kernel
theorem dX6_takes_89 : decode cX6_takes 89 = .ok (.if_icmp .ne 11, 3) := by decide +kernel
theorem dX6_takes_92 : decode cX6_takes 92 = .ok (.aload_n 0, 1) := by decide +kernel
theorem dX6_takes_93 : decode cX6_takes 93 = .ok (.iload_n 2, 1) := by decide +kernel
theorem dX6_takes_94 : decode cX6_takes 94 = .ok (.invokevirtual 75, 3) := by decide +kernel
theorem dX6_takes_97 : decode cX6_takes 97 = .ok (.goto 9, 3) := by decide +kernel
theorem dX6_takes_100 : decode cX6_takes 100 = .ok (.aload_n 0, 1) := by decide +kernel
theorem dX6_takes_101 : decode cX6_takes 101 = .ok (.iload_n 1, 1) := by decide +kernel
theorem dX6_takes_102 : decode cX6_takes 102 = .ok (.iload_n 2, 1) := by decide +kernel
theorem dX6_takes_103 : decode cX6_takes 103 = .ok (.invokevirtual 72, 3) := by decide +kernel
theorem dX6_takes_106 : decode cX6_takes 106 = .ok (.ireturn, 1) := by decide +kernel
theorem dX6_takes_107 : decode cX6_takes 107 = .ok (.aload_n 0, 1) := by decide +kernel
theorem dX6_takes_108 : decode cX6_takes 108 = .ok (.iload_n 1, 1) := by decide +kernel
theorem dX6_takes_109 : decode cX6_takes 109 = .ok (.invokevirtual 85, 3) := by decide +kernel
theorem dX6_takes_112 : decode cX6_takes 112 = .ok (.ireturn, 1) := by decide +kernel
theorem dX6_takes_113 : decode cX6_takes 113 = .ok (.iload_n 1, 1) := by decide +kernel
theorem dX6_takes_114 : decode cX6_takes 114 = .ok (.bipush 48, 2) := by decide +kernel
theorem dX6_takes_116 : decode cX6_takes 116 = .ok (.if_icmp .lt 22, 3) := by decide +kernel
theorem dX6_takes_119 : decode cX6_takes 119 = .ok (.iload_n 1, 1) := by decide +kernel
theorem dX6_takes_120 : decode cX6_takes 120 = .ok (.bipush 54, 2) := by decide +kernel
theorem dX6_takes_122 : decode cX6_takes 122 = .ok (.if_icmp .ge 16, 3) := by decide +kernel
theorem dX6_takes_125 : decode cX6_takes 125 = .ok (.aload_n 0, 1) := by decide +kernel
theorem dX6_takes_126 : decode cX6_takes 126 = .ok (.iload_n 1, 1) := by decide +kernel
theorem dX6_takes_127 : decode cX6_takes 127 = .ok (.iload_n 2, 1) := by decide +kernel
theorem dX6_takes_128 : decode cX6_takes 128 = .ok (.invokevirtual 88, 3) := by decide +kernel
theorem dX6_takes_131 : decode cX6_takes 131 = .ok (.ifCond .eq 7, 3) := by decide +kernel
theorem dX6_takes_134 : decode cX6_takes 134 = .ok (.iconst 1, 1) := by decide +kernel
theorem dX6_takes_135 : decode cX6_takes 135 = .ok (.goto 4, 3) := by decide +kernel
theorem dX6_takes_138 : decode cX6_takes 138 = .ok (.iconst 0, 1) := by decide +kernel
theorem dX6_takes_139 : decode cX6_takes 139 = .ok (.ireturn, 1) := by decide +kernel
theorem dX6_takes_140 : decode cX6_takes 140 = .ok (.iload_n 1, 1) := by decide +kernel
theorem dX6_takes_141 : decode cX6_takes 141 = .ok (.bipush 48, 2) := by decide +kernel
theorem dX6_takes_143 : decode cX6_takes 143 = .ok (.if_icmp .lt 9, 3) := by decide +kernel
theorem dX6_takes_146 : decode cX6_takes 146 = .ok (.iload_n 1, 1) := by decide +kernel
theorem dX6_takes_147 : decode cX6_takes 147 = .ok (.bipush 58, 2) := by decide +kernel
theorem dX6_takes_149 : decode cX6_takes 149 = .ok (.if_icmp .lt 5, 3) := by decide +kernel
theorem dX6_takes_152 : decode cX6_takes 152 = .ok (.iconst 0, 1) := by decide +kernel
theorem dX6_takes_153 : decode cX6_takes 153 = .ok (.ireturn, 1) := by decide +kernel
theorem dX6_takes_154 : decode cX6_takes 154 = .ok (.aload_n 0, 1) := by decide +kernel
theorem dX6_takes_155 : decode cX6_takes 155 = .ok (.dup, 1) := by decide +kernel
theorem dX6_takes_156 : decode cX6_takes 156 = .ok (.getfield 38, 3) := by decide +kernel
theorem dX6_takes_159 : decode cX6_takes 159 = .ok (.iconst 1, 1) := by decide +kernel
theorem dX6_takes_160 : decode cX6_takes 160 = .ok (.iload_n 1, 1) := by decide +kernel
theorem dX6_takes_161 : decode cX6_takes 161 = .ok (.bipush 48, 2) := by decide +kernel
theorem dX6_takes_163 : decode cX6_takes 163 = .ok (.isub, 1) := by decide +kernel
theorem dX6_takes_164 : decode cX6_takes 164 = .ok (.ishl, 1) := by decide +kernel
theorem dX6_takes_165 : decode cX6_takes 165 = .ok (.ior, 1) := by decide +kernel
theorem dX6_takes_166 : decode cX6_takes 166 = .ok (.putfield 38, 3) := by decide +kernel
theorem dX6_takes_169 : decode cX6_takes 169 = .ok (.aload_n 0, 1) := by decide +kernel
theorem dX6_takes_170 : decode cX6_takes 170 = .ok (.iload_n 1, 1) := by decide +kernel
theorem dX6_takes_171 : decode cX6_takes 171 = .ok (.iload_n 2, 1) := by decide +kernel
theorem dX6_takes_172 : decode cX6_takes 172 = .ok (.invokevirtual 88, 3) := by decide +kernel
theorem dX6_takes_175 : decode cX6_takes 175 = .ok (.ireturn, 1) := by decide +kernel
theorem dX6_takes_176 : decode cX6_takes 176 = .ok (.aload_n 0, 1) := by decide +kernel
theorem dX6_takes_177 : decode cX6_takes 177 = .ok (.iload_n 1, 1) := by decide +kernel
theorem dX6_takes_178 : decode cX6_takes 178 = .ok (.iload_n 2, 1) := by decide +kernel
theorem dX6_takes_179 : decode cX6_takes 179 = .ok (.invokevirtual 91, 3) := by decide +kernel
theorem dX6_takes_182 : decode cX6_takes 182 = .ok (.ireturn, 1) := by decide +kernel
theorem dX6_takesStep_0 : decode cX6_takesStep 0 = .ok (.iload_n 1, 1) := by decide +kernel
theorem dX6_takesStep_1 : decode cX6_takesStep 1 = .ok (.lookupswitch 100 #[(99, 67), (107, 75), (108, 91), (115, 91), (119, 59), (120, 83)], 59) := by decide +kernel
theorem dX6_takesStep_60 : decode cX6_takesStep 60 = .ok (.aload_n 0, 1) := by decide +kernel
theorem dX6_takesStep_61 : decode cX6_takesStep 61 = .ok (.iconst 2, 1) := by decide +kernel
theorem dX6_takesStep_62 : decode cX6_takesStep 62 = .ok (.putfield 50, 3) := by decide +kernel
theorem dX6_takesStep_65 : decode cX6_takesStep 65 = .ok (.goto 38, 3) := by decide +kernel
theorem dX6_takesStep_68 : decode cX6_takesStep 68 = .ok (.aload_n 0, 1) := by decide +kernel
theorem dX6_takesStep_69 : decode cX6_takesStep 69 = .ok (.iconst 4, 1) := by decide +kernel
theorem dX6_takesStep_70 : decode cX6_takesStep 70 = .ok (.putfield 50, 3) := by decide +kernel
theorem dX6_takesStep_73 : decode cX6_takesStep 73 = .ok (.goto 30, 3) := by decide +kernel
theorem dX6_takesStep_76 : decode cX6_takesStep 76 = .ok (.aload_n 0, 1) := by decide +kernel
theorem dX6_takesStep_77 : decode cX6_takesStep 77 = .ok (.iconst 5, 1) := by decide +kernel
theorem dX6_takesStep_78 : decode cX6_takesStep 78 = .ok (.putfield 50, 3) := by decide +kernel
theorem dX6_takesStep_81 : decode cX6_takesStep 81 = .ok (.goto 22, 3) := by decide +kernel
theorem dX6_takesStep_84 : decode cX6_takesStep 84 = .ok (.aload_n 0, 1) := by decide +kernel
theorem dX6_takesStep_85 : decode cX6_takesStep 85 = .ok (.iconst 3, 1) := by decide +kernel
theorem dX6_takesStep_86 : decode cX6_takesStep 86 = .ok (.putfield 50, 3) := by decide +kernel
theorem dX6_takesStep_89 : decode cX6_takesStep 89 = .ok (.goto 14, 3) := by decide +kernel
theorem dX6_takesStep_92 : decode cX6_takesStep 92 = .ok (.aload_n 0, 1) := by decide +kernel
theorem dX6_takesStep_93 : decode cX6_takesStep 93 = .ok (.bipush 6, 2) := by decide +kernel
theorem dX6_takesStep_95 : decode cX6_takesStep 95 = .ok (.putfield 50, 3) := by decide +kernel
theorem dX6_takesStep_98 : decode cX6_takesStep 98 = .ok (.goto 5, 3) := by decide +kernel
theorem dX6_takesStep_101 : decode cX6_takesStep 101 = .ok (.iconst 0, 1) := by decide +kernel
theorem dX6_takesStep_102 : decode cX6_takesStep 102 = .ok (.ireturn, 1) := by decide +kernel
theorem dX6_takesStep_103 : decode cX6_takesStep 103 = .ok (.aload_n 0, 1) := by decide +kernel
theorem dX6_takesStep_104 : decode cX6_takesStep 104 = .ok (.iload_n 2, 1) := by decide +kernel
theorem dX6_takesStep_105 : decode cX6_takesStep 105 = .ok (.putfield 47, 3) := by decide +kernel
theorem dX6_takesStep_108 : decode cX6_takesStep 108 = .ok (.aload_n 0, 1) := by decide +kernel
theorem dX6_takesStep_109 : decode cX6_takesStep 109 = .ok (.getfield 15, 3) := by decide +kernel
theorem dX6_takesStep_112 : decode cX6_takesStep 112 = .ok (.iload_n 2, 1) := by decide +kernel
theorem dX6_takesStep_113 : decode cX6_takesStep 113 = .ok (.iconst 1, 1) := by decide +kernel
theorem dX6_takesStep_114 : decode cX6_takesStep 114 = .ok (.iastore, 1) := by decide +kernel
theorem dX6_takesStep_115 : decode cX6_takesStep 115 = .ok (.aload_n 0, 1) := by decide +kernel
theorem dX6_takesStep_116 : decode cX6_takesStep 116 = .ok (.getfield 19, 3) := by decide +kernel
theorem dX6_takesStep_119 : decode cX6_takesStep 119 = .ok (.iload_n 2, 1) := by decide +kernel
theorem dX6_takesStep_120 : decode cX6_takesStep 120 = .ok (.iconst 0, 1) := by decide +kernel
theorem dX6_takesStep_121 : decode cX6_takesStep 121 = .ok (.iastore, 1) := by decide +kernel
theorem dX6_takesStep_122 : decode cX6_takesStep 122 = .ok (.aload_n 0, 1) := by decide +kernel
theorem dX6_takesStep_123 : decode cX6_takesStep 123 = .ok (.getfield 22, 3) := by decide +kernel
theorem dX6_takesStep_126 : decode cX6_takesStep 126 = .ok (.iload_n 2, 1) := by decide +kernel
theorem dX6_takesStep_127 : decode cX6_takesStep 127 = .ok (.iload_n 2, 1) := by decide +kernel
theorem dX6_takesStep_128 : decode cX6_takesStep 128 = .ok (.iconst 1, 1) := by decide +kernel
theorem dX6_takesStep_129 : decode cX6_takesStep 129 = .ok (.iadd, 1) := by decide +kernel
theorem dX6_takesStep_130 : decode cX6_takesStep 130 = .ok (.iastore, 1) := by decide +kernel
theorem dX6_takesStep_131 : decode cX6_takesStep 131 = .ok (.aload_n 0, 1) := by decide +kernel
theorem dX6_takesStep_132 : decode cX6_takesStep 132 = .ok (.getfield 25, 3) := by decide +kernel
theorem dX6_takesStep_135 : decode cX6_takesStep 135 = .ok (.iload_n 2, 1) := by decide +kernel
theorem dX6_takesStep_136 : decode cX6_takesStep 136 = .ok (.iload_n 2, 1) := by decide +kernel
theorem dX6_takesStep_137 : decode cX6_takesStep 137 = .ok (.iconst 1, 1) := by decide +kernel
theorem dX6_takesStep_138 : decode cX6_takesStep 138 = .ok (.iadd, 1) := by decide +kernel
theorem dX6_takesStep_139 : decode cX6_takesStep 139 = .ok (.iastore, 1) := by decide +kernel
theorem dX6_takesStep_140 : decode cX6_takesStep 140 = .ok (.aload_n 0, 1) := by decide +kernel
theorem dX6_takesStep_141 : decode cX6_takesStep 141 = .ok (.dup, 1) := by decide +kernel
theorem dX6_takesStep_142 : decode cX6_takesStep 142 = .ok (.getfield 35, 3) := by decide +kernel
theorem dX6_takesStep_145 : decode cX6_takesStep 145 = .ok (.iconst 1, 1) := by decide +kernel
theorem dX6_takesStep_146 : decode cX6_takesStep 146 = .ok (.iadd, 1) := by decide +kernel
theorem dX6_takesStep_147 : decode cX6_takesStep 147 = .ok (.putfield 35, 3) := by decide +kernel
theorem dX6_takesStep_150 : decode cX6_takesStep 150 = .ok (.iconst 1, 1) := by decide +kernel
theorem dX6_takesStep_151 : decode cX6_takesStep 151 = .ok (.ireturn, 1) := by decide +kernel
theorem dX6_isCount_0 : decode cX6_isCount 0 = .ok (.iload_n 0, 1) := by decide +kernel
theorem dX6_isCount_1 : decode cX6_isCount 1 = .ok (.bipush 50, 2) := by decide +kernel
theorem dX6_isCount_3 : decode cX6_isCount 3 = .ok (.if_icmp .lt 13, 3) := by decide +kernel
theorem dX6_isCount_6 : decode cX6_isCount 6 = .ok (.iload_n 0, 1) := by decide +kernel
theorem dX6_isCount_7 : decode cX6_isCount 7 = .ok (.bipush 57, 2) := by decide +kernel
theorem dX6_isCount_9 : decode cX6_isCount 9 = .ok (.if_icmp .gt 7, 3) := by decide +kernel
theorem dX6_isCount_12 : decode cX6_isCount 12 = .ok (.iconst 1, 1) := by decide +kernel
theorem dX6_isCount_13 : decode cX6_isCount 13 = .ok (.goto 4, 3) := by decide +kernel
theorem dX6_isCount_16 : decode cX6_isCount 16 = .ok (.iconst 0, 1) := by decide +kernel
theorem dX6_isCount_17 : decode cX6_isCount 17 = .ok (.ireturn, 1) := by decide +kernel
theorem dX6_takesPickCount_0 : decode cX6_takesPickCount 0 = .ok (.aload_n 0, 1) := by decide +kernel
theorem dX6_takesPickCount_1 : decode cX6_takesPickCount 1 = .ok (.getfield 15, 3) := by decide +kernel
theorem dX6_takesPickCount_4 : decode cX6_takesPickCount 4 = .ok (.aload_n 0, 1) := by decide +kernel
theorem dX6_takesPickCount_5 : decode cX6_takesPickCount 5 = .ok (.getfield 47, 3) := by decide +kernel
theorem dX6_takesPickCount_8 : decode cX6_takesPickCount 8 = .ok (.iload_n 1, 1) := by decide +kernel
theorem dX6_takesPickCount_9 : decode cX6_takesPickCount 9 = .ok (.bipush 48, 2) := by decide +kernel
theorem dX6_takesPickCount_11 : decode cX6_takesPickCount 11 = .ok (.isub, 1) := by decide +kernel
theorem dX6_takesPickCount_12 : decode cX6_takesPickCount 12 = .ok (.iastore, 1) := by decide +kernel
theorem dX6_takesPickCount_13 : decode cX6_takesPickCount 13 = .ok (.aload_n 0, 1) := by decide +kernel
theorem dX6_takesPickCount_14 : decode cX6_takesPickCount 14 = .ok (.getfield 25, 3) := by decide +kernel
theorem dX6_takesPickCount_17 : decode cX6_takesPickCount 17 = .ok (.aload_n 0, 1) := by decide +kernel
theorem dX6_takesPickCount_18 : decode cX6_takesPickCount 18 = .ok (.getfield 47, 3) := by decide +kernel
theorem dX6_takesPickCount_21 : decode cX6_takesPickCount 21 = .ok (.iload_n 2, 1) := by decide +kernel
theorem dX6_takesPickCount_22 : decode cX6_takesPickCount 22 = .ok (.iconst 1, 1) := by decide +kernel
theorem dX6_takesPickCount_23 : decode cX6_takesPickCount 23 = .ok (.iadd, 1) := by decide +kernel
theorem dX6_takesPickCount_24 : decode cX6_takesPickCount 24 = .ok (.iastore, 1) := by decide +kernel
theorem dX6_takesPickCount_25 : decode cX6_takesPickCount 25 = .ok (.aload_n 0, 1) := by decide +kernel
theorem dX6_takesPickCount_26 : decode cX6_takesPickCount 26 = .ok (.iconst 1, 1) := by decide +kernel
theorem dX6_takesPickCount_27 : decode cX6_takesPickCount 27 = .ok (.putfield 50, 3) := by decide +kernel
theorem dX6_takesPickCount_30 : decode cX6_takesPickCount 30 = .ok (.iconst 1, 1) := by decide +kernel
theorem dX6_takesPickCount_31 : decode cX6_takesPickCount 31 = .ok (.ireturn, 1) := by decide +kernel
theorem dX6_takesPartCount_0 : decode cX6_takesPartCount 0 = .ok (.iload_n 1, 1) := by decide +kernel
theorem dX6_takesPartCount_1 : decode cX6_takesPartCount 1 = .ok (.invokestatic 79, 3) := by decide +kernel
theorem dX6_takesPartCount_4 : decode cX6_takesPartCount 4 = .ok (.ifCond .ne 5, 3) := by decide +kernel
theorem dX6_takesPartCount_7 : decode cX6_takesPartCount 7 = .ok (.iconst 0, 1) := by decide +kernel
theorem dX6_takesPartCount_8 : decode cX6_takesPartCount 8 = .ok (.ireturn, 1) := by decide +kernel
theorem dX6_takesPartCount_9 : decode cX6_takesPartCount 9 = .ok (.aload_n 0, 1) := by decide +kernel
theorem dX6_takesPartCount_10 : decode cX6_takesPartCount 10 = .ok (.getfield 15, 3) := by decide +kernel
theorem dX6_takesPartCount_13 : decode cX6_takesPartCount 13 = .ok (.aload_n 0, 1) := by decide +kernel
theorem dX6_takesPartCount_14 : decode cX6_takesPartCount 14 = .ok (.getfield 47, 3) := by decide +kernel
theorem dX6_takesPartCount_17 : decode cX6_takesPartCount 17 = .ok (.iload_n 1, 1) := by decide +kernel
theorem dX6_takesPartCount_18 : decode cX6_takesPartCount 18 = .ok (.bipush 48, 2) := by decide +kernel
theorem dX6_takesPartCount_20 : decode cX6_takesPartCount 20 = .ok (.isub, 1) := by decide +kernel
theorem dX6_takesPartCount_21 : decode cX6_takesPartCount 21 = .ok (.iastore, 1) := by decide +kernel
theorem dX6_takesPartCount_22 : decode cX6_takesPartCount 22 = .ok (.aload_n 0, 1) := by decide +kernel
theorem dX6_takesPartCount_23 : decode cX6_takesPartCount 23 = .ok (.bipush 6, 2) := by decide +kernel
theorem dX6_takesPartCount_25 : decode cX6_takesPartCount 25 = .ok (.putfield 50, 3) := by decide +kernel
theorem dX6_takesPartCount_28 : decode cX6_takesPartCount 28 = .ok (.iconst 1, 1) := by decide +kernel
theorem dX6_takesPartCount_29 : decode cX6_takesPartCount 29 = .ok (.ireturn, 1) := by decide +kernel
theorem dX6_takesDigit_0 : decode cX6_takesDigit 0 = .ok (.aload_n 0, 1) := by decide +kernel
theorem dX6_takesDigit_1 : decode cX6_takesDigit 1 = .ok (.getfield 19, 3) := by decide +kernel
theorem dX6_takesDigit_4 : decode cX6_takesDigit 4 = .ok (.aload_n 0, 1) := by decide +kernel
theorem dX6_takesDigit_5 : decode cX6_takesDigit 5 = .ok (.getfield 47, 3) := by decide +kernel
theorem dX6_takesDigit_8 : decode cX6_takesDigit 8 = .ok (.iload_n 1, 1) := by decide +kernel
theorem dX6_takesDigit_9 : decode cX6_takesDigit 9 = .ok (.bipush 48, 2) := by decide +kernel
theorem dX6_takesDigit_11 : decode cX6_takesDigit 11 = .ok (.isub, 1) := by decide +kernel
theorem dX6_takesDigit_12 : decode cX6_takesDigit 12 = .ok (.iastore, 1) := by decide +kernel
theorem dX6_takesDigit_13 : decode cX6_takesDigit 13 = .ok (.aload_n 0, 1) := by decide +kernel
theorem dX6_takesDigit_14 : decode cX6_takesDigit 14 = .ok (.getfield 25, 3) := by decide +kernel
theorem dX6_takesDigit_17 : decode cX6_takesDigit 17 = .ok (.aload_n 0, 1) := by decide +kernel
theorem dX6_takesDigit_18 : decode cX6_takesDigit 18 = .ok (.getfield 47, 3) := by decide +kernel
theorem dX6_takesDigit_21 : decode cX6_takesDigit 21 = .ok (.iload_n 2, 1) := by decide +kernel
theorem dX6_takesDigit_22 : decode cX6_takesDigit 22 = .ok (.iconst 1, 1) := by decide +kernel
theorem dX6_takesDigit_23 : decode cX6_takesDigit 23 = .ok (.iadd, 1) := by decide +kernel
theorem dX6_takesDigit_24 : decode cX6_takesDigit 24 = .ok (.iastore, 1) := by decide +kernel
theorem dX6_takesDigit_25 : decode cX6_takesDigit 25 = .ok (.aload_n 0, 1) := by decide +kernel
theorem dX6_takesDigit_26 : decode cX6_takesDigit 26 = .ok (.iconst 1, 1) := by decide +kernel
theorem dX6_takesDigit_27 : decode cX6_takesDigit 27 = .ok (.putfield 50, 3) := by decide +kernel
theorem dX6_takesDigit_30 : decode cX6_takesDigit 30 = .ok (.iconst 1, 1) := by decide +kernel
theorem dX6_takesDigit_31 : decode cX6_takesDigit 31 = .ok (.ireturn, 1) := by decide +kernel
theorem dX6_takesBracket_0 : decode cX6_takesBracket 0 = .ok (.iload_n 1, 1) := by decide +kernel
theorem dX6_takesBracket_1 : decode cX6_takesBracket 1 = .ok (.bipush 40, 2) := by decide +kernel
theorem dX6_takesBracket_3 : decode cX6_takesBracket 3 = .ok (.if_icmp .ne 11, 3) := by decide +kernel
theorem dX6_takesBracket_6 : decode cX6_takesBracket 6 = .ok (.aload_n 0, 1) := by decide +kernel
theorem dX6_takesBracket_7 : decode cX6_takesBracket 7 = .ok (.getfield 44, 3) := by decide +kernel
theorem dX6_takesBracket_10 : decode cX6_takesBracket 10 = .ok (.iconst 3, 1) := by decide +kernel
theorem dX6_takesBracket_11 : decode cX6_takesBracket 11 = .ok (.if_icmp .lt 5, 3) := by decide +kernel
theorem dX6_takesBracket_14 : decode cX6_takesBracket 14 = .ok (.iconst 0, 1) := by decide +kernel
theorem dX6_takesBracket_15 : decode cX6_takesBracket 15 = .ok (.ireturn, 1) := by decide +kernel
theorem dX6_takesBracket_16 : decode cX6_takesBracket 16 = .ok (.aload_n 0, 1) := by decide +kernel
theorem dX6_takesBracket_17 : decode cX6_takesBracket 17 = .ok (.getfield 22, 3) := by decide +kernel
theorem dX6_takesBracket_20 : decode cX6_takesBracket 20 = .ok (.aload_n 0, 1) := by decide +kernel
theorem dX6_takesBracket_21 : decode cX6_takesBracket 21 = .ok (.getfield 47, 3) := by decide +kernel
theorem dX6_takesBracket_24 : decode cX6_takesBracket 24 = .ok (.iload_n 2, 1) := by decide +kernel
theorem dX6_takesBracket_25 : decode cX6_takesBracket 25 = .ok (.iconst 1, 1) := by decide +kernel
theorem dX6_takesBracket_26 : decode cX6_takesBracket 26 = .ok (.iadd, 1) := by decide +kernel
theorem dX6_takesBracket_27 : decode cX6_takesBracket 27 = .ok (.iastore, 1) := by decide +kernel
theorem dX6_takesBracket_28 : decode cX6_takesBracket 28 = .ok (.aload_n 0, 1) := by decide +kernel
theorem dX6_takesBracket_29 : decode cX6_takesBracket 29 = .ok (.getfield 28, 3) := by decide +kernel
theorem dX6_takesBracket_32 : decode cX6_takesBracket 32 = .ok (.aload_n 0, 1) := by decide +kernel
theorem dX6_takesBracket_33 : decode cX6_takesBracket 33 = .ok (.getfield 44, 3) := by decide +kernel
theorem dX6_takesBracket_36 : decode cX6_takesBracket 36 = .ok (.aload_n 0, 1) := by decide +kernel
theorem dX6_takesBracket_37 : decode cX6_takesBracket 37 = .ok (.getfield 47, 3) := by decide +kernel
theorem dX6_takesBracket_40 : decode cX6_takesBracket 40 = .ok (.iastore, 1) := by decide +kernel
theorem dX6_takesBracket_41 : decode cX6_takesBracket 41 = .ok (.aload_n 0, 1) := by decide +kernel
theorem dX6_takesBracket_42 : decode cX6_takesBracket 42 = .ok (.dup, 1) := by decide +kernel
theorem dX6_takesBracket_43 : decode cX6_takesBracket 43 = .ok (.getfield 44, 3) := by decide +kernel
theorem dX6_takesBracket_46 : decode cX6_takesBracket 46 = .ok (.iconst 1, 1) := by decide +kernel
theorem dX6_takesBracket_47 : decode cX6_takesBracket 47 = .ok (.iadd, 1) := by decide +kernel
theorem dX6_takesBracket_48 : decode cX6_takesBracket 48 = .ok (.putfield 44, 3) := by decide +kernel
theorem dX6_takesBracket_51 : decode cX6_takesBracket 51 = .ok (.aload_n 0, 1) := by decide +kernel
theorem dX6_takesBracket_52 : decode cX6_takesBracket 52 = .ok (.aload_n 0, 1) := by decide +kernel
theorem dX6_takesBracket_53 : decode cX6_takesBracket 53 = .ok (.getfield 41, 3) := by decide +kernel
theorem dX6_takesBracket_56 : decode cX6_takesBracket 56 = .ok (.aload_n 0, 1) := by decide +kernel
theorem dX6_takesBracket_57 : decode cX6_takesBracket 57 = .ok (.getfield 44, 3) := by decide +kernel
theorem dX6_takesBracket_60 : decode cX6_takesBracket 60 = .ok (.invokestatic 94, 3) := by decide +kernel
theorem dX6_takesBracket_63 : decode cX6_takesBracket 63 = .ok (.putfield 41, 3) := by decide +kernel
theorem dX6_takesBracket_66 : decode cX6_takesBracket 66 = .ok (.aload_n 0, 1) := by decide +kernel
theorem dX6_takesBracket_67 : decode cX6_takesBracket 67 = .ok (.iconst 0, 1) := by decide +kernel
theorem dX6_takesBracket_68 : decode cX6_takesBracket 68 = .ok (.putfield 50, 3) := by decide +kernel
theorem dX6_takesBracket_71 : decode cX6_takesBracket 71 = .ok (.iconst 1, 1) := by decide +kernel
theorem dX6_takesBracket_72 : decode cX6_takesBracket 72 = .ok (.ireturn, 1) := by decide +kernel
theorem dX6_takesEnd_0 : decode cX6_takesEnd 0 = .ok (.aload_n 0, 1) := by decide +kernel
theorem dX6_takesEnd_1 : decode cX6_takesEnd 1 = .ok (.getfield 44, 3) := by decide +kernel
theorem dX6_takesEnd_4 : decode cX6_takesEnd 4 = .ok (.ifCond .gt 5, 3) := by decide +kernel
theorem dX6_takesEnd_7 : decode cX6_takesEnd 7 = .ok (.iconst 0, 1) := by decide +kernel
theorem dX6_takesEnd_8 : decode cX6_takesEnd 8 = .ok (.ireturn, 1) := by decide +kernel
theorem dX6_takesEnd_9 : decode cX6_takesEnd 9 = .ok (.aload_n 0, 1) := by decide +kernel
theorem dX6_takesEnd_10 : decode cX6_takesEnd 10 = .ok (.dup, 1) := by decide +kernel
theorem dX6_takesEnd_11 : decode cX6_takesEnd 11 = .ok (.getfield 44, 3) := by decide +kernel
theorem dX6_takesEnd_14 : decode cX6_takesEnd 14 = .ok (.iconst 1, 1) := by decide +kernel
theorem dX6_takesEnd_15 : decode cX6_takesEnd 15 = .ok (.isub, 1) := by decide +kernel
theorem dX6_takesEnd_16 : decode cX6_takesEnd 16 = .ok (.putfield 44, 3) := by decide +kernel
theorem dX6_takesEnd_19 : decode cX6_takesEnd 19 = .ok (.aload_n 0, 1) := by decide +kernel
theorem dX6_takesEnd_20 : decode cX6_takesEnd 20 = .ok (.getfield 25, 3) := by decide +kernel
theorem dX6_takesEnd_23 : decode cX6_takesEnd 23 = .ok (.aload_n 0, 1) := by decide +kernel
theorem dX6_takesEnd_24 : decode cX6_takesEnd 24 = .ok (.getfield 28, 3) := by decide +kernel
theorem dX6_takesEnd_27 : decode cX6_takesEnd 27 = .ok (.aload_n 0, 1) := by decide +kernel
theorem dX6_takesEnd_28 : decode cX6_takesEnd 28 = .ok (.getfield 44, 3) := by decide +kernel
theorem dX6_takesEnd_31 : decode cX6_takesEnd 31 = .ok (.iaload, 1) := by decide +kernel
theorem dX6_takesEnd_32 : decode cX6_takesEnd 32 = .ok (.iload_n 1, 1) := by decide +kernel
theorem dX6_takesEnd_33 : decode cX6_takesEnd 33 = .ok (.iconst 1, 1) := by decide +kernel
theorem dX6_takesEnd_34 : decode cX6_takesEnd 34 = .ok (.iadd, 1) := by decide +kernel
theorem dX6_takesEnd_35 : decode cX6_takesEnd 35 = .ok (.iastore, 1) := by decide +kernel
theorem dX6_takesEnd_36 : decode cX6_takesEnd 36 = .ok (.aload_n 0, 1) := by decide +kernel
theorem dX6_takesEnd_37 : decode cX6_takesEnd 37 = .ok (.iconst 1, 1) := by decide +kernel
theorem dX6_takesEnd_38 : decode cX6_takesEnd 38 = .ok (.putfield 50, 3) := by decide +kernel
theorem dX6_takesEnd_41 : decode cX6_takesEnd 41 = .ok (.iconst 1, 1) := by decide +kernel
theorem dX6_takesEnd_42 : decode cX6_takesEnd 42 = .ok (.ireturn, 1) := by decide +kernel
