theorem dX7_init_0 : decode cX7_init 0 = .ok (.aload_n 0, 1) := by decide +kernel
theorem dX7_init_1 : decode cX7_init 1 = .ok (.invokespecial 1, 3) := by decide +kernel
theorem dX7_init_4 : decode cX7_init 4 = .ok (.aload_n 0, 1) := by decide +kernel
theorem dX7_init_5 : decode cX7_init 5 = .ok (.new 7, 3) := by decide +kernel
theorem dX7_init_8 : decode cX7_init 8 = .ok (.dup, 1) := by decide +kernel
theorem dX7_init_9 : decode cX7_init 9 = .ok (.invokespecial 9, 3) := by decide +kernel
theorem dX7_init_12 : decode cX7_init 12 = .ok (.putfield 10, 3) := by decide +kernel
theorem dX7_init_15 : decode cX7_init 15 = .ok (.aload_n 0, 1) := by decide +kernel
theorem dX7_init_16 : decode cX7_init 16 = .ok (.new 16, 3) := by decide +kernel
theorem dX7_init_19 : decode cX7_init 19 = .ok (.dup, 1) := by decide +kernel
theorem dX7_init_20 : decode cX7_init 20 = .ok (.invokespecial 18, 3) := by decide +kernel
theorem dX7_init_23 : decode cX7_init 23 = .ok (.putfield 19, 3) := by decide +kernel
theorem dX7_init_26 : decode cX7_init 26 = .ok (.aload_n 0, 1) := by decide +kernel
theorem dX7_init_27 : decode cX7_init 27 = .ok (.new 23, 3) := by decide +kernel
theorem dX7_init_30 : decode cX7_init 30 = .ok (.dup, 1) := by decide +kernel
theorem dX7_init_31 : decode cX7_init 31 = .ok (.invokespecial 25, 3) := by decide +kernel
theorem dX7_init_34 : decode cX7_init 34 = .ok (.putfield 26, 3) := by decide +kernel
theorem dX7_init_37 : decode cX7_init 37 = .ok (.aload_n 0, 1) := by decide +kernel
theorem dX7_init_38 : decode cX7_init 38 = .ok (.new 23, 3) := by decide +kernel
theorem dX7_init_41 : decode cX7_init 41 = .ok (.dup, 1) := by decide +kernel
theorem dX7_init_42 : decode cX7_init 42 = .ok (.invokespecial 25, 3) := by decide +kernel
theorem dX7_init_45 : decode cX7_init 45 = .ok (.putfield 30, 3) := by decide +kernel
theorem dX7_init_48 : decode cX7_init 48 = .ok (.aload_n 0, 1) := by decide +kernel
theorem dX7_init_49 : decode cX7_init 49 = .ok (.new 33, 3) := by decide +kernel
theorem dX7_init_52 : decode cX7_init 52 = .ok (.dup, 1) := by decide +kernel
theorem dX7_init_53 : decode cX7_init 53 = .ok (.invokespecial 35, 3) := by decide +kernel
theorem dX7_init_56 : decode cX7_init 56 = .ok (.putfield 36, 3) := by decide +kernel
theorem dX7_init_59 : decode cX7_init 59 = .ok (.aload_n 0, 1) := by decide +kernel
theorem dX7_init_60 : decode cX7_init 60 = .ok (.iconst 2, 1) := by decide +kernel
theorem dX7_init_61 : decode cX7_init 61 = .ok (.anewarray 23, 3) := by decide +kernel
theorem dX7_init_64 : decode cX7_init 64 = .ok (.putfield 40, 3) := by decide +kernel
theorem dX7_init_67 : decode cX7_init 67 = .ok (.aload_n 0, 1) := by decide +kernel
theorem dX7_init_68 : decode cX7_init 68 = .ok (.new 44, 3) := by decide +kernel
theorem dX7_init_71 : decode cX7_init 71 = .ok (.dup, 1) := by decide +kernel
theorem dX7_init_72 : decode cX7_init 72 = .ok (.invokespecial 46, 3) := by decide +kernel
theorem dX7_init_75 : decode cX7_init 75 = .ok (.putfield 47, 3) := by decide +kernel
theorem dX7_init_78 : decode cX7_init 78 = .ok (.return_, 1) := by decide +kernel
theorem dX7_set_0 : decode cX7_set 0 = .ok (.iload_n 1, 1) := by decide +kernel
theorem dX7_set_1 : decode cX7_set 1 = .ok (.iconst 3, 1) := by decide +kernel
theorem dX7_set_2 : decode cX7_set 2 = .ok (.invokestatic 51, 3) := by decide +kernel
theorem dX7_set_5 : decode cX7_set 5 = .ok (.ifCond .ne 6, 3) := by decide +kernel
theorem dX7_set_8 : decode cX7_set 8 = .ok (.bipush (-2), 2) := by decide +kernel
theorem dX7_set_10 : decode cX7_set 10 = .ok (.ireturn, 1) := by decide +kernel
theorem dX7_set_11 : decode cX7_set 11 = .ok (.iload_n 2, 1) := by decide +kernel
theorem dX7_set_12 : decode cX7_set 12 = .ok (.getstatic 55, 3) := by decide +kernel
theorem dX7_set_15 : decode cX7_set 15 = .ok (.iload_n 1, 1) := by decide +kernel
theorem dX7_set_16 : decode cX7_set 16 = .ok (.iaload, 1) := by decide +kernel
theorem dX7_set_17 : decode cX7_set 17 = .ok (.if_icmp .lt 12, 3) := by decide +kernel
theorem dX7_set_20 : decode cX7_set 20 = .ok (.iload_n 2, 1) := by decide +kernel
theorem dX7_set_21 : decode cX7_set 21 = .ok (.getstatic 59, 3) := by decide +kernel
theorem dX7_set_24 : decode cX7_set 24 = .ok (.iload_n 1, 1) := by decide +kernel
theorem dX7_set_25 : decode cX7_set 25 = .ok (.iaload, 1) := by decide +kernel
theorem dX7_set_26 : decode cX7_set 26 = .ok (.if_icmp .le 6, 3) := by decide +kernel
theorem dX7_set_29 : decode cX7_set 29 = .ok (.bipush (-2), 2) := by decide +kernel
theorem dX7_set_31 : decode cX7_set 31 = .ok (.ireturn, 1) := by decide +kernel
theorem dX7_set_32 : decode cX7_set 32 = .ok (.aload_n 0, 1) := by decide +kernel
theorem dX7_set_33 : decode cX7_set 33 = .ok (.getfield 36, 3) := by decide +kernel
theorem dX7_set_36 : decode cX7_set 36 = .ok (.aload_n 0, 1) := by decide +kernel
theorem dX7_set_37 : decode cX7_set 37 = .ok (.getfield 26, 3) := by decide +kernel
theorem dX7_set_40 : decode cX7_set 40 = .ok (.invokevirtual 62, 3) := by decide +kernel
theorem dX7_set_43 : decode cX7_set 43 = .ok (.aload_n 0, 1) := by decide +kernel
theorem dX7_set_44 : decode cX7_set 44 = .ok (.getfield 26, 3) := by decide +kernel
theorem dX7_set_47 : decode cX7_set 47 = .ok (.getfield 66, 3) := by decide +kernel
theorem dX7_set_50 : decode cX7_set 50 = .ok (.iload_n 1, 1) := by decide +kernel
theorem dX7_set_51 : decode cX7_set 51 = .ok (.iaload, 1) := by decide +kernel
theorem dX7_set_52 : decode cX7_set 52 = .ok (.istore_n 3, 1) := by decide +kernel
theorem dX7_set_53 : decode cX7_set 53 = .ok (.aload_n 0, 1) := by decide +kernel
theorem dX7_set_54 : decode cX7_set 54 = .ok (.getfield 26, 3) := by decide +kernel
theorem dX7_set_57 : decode cX7_set 57 = .ok (.getfield 66, 3) := by decide +kernel
theorem dX7_set_60 : decode cX7_set 60 = .ok (.iload_n 1, 1) := by decide +kernel
theorem dX7_set_61 : decode cX7_set 61 = .ok (.iload_n 2, 1) := by decide +kernel
theorem dX7_set_62 : decode cX7_set 62 = .ok (.iastore, 1) := by decide +kernel
theorem dX7_set_63 : decode cX7_set 63 = .ok (.iload_n 3, 1) := by decide +kernel
theorem dX7_set_64 : decode cX7_set 64 = .ok (.ireturn, 1) := by decide +kernel
theorem dX7_card_0 : decode cX7_card 0 = .ok (.iload_n 1, 1) := by decide +kernel
theorem dX7_card_1 : decode cX7_card 1 = .ok (.bipush 10, 2) := by decide +kernel
theorem dX7_card_3 : decode cX7_card 3 = .ok (.invokestatic 51, 3) := by decide +kernel
theorem dX7_card_6 : decode cX7_card 6 = .ok (.ifCond .ne 5, 3) := by decide +kernel
theorem dX7_card_9 : decode cX7_card 9 = .ok (.iconst (-1), 1) := by decide +kernel
theorem dX7_card_10 : decode cX7_card 10 = .ok (.ireturn, 1) := by decide +kernel
theorem dX7_card_11 : decode cX7_card 11 = .ok (.aload_n 0, 1) := by decide +kernel
theorem dX7_card_12 : decode cX7_card 12 = .ok (.getfield 19, 3) := by decide +kernel
theorem dX7_card_15 : decode cX7_card 15 = .ok (.aload_n 0, 1) := by decide +kernel
theorem dX7_card_16 : decode cX7_card 16 = .ok (.getfield 10, 3) := by decide +kernel
theorem dX7_card_19 : decode cX7_card 19 = .ok (.invokevirtual 69, 3) := by decide +kernel
theorem dX7_card_22 : decode cX7_card 22 = .ok (.bipush (-6), 2) := by decide +kernel
theorem dX7_card_24 : decode cX7_card 24 = .ok (.if_icmp .eq 6, 3) := by decide +kernel
theorem dX7_card_27 : decode cX7_card 27 = .ok (.bipush (-3), 2) := by decide +kernel
theorem dX7_card_29 : decode cX7_card 29 = .ok (.ireturn, 1) := by decide +kernel
theorem dX7_card_30 : decode cX7_card 30 = .ok (.aload_n 0, 1) := by decide +kernel
theorem dX7_card_31 : decode cX7_card 31 = .ok (.getfield 36, 3) := by decide +kernel
theorem dX7_card_34 : decode cX7_card 34 = .ok (.aload_n 0, 1) := by decide +kernel
theorem dX7_card_35 : decode cX7_card 35 = .ok (.getfield 26, 3) := by decide +kernel
theorem dX7_card_38 : decode cX7_card 38 = .ok (.invokevirtual 62, 3) := by decide +kernel
theorem dX7_card_41 : decode cX7_card 41 = .ok (.aload_n 0, 1) := by decide +kernel
theorem dX7_card_42 : decode cX7_card 42 = .ok (.getfield 19, 3) := by decide +kernel
theorem dX7_card_45 : decode cX7_card 45 = .ok (.invokevirtual 73, 3) := by decide +kernel
theorem dX7_card_48 : decode cX7_card 48 = .ok (.astore_n 2, 1) := by decide +kernel
theorem dX7_card_49 : decode cX7_card 49 = .ok (.aload_n 0, 1) := by decide +kernel
theorem dX7_card_50 : decode cX7_card 50 = .ok (.getfield 26, 3) := by decide +kernel
theorem dX7_card_53 : decode cX7_card 53 = .ok (.getfield 77, 3) := by decide +kernel
theorem dX7_card_56 : decode cX7_card 56 = .ok (.iload_n 1, 1) := by decide +kernel
theorem dX7_card_57 : decode cX7_card 57 = .ok (.aload_n 2, 1) := by decide +kernel
theorem dX7_card_58 : decode cX7_card 58 = .ok (.aastore, 1) := by decide +kernel
theorem dX7_card_59 : decode cX7_card 59 = .ok (.aload_n 0, 1) := by decide +kernel
theorem dX7_card_60 : decode cX7_card 60 = .ok (.getfield 10, 3) := by decide +kernel
theorem dX7_card_63 : decode cX7_card 63 = .ok (.iconst 0, 1) := by decide +kernel
theorem dX7_card_64 : decode cX7_card 64 = .ok (.putfield 81, 3) := by decide +kernel
theorem dX7_card_67 : decode cX7_card 67 = .ok (.aload_n 2, 1) := by decide +kernel
theorem dX7_card_68 : decode cX7_card 68 = .ok (.getfield 85, 3) := by decide +kernel
theorem dX7_card_71 : decode cX7_card 71 = .ok (.ireturn, 1) := by decide +kernel
theorem dX7_blank_0 : decode cX7_blank 0 = .ok (.iload_n 1, 1) := by decide +kernel
theorem dX7_blank_1 : decode cX7_blank 1 = .ok (.bipush 10, 2) := by decide +kernel
theorem dX7_blank_3 : decode cX7_blank 3 = .ok (.invokestatic 51, 3) := by decide +kernel
theorem dX7_blank_6 : decode cX7_blank 6 = .ok (.ifCond .ne 5, 3) := by decide +kernel
theorem dX7_blank_9 : decode cX7_blank 9 = .ok (.iconst (-1), 1) := by decide +kernel
theorem dX7_blank_10 : decode cX7_blank 10 = .ok (.ireturn, 1) := by decide +kernel
theorem dX7_blank_11 : decode cX7_blank 11 = .ok (.aload_n 0, 1) := by decide +kernel
theorem dX7_blank_12 : decode cX7_blank 12 = .ok (.getfield 26, 3) := by decide +kernel
theorem dX7_blank_15 : decode cX7_blank 15 = .ok (.getfield 77, 3) := by decide +kernel
theorem dX7_blank_18 : decode cX7_blank 18 = .ok (.iload_n 1, 1) := by decide +kernel
theorem dX7_blank_19 : decode cX7_blank 19 = .ok (.aaload, 1) := by decide +kernel
theorem dX7_blank_20 : decode cX7_blank 20 = .ok (.ifnonnull 6, 3) := by decide +kernel
theorem dX7_blank_23 : decode cX7_blank 23 = .ok (.bipush (-5), 2) := by decide +kernel
theorem dX7_blank_25 : decode cX7_blank 25 = .ok (.ireturn, 1) := by decide +kernel
theorem dX7_blank_26 : decode cX7_blank 26 = .ok (.aload_n 0, 1) := by decide +kernel
theorem dX7_blank_27 : decode cX7_blank 27 = .ok (.getfield 36, 3) := by decide +kernel
theorem dX7_blank_30 : decode cX7_blank 30 = .ok (.aload_n 0, 1) := by decide +kernel
theorem dX7_blank_31 : decode cX7_blank 31 = .ok (.getfield 26, 3) := by decide +kernel
theorem dX7_blank_34 : decode cX7_blank 34 = .ok (.invokevirtual 62, 3) := by decide +kernel
theorem dX7_blank_37 : decode cX7_blank 37 = .ok (.aload_n 0, 1) := by decide +kernel
theorem dX7_blank_38 : decode cX7_blank 38 = .ok (.getfield 26, 3) := by decide +kernel
theorem dX7_blank_41 : decode cX7_blank 41 = .ok (.getfield 77, 3) := by decide +kernel
theorem dX7_blank_44 : decode cX7_blank 44 = .ok (.iload_n 1, 1) := by decide +kernel
theorem dX7_blank_45 : decode cX7_blank 45 = .ok (.aconst_null, 1) := by decide +kernel
theorem dX7_blank_46 : decode cX7_blank 46 = .ok (.aastore, 1) := by decide +kernel
theorem dX7_blank_47 : decode cX7_blank 47 = .ok (.aload_n 0, 1) := by decide +kernel
theorem dX7_blank_48 : decode cX7_blank 48 = .ok (.getfield 26, 3) := by decide +kernel
theorem dX7_blank_51 : decode cX7_blank 51 = .ok (.getfield 77, 3) := by decide +kernel
theorem dX7_blank_54 : decode cX7_blank 54 = .ok (.iload_n 1, 1) := by decide +kernel
theorem dX7_blank_55 : decode cX7_blank 55 = .ok (.invokestatic 90, 3) := by decide +kernel
theorem dX7_blank_58 : decode cX7_blank 58 = .ok (.ireturn, 1) := by decide +kernel
theorem dX7_begin_0 : decode cX7_begin 0 = .ok (.iload_n 1, 1) := by decide +kernel
theorem dX7_begin_1 : decode cX7_begin 1 = .ok (.bipush 10, 2) := by decide +kernel
theorem dX7_begin_3 : decode cX7_begin 3 = .ok (.invokestatic 51, 3) := by decide +kernel
theorem dX7_begin_6 : decode cX7_begin 6 = .ok (.ifCond .ne 5, 3) := by decide +kernel
theorem dX7_begin_9 : decode cX7_begin 9 = .ok (.iconst (-1), 1) := by decide +kernel
theorem dX7_begin_10 : decode cX7_begin 10 = .ok (.ireturn, 1) := by decide +kernel
theorem dX7_begin_11 : decode cX7_begin 11 = .ok (.aload_n 0, 1) := by decide +kernel
theorem dX7_begin_12 : decode cX7_begin 12 = .ok (.getfield 26, 3) := by decide +kernel
theorem dX7_begin_15 : decode cX7_begin 15 = .ok (.getfield 77, 3) := by decide +kernel
theorem dX7_begin_18 : decode cX7_begin 18 = .ok (.iload_n 1, 1) := by decide +kernel
theorem dX7_begin_19 : decode cX7_begin 19 = .ok (.aaload, 1) := by decide +kernel
theorem dX7_begin_20 : decode cX7_begin 20 = .ok (.ifnonnull 6, 3) := by decide +kernel
theorem dX7_begin_23 : decode cX7_begin 23 = .ok (.bipush (-5), 2) := by decide +kernel
theorem dX7_begin_25 : decode cX7_begin 25 = .ok (.ireturn, 1) := by decide +kernel
theorem dX7_begin_26 : decode cX7_begin 26 = .ok (.aload_n 0, 1) := by decide +kernel
theorem dX7_begin_27 : decode cX7_begin 27 = .ok (.getfield 36, 3) := by decide +kernel
theorem dX7_begin_30 : decode cX7_begin 30 = .ok (.aload_n 0, 1) := by decide +kernel
theorem dX7_begin_31 : decode cX7_begin 31 = .ok (.getfield 26, 3) := by decide +kernel
theorem dX7_begin_34 : decode cX7_begin 34 = .ok (.invokevirtual 62, 3) := by decide +kernel
theorem dX7_begin_37 : decode cX7_begin 37 = .ok (.aload_n 0, 1) := by decide +kernel
theorem dX7_begin_38 : decode cX7_begin 38 = .ok (.getfield 26, 3) := by decide +kernel
theorem dX7_begin_41 : decode cX7_begin 41 = .ok (.iload_n 1, 1) := by decide +kernel
theorem dX7_begin_42 : decode cX7_begin 42 = .ok (.invokevirtual 94, 3) := by decide +kernel
theorem dX7_begin_45 : decode cX7_begin 45 = .ok (.ireturn, 1) := by decide +kernel
theorem dX7_weave_0 : decode cX7_weave 0 = .ok (.iload_n 1, 1) := by decide +kernel
theorem dX7_weave_1 : decode cX7_weave 1 = .ok (.iconst 1, 1) := by decide +kernel
theorem dX7_weave_2 : decode cX7_weave 2 = .ok (.if_icmp .lt 9, 3) := by decide +kernel
theorem dX7_weave_5 : decode cX7_weave 5 = .ok (.iload_n 1, 1) := by decide +kernel
theorem dX7_weave_6 : decode cX7_weave 6 = .ok (.bipush 99, 2) := by decide +kernel
theorem dX7_weave_8 : decode cX7_weave 8 = .ok (.if_icmp .le 6, 3) := by decide +kernel
theorem dX7_weave_11 : decode cX7_weave 11 = .ok (.bipush (-2), 2) := by decide +kernel
theorem dX7_weave_13 : decode cX7_weave 13 = .ok (.ireturn, 1) := by decide +kernel
theorem dX7_weave_14 : decode cX7_weave 14 = .ok (.aload_n 0, 1) := by decide +kernel
theorem dX7_weave_15 : decode cX7_weave 15 = .ok (.getfield 36, 3) := by decide +kernel
theorem dX7_weave_18 : decode cX7_weave 18 = .ok (.aload_n 0, 1) := by decide +kernel
theorem dX7_weave_19 : decode cX7_weave 19 = .ok (.getfield 26, 3) := by decide +kernel
theorem dX7_weave_22 : decode cX7_weave 22 = .ok (.invokevirtual 62, 3) := by decide +kernel
theorem dX7_weave_25 : decode cX7_weave 25 = .ok (.aload_n 0, 1) := by decide +kernel
theorem dX7_weave_26 : decode cX7_weave 26 = .ok (.getfield 26, 3) := by decide +kernel
theorem dX7_weave_29 : decode cX7_weave 29 = .ok (.iload_n 1, 1) := by decide +kernel
theorem dX7_weave_30 : decode cX7_weave 30 = .ok (.invokevirtual 98, 3) := by decide +kernel
theorem dX7_weave_33 : decode cX7_weave 33 = .ok (.ireturn, 1) := by decide +kernel
theorem dX7_skip_0 : decode cX7_skip 0 = .ok (.aload_n 0, 1) := by decide +kernel
theorem dX7_skip_1 : decode cX7_skip 1 = .ok (.getfield 26, 3) := by decide +kernel
theorem dX7_skip_4 : decode cX7_skip 4 = .ok (.getfield 101, 3) := by decide +kernel
theorem dX7_skip_7 : decode cX7_skip 7 = .ok (.getfield 105, 3) := by decide +kernel
theorem dX7_skip_10 : decode cX7_skip 10 = .ok (.ifCond .ne 6, 3) := by decide +kernel
theorem dX7_skip_13 : decode cX7_skip 13 = .ok (.bipush (-5), 2) := by decide +kernel
theorem dX7_skip_15 : decode cX7_skip 15 = .ok (.ireturn, 1) := by decide +kernel
theorem dX7_skip_16 : decode cX7_skip 16 = .ok (.aload_n 0, 1) := by decide +kernel
theorem dX7_skip_17 : decode cX7_skip 17 = .ok (.getfield 36, 3) := by decide +kernel
theorem dX7_skip_20 : decode cX7_skip 20 = .ok (.aload_n 0, 1) := by decide +kernel
theorem dX7_skip_21 : decode cX7_skip 21 = .ok (.getfield 26, 3) := by decide +kernel
theorem dX7_skip_24 : decode cX7_skip 24 = .ok (.invokevirtual 62, 3) := by decide +kernel
theorem dX7_skip_27 : decode cX7_skip 27 = .ok (.aload_n 0, 1) := by decide +kernel
theorem dX7_skip_28 : decode cX7_skip 28 = .ok (.getfield 26, 3) := by decide +kernel
theorem dX7_skip_31 : decode cX7_skip 31 = .ok (.getfield 101, 3) := by decide +kernel
theorem dX7_skip_34 : decode cX7_skip 34 = .ok (.invokevirtual 110, 3) := by decide +kernel
theorem dX7_skip_37 : decode cX7_skip 37 = .ok (.aload_n 0, 1) := by decide +kernel
theorem dX7_skip_38 : decode cX7_skip 38 = .ok (.getfield 26, 3) := by decide +kernel
theorem dX7_skip_41 : decode cX7_skip 41 = .ok (.getfield 101, 3) := by decide +kernel
theorem dX7_skip_44 : decode cX7_skip 44 = .ok (.invokevirtual 113, 3) := by decide +kernel
theorem dX7_skip_47 : decode cX7_skip 47 = .ok (.aload_n 0, 1) := by decide +kernel
theorem dX7_skip_48 : decode cX7_skip 48 = .ok (.getfield 26, 3) := by decide +kernel
theorem dX7_skip_51 : decode cX7_skip 51 = .ok (.getfield 101, 3) := by decide +kernel
theorem dX7_skip_54 : decode cX7_skip 54 = .ok (.getfield 105, 3) := by decide +kernel
theorem dX7_skip_57 : decode cX7_skip 57 = .ok (.ireturn, 1) := by decide +kernel
theorem dX7_tie_0 : decode cX7_tie 0 = .ok (.iload_n 1, 1) := by decide +kernel
theorem dX7_tie_1 : decode cX7_tie 1 = .ok (.bipush 6, 2) := by decide +kernel
theorem dX7_tie_3 : decode cX7_tie 3 = .ok (.invokestatic 51, 3) := by decide +kernel
theorem dX7_tie_6 : decode cX7_tie 6 = .ok (.ifCond .ne 5, 3) := by decide +kernel
theorem dX7_tie_9 : decode cX7_tie 9 = .ok (.iconst (-1), 1) := by decide +kernel
theorem dX7_tie_10 : decode cX7_tie 10 = .ok (.ireturn, 1) := by decide +kernel
theorem dX7_tie_11 : decode cX7_tie 11 = .ok (.iload_n 2, 1) := by decide +kernel
theorem dX7_tie_12 : decode cX7_tie 12 = .ok (.iconst 1, 1) := by decide +kernel
theorem dX7_tie_13 : decode cX7_tie 13 = .ok (.if_icmp .lt 9, 3) := by decide +kernel
theorem dX7_tie_16 : decode cX7_tie 16 = .ok (.iload_n 2, 1) := by decide +kernel
theorem dX7_tie_17 : decode cX7_tie 17 = .ok (.bipush 99, 2) := by decide +kernel
theorem dX7_tie_19 : decode cX7_tie 19 = .ok (.if_icmp .le 6, 3) := by decide +kernel
theorem dX7_tie_22 : decode cX7_tie 22 = .ok (.bipush (-2), 2) := by decide +kernel
theorem dX7_tie_24 : decode cX7_tie 24 = .ok (.ireturn, 1) := by decide +kernel
theorem dX7_tie_25 : decode cX7_tie 25 = .ok (.aload_n 0, 1) := by decide +kernel
theorem dX7_tie_26 : decode cX7_tie 26 = .ok (.getfield 36, 3) := by decide +kernel
theorem dX7_tie_29 : decode cX7_tie 29 = .ok (.aload_n 0, 1) := by decide +kernel
theorem dX7_tie_30 : decode cX7_tie 30 = .ok (.getfield 26, 3) := by decide +kernel
theorem dX7_tie_33 : decode cX7_tie 33 = .ok (.invokevirtual 62, 3) := by decide +kernel
theorem dX7_tie_36 : decode cX7_tie 36 = .ok (.aload_n 0, 1) := by decide +kernel
theorem dX7_tie_37 : decode cX7_tie 37 = .ok (.getfield 26, 3) := by decide +kernel
theorem dX7_tie_40 : decode cX7_tie 40 = .ok (.iload_n 1, 1) := by decide +kernel
theorem dX7_tie_41 : decode cX7_tie 41 = .ok (.iload_n 2, 1) := by decide +kernel
theorem dX7_tie_42 : decode cX7_tie 42 = .ok (.invokevirtual 116, 3) := by decide +kernel
theorem dX7_tie_45 : decode cX7_tie 45 = .ok (.ireturn, 1) := by decide +kernel
theorem dX7_cut_0 : decode cX7_cut 0 = .ok (.aload_n 0, 1) := by decide +kernel
theorem dX7_cut_1 : decode cX7_cut 1 = .ok (.getfield 36, 3) := by decide +kernel
theorem dX7_cut_4 : decode cX7_cut 4 = .ok (.aload_n 0, 1) := by decide +kernel
theorem dX7_cut_5 : decode cX7_cut 5 = .ok (.getfield 26, 3) := by decide +kernel
theorem dX7_cut_8 : decode cX7_cut 8 = .ok (.invokevirtual 62, 3) := by decide +kernel
theorem dX7_cut_11 : decode cX7_cut 11 = .ok (.aload_n 0, 1) := by decide +kernel
theorem dX7_cut_12 : decode cX7_cut 12 = .ok (.getfield 26, 3) := by decide +kernel
theorem dX7_cut_15 : decode cX7_cut 15 = .ok (.getfield 120, 3) := by decide +kernel
theorem dX7_cut_18 : decode cX7_cut 18 = .ok (.istore_n 1, 1) := by decide +kernel
theorem dX7_cut_19 : decode cX7_cut 19 = .ok (.aload_n 0, 1) := by decide +kernel
theorem dX7_cut_20 : decode cX7_cut 20 = .ok (.getfield 26, 3) := by decide +kernel
theorem dX7_cut_23 : decode cX7_cut 23 = .ok (.iconst 0, 1) := by decide +kernel
theorem dX7_cut_24 : decode cX7_cut 24 = .ok (.putfield 120, 3) := by decide +kernel
theorem dX7_cut_27 : decode cX7_cut 27 = .ok (.iload_n 1, 1) := by decide +kernel
theorem dX7_cut_28 : decode cX7_cut 28 = .ok (.ireturn, 1) := by decide +kernel
theorem dX7_of_0 : decode cX7_of 0 = .ok (.iload_n 1, 1) := by decide +kernel
theorem dX7_of_1 : decode cX7_of 1 = .ok (.bipush 10, 2) := by decide +kernel
theorem dX7_of_3 : decode cX7_of 3 = .ok (.invokestatic 51, 3) := by decide +kernel
theorem dX7_of_6 : decode cX7_of 6 = .ok (.ifCond .ne 5, 3) := by decide +kernel
theorem dX7_of_9 : decode cX7_of 9 = .ok (.iconst (-1), 1) := by decide +kernel
theorem dX7_of_10 : decode cX7_of 10 = .ok (.ireturn, 1) := by decide +kernel
theorem dX7_of_11 : decode cX7_of 11 = .ok (.aload_n 0, 1) := by decide +kernel
theorem dX7_of_12 : decode cX7_of 12 = .ok (.getfield 26, 3) := by decide +kernel
theorem dX7_of_15 : decode cX7_of 15 = .ok (.getfield 77, 3) := by decide +kernel
theorem dX7_of_18 : decode cX7_of 18 = .ok (.iload_n 1, 1) := by decide +kernel
theorem dX7_of_19 : decode cX7_of 19 = .ok (.aaload, 1) := by decide +kernel
theorem dX7_of_20 : decode cX7_of 20 = .ok (.astore_n 3, 1) := by decide +kernel
theorem dX7_of_21 : decode cX7_of 21 = .ok (.iload_n 2, 1) := by decide +kernel
theorem dX7_of_22 : decode cX7_of 22 = .ok (.tableswitch 128 0 6 #[42, 55, 68, 81, 93, 103, 115], 42) := by decide +kernel
theorem dX7_of_64 : decode cX7_of 64 = .ok (.aload_n 3, 1) := by decide +kernel
theorem dX7_of_65 : decode cX7_of 65 = .ok (.ifnonnull 7, 3) := by decide +kernel
theorem dX7_of_68 : decode cX7_of 68 = .ok (.iconst 0, 1) := by decide +kernel
theorem dX7_of_69 : decode cX7_of 69 = .ok (.goto 7, 3) := by decide +kernel
theorem dX7_of_72 : decode cX7_of 72 = .ok (.aload_n 3, 1) := by decide +kernel
theorem dX7_of_73 : decode cX7_of 73 = .ok (.getfield 123, 3) := by decide +kernel
theorem dX7_of_76 : decode cX7_of 76 = .ok (.ireturn, 1) := by decide +kernel
theorem dX7_of_77 : decode cX7_of 77 = .ok (.aload_n 3, 1) := by decide +kernel
theorem dX7_of_78 : decode cX7_of 78 = .ok (.ifnonnull 7, 3) := by decide +kernel
theorem dX7_of_81 : decode cX7_of 81 = .ok (.iconst 0, 1) := by decide +kernel
theorem dX7_of_82 : decode cX7_of 82 = .ok (.goto 7, 3) := by decide +kernel
theorem dX7_of_85 : decode cX7_of 85 = .ok (.aload_n 3, 1) := by decide +kernel
theorem dX7_of_86 : decode cX7_of 86 = .ok (.getfield 85, 3) := by decide +kernel
theorem dX7_of_89 : decode cX7_of 89 = .ok (.ireturn, 1) := by decide +kernel
theorem dX7_of_90 : decode cX7_of 90 = .ok (.aload_n 3, 1) := by decide +kernel
theorem dX7_of_91 : decode cX7_of 91 = .ok (.ifnonnull 7, 3) := by decide +kernel
theorem dX7_of_94 : decode cX7_of 94 = .ok (.iconst 0, 1) := by decide +kernel
theorem dX7_of_95 : decode cX7_of 95 = .ok (.goto 7, 3) := by decide +kernel
theorem dX7_of_98 : decode cX7_of 98 = .ok (.aload_n 3, 1) := by decide +kernel
theorem dX7_of_99 : decode cX7_of 99 = .ok (.getfield 124, 3) := by decide +kernel
theorem dX7_of_102 : decode cX7_of 102 = .ok (.ireturn, 1) := by decide +kernel
theorem dX7_of_103 : decode cX7_of 103 = .ok (.aload_n 0, 1) := by decide +kernel
theorem dX7_of_104 : decode cX7_of 104 = .ok (.getfield 26, 3) := by decide +kernel
theorem dX7_of_107 : decode cX7_of 107 = .ok (.getfield 77, 3) := by decide +kernel
theorem dX7_of_110 : decode cX7_of 110 = .ok (.iload_n 1, 1) := by decide +kernel
theorem dX7_of_111 : decode cX7_of 111 = .ok (.invokestatic 90, 3) := by decide +kernel
theorem dX7_of_114 : decode cX7_of 114 = .ok (.ireturn, 1) := by decide +kernel
theorem dX7_of_115 : decode cX7_of 115 = .ok (.aload_n 0, 1) := by decide +kernel
theorem dX7_of_116 : decode cX7_of 116 = .ok (.getfield 26, 3) := by decide +kernel
theorem dX7_of_119 : decode cX7_of 119 = .ok (.getfield 127, 3) := by decide +kernel
theorem dX7_of_122 : decode cX7_of 122 = .ok (.iload_n 1, 1) := by decide +kernel
theorem dX7_of_123 : decode cX7_of 123 = .ok (.iaload, 1) := by decide +kernel
theorem dX7_of_124 : decode cX7_of 124 = .ok (.ireturn, 1) := by decide +kernel
theorem dX7_of_125 : decode cX7_of 125 = .ok (.aload_n 0, 1) := by decide +kernel
theorem dX7_of_126 : decode cX7_of 126 = .ok (.getfield 26, 3) := by decide +kernel
theorem dX7_of_129 : decode cX7_of 129 = .ok (.getfield 101, 3) := by decide +kernel
theorem dX7_of_132 : decode cX7_of 132 = .ok (.iload_n 1, 1) := by decide +kernel
theorem dX7_of_133 : decode cX7_of 133 = .ok (.invokevirtual 130, 3) := by decide +kernel
theorem dX7_of_136 : decode cX7_of 136 = .ok (.ireturn, 1) := by decide +kernel
theorem dX7_of_137 : decode cX7_of 137 = .ok (.aload_n 3, 1) := by decide +kernel
theorem dX7_of_138 : decode cX7_of 138 = .ok (.ifnonnull 7, 3) := by decide +kernel
theorem dX7_of_141 : decode cX7_of 141 = .ok (.iconst 0, 1) := by decide +kernel
theorem dX7_of_142 : decode cX7_of 142 = .ok (.goto 7, 3) := by decide +kernel
theorem dX7_of_145 : decode cX7_of 145 = .ok (.aload_n 3, 1) := by decide +kernel
theorem dX7_of_146 : decode cX7_of 146 = .ok (.getfield 133, 3) := by decide +kernel
theorem dX7_of_149 : decode cX7_of 149 = .ok (.ireturn, 1) := by decide +kernel
theorem dX7_of_150 : decode cX7_of 150 = .ok (.bipush (-2), 2) := by decide +kernel
theorem dX7_of_152 : decode cX7_of 152 = .ok (.ireturn, 1) := by decide +kernel
theorem dX7_stack_0 : decode cX7_stack 0 = .ok (.iload_n 1, 1) := by decide +kernel
theorem dX7_stack_1 : decode cX7_stack 1 = .ok (.aload_n 0, 1) := by decide +kernel
theorem dX7_stack_2 : decode cX7_stack 2 = .ok (.getfield 26, 3) := by decide +kernel
theorem dX7_stack_5 : decode cX7_stack 5 = .ok (.getfield 101, 3) := by decide +kernel
theorem dX7_stack_8 : decode cX7_stack 8 = .ok (.getfield 105, 3) := by decide +kernel
theorem dX7_stack_11 : decode cX7_stack 11 = .ok (.invokestatic 51, 3) := by decide +kernel
theorem dX7_stack_14 : decode cX7_stack 14 = .ok (.ifCond .ne 5, 3) := by decide +kernel
theorem dX7_stack_17 : decode cX7_stack 17 = .ok (.iconst (-1), 1) := by decide +kernel
theorem dX7_stack_18 : decode cX7_stack 18 = .ok (.ireturn, 1) := by decide +kernel
theorem dX7_stack_19 : decode cX7_stack 19 = .ok (.aload_n 0, 1) := by decide +kernel
theorem dX7_stack_20 : decode cX7_stack 20 = .ok (.getfield 26, 3) := by decide +kernel
theorem dX7_stack_23 : decode cX7_stack 23 = .ok (.getfield 101, 3) := by decide +kernel
theorem dX7_stack_26 : decode cX7_stack 26 = .ok (.getfield 105, 3) := by decide +kernel
theorem dX7_stack_29 : decode cX7_stack 29 = .ok (.iconst 1, 1) := by decide +kernel
theorem dX7_stack_30 : decode cX7_stack 30 = .ok (.isub, 1) := by decide +kernel
theorem dX7_stack_31 : decode cX7_stack 31 = .ok (.iload_n 1, 1) := by decide +kernel
theorem dX7_stack_32 : decode cX7_stack 32 = .ok (.isub, 1) := by decide +kernel
theorem dX7_stack_33 : decode cX7_stack 33 = .ok (.istore_n 3, 1) := by decide +kernel
theorem dX7_stack_34 : decode cX7_stack 34 = .ok (.iload_n 2, 1) := by decide +kernel
theorem dX7_stack_35 : decode cX7_stack 35 = .ok (.tableswitch 80 0 3 #[29, 42, 55, 67], 29) := by decide +kernel
theorem dX7_stack_64 : decode cX7_stack 64 = .ok (.aload_n 0, 1) := by decide +kernel
theorem dX7_stack_65 : decode cX7_stack 65 = .ok (.getfield 26, 3) := by decide +kernel
theorem dX7_stack_68 : decode cX7_stack 68 = .ok (.getfield 101, 3) := by decide +kernel
theorem dX7_stack_71 : decode cX7_stack 71 = .ok (.getfield 136, 3) := by decide +kernel
theorem dX7_stack_74 : decode cX7_stack 74 = .ok (.iload_n 3, 1) := by decide +kernel
theorem dX7_stack_75 : decode cX7_stack 75 = .ok (.iaload, 1) := by decide +kernel
theorem dX7_stack_76 : decode cX7_stack 76 = .ok (.ireturn, 1) := by decide +kernel
theorem dX7_stack_77 : decode cX7_stack 77 = .ok (.aload_n 0, 1) := by decide +kernel
theorem dX7_stack_78 : decode cX7_stack 78 = .ok (.getfield 26, 3) := by decide +kernel
theorem dX7_stack_81 : decode cX7_stack 81 = .ok (.getfield 101, 3) := by decide +kernel
theorem dX7_stack_84 : decode cX7_stack 84 = .ok (.getfield 139, 3) := by decide +kernel
theorem dX7_stack_87 : decode cX7_stack 87 = .ok (.iload_n 3, 1) := by decide +kernel
theorem dX7_stack_88 : decode cX7_stack 88 = .ok (.iaload, 1) := by decide +kernel
theorem dX7_stack_89 : decode cX7_stack 89 = .ok (.ireturn, 1) := by decide +kernel
theorem dX7_stack_90 : decode cX7_stack 90 = .ok (.aload_n 0, 1) := by decide +kernel
theorem dX7_stack_91 : decode cX7_stack 91 = .ok (.getfield 26, 3) := by decide +kernel
theorem dX7_stack_94 : decode cX7_stack 94 = .ok (.getfield 101, 3) := by decide +kernel
theorem dX7_stack_97 : decode cX7_stack 97 = .ok (.iload_n 3, 1) := by decide +kernel
theorem dX7_stack_98 : decode cX7_stack 98 = .ok (.invokevirtual 142, 3) := by decide +kernel
theorem dX7_stack_101 : decode cX7_stack 101 = .ok (.ireturn, 1) := by decide +kernel
theorem dX7_stack_102 : decode cX7_stack 102 = .ok (.aload_n 0, 1) := by decide +kernel
theorem dX7_stack_103 : decode cX7_stack 103 = .ok (.getfield 26, 3) := by decide +kernel
theorem dX7_stack_106 : decode cX7_stack 106 = .ok (.getfield 101, 3) := by decide +kernel
theorem dX7_stack_109 : decode cX7_stack 109 = .ok (.getfield 145, 3) := by decide +kernel
theorem dX7_stack_112 : decode cX7_stack 112 = .ok (.iload_n 3, 1) := by decide +kernel
theorem dX7_stack_113 : decode cX7_stack 113 = .ok (.iaload, 1) := by decide +kernel
theorem dX7_stack_114 : decode cX7_stack 114 = .ok (.ireturn, 1) := by decide +kernel
theorem dX7_stack_115 : decode cX7_stack 115 = .ok (.bipush (-2), 2) := by decide +kernel
theorem dX7_stack_117 : decode cX7_stack 117 = .ok (.ireturn, 1) := by decide +kernel
theorem dX7_thread_0 : decode cX7_thread 0 = .ok (.iload_n 1, 1) := by decide +kernel
theorem dX7_thread_1 : decode cX7_thread 1 = .ok (.bipush 6, 2) := by decide +kernel
theorem dX7_thread_3 : decode cX7_thread 3 = .ok (.invokestatic 51, 3) := by decide +kernel
theorem dX7_thread_6 : decode cX7_thread 6 = .ok (.ifCond .ne 5, 3) := by decide +kernel
theorem dX7_thread_9 : decode cX7_thread 9 = .ok (.iconst (-1), 1) := by decide +kernel
theorem dX7_thread_10 : decode cX7_thread 10 = .ok (.ireturn, 1) := by decide +kernel
theorem dX7_thread_11 : decode cX7_thread 11 = .ok (.iload_n 2, 1) := by decide +kernel
theorem dX7_thread_12 : decode cX7_thread 12 = .ok (.tableswitch 98 0 5 #[40, 50, 60, 70, 80, 89], 40) := by decide +kernel
theorem dX7_thread_52 : decode cX7_thread 52 = .ok (.aload_n 0, 1) := by decide +kernel
theorem dX7_thread_53 : decode cX7_thread 53 = .ok (.getfield 26, 3) := by decide +kernel
theorem dX7_thread_56 : decode cX7_thread 56 = .ok (.getfield 148, 3) := by decide +kernel
theorem dX7_thread_59 : decode cX7_thread 59 = .ok (.iload_n 1, 1) := by decide +kernel
theorem dX7_thread_60 : decode cX7_thread 60 = .ok (.iaload, 1) := by decide +kernel
theorem dX7_thread_61 : decode cX7_thread 61 = .ok (.ireturn, 1) := by decide +kernel
theorem dX7_thread_62 : decode cX7_thread 62 = .ok (.aload_n 0, 1) := by decide +kernel
theorem dX7_thread_63 : decode cX7_thread 63 = .ok (.getfield 26, 3) := by decide +kernel
theorem dX7_thread_66 : decode cX7_thread 66 = .ok (.getfield 151, 3) := by decide +kernel
theorem dX7_thread_69 : decode cX7_thread 69 = .ok (.iload_n 1, 1) := by decide +kernel
theorem dX7_thread_70 : decode cX7_thread 70 = .ok (.iaload, 1) := by decide +kernel
theorem dX7_thread_71 : decode cX7_thread 71 = .ok (.ireturn, 1) := by decide +kernel
theorem dX7_thread_72 : decode cX7_thread 72 = .ok (.aload_n 0, 1) := by decide +kernel
theorem dX7_thread_73 : decode cX7_thread 73 = .ok (.getfield 26, 3) := by decide +kernel
theorem dX7_thread_76 : decode cX7_thread 76 = .ok (.getfield 154, 3) := by decide +kernel
theorem dX7_thread_79 : decode cX7_thread 79 = .ok (.iload_n 1, 1) := by decide +kernel
theorem dX7_thread_80 : decode cX7_thread 80 = .ok (.iaload, 1) := by decide +kernel
theorem dX7_thread_81 : decode cX7_thread 81 = .ok (.ireturn, 1) := by decide +kernel
theorem dX7_thread_82 : decode cX7_thread 82 = .ok (.aload_n 0, 1) := by decide +kernel
theorem dX7_thread_83 : decode cX7_thread 83 = .ok (.getfield 26, 3) := by decide +kernel
theorem dX7_thread_86 : decode cX7_thread 86 = .ok (.getfield 157, 3) := by decide +kernel
theorem dX7_thread_89 : decode cX7_thread 89 = .ok (.iload_n 1, 1) := by decide +kernel
theorem dX7_thread_90 : decode cX7_thread 90 = .ok (.iaload, 1) := by decide +kernel
theorem dX7_thread_91 : decode cX7_thread 91 = .ok (.ireturn, 1) := by decide +kernel
theorem dX7_thread_92 : decode cX7_thread 92 = .ok (.aload_n 0, 1) := by decide +kernel
theorem dX7_thread_93 : decode cX7_thread 93 = .ok (.getfield 26, 3) := by decide +kernel
theorem dX7_thread_96 : decode cX7_thread 96 = .ok (.iload_n 1, 1) := by decide +kernel
theorem dX7_thread_97 : decode cX7_thread 97 = .ok (.invokevirtual 160, 3) := by decide +kernel
theorem dX7_thread_100 : decode cX7_thread 100 = .ok (.ireturn, 1) := by decide +kernel
theorem dX7_thread_101 : decode cX7_thread 101 = .ok (.aload_n 0, 1) := by decide +kernel
theorem dX7_thread_102 : decode cX7_thread 102 = .ok (.getfield 26, 3) := by decide +kernel
theorem dX7_thread_105 : decode cX7_thread 105 = .ok (.iload_n 1, 1) := by decide +kernel
theorem dX7_thread_106 : decode cX7_thread 106 = .ok (.invokevirtual 163, 3) := by decide +kernel
theorem dX7_thread_109 : decode cX7_thread 109 = .ok (.ireturn, 1) := by decide +kernel
theorem dX7_thread_110 : decode cX7_thread 110 = .ok (.bipush (-2), 2) := by decide +kernel
theorem dX7_thread_112 : decode cX7_thread 112 = .ok (.ireturn, 1) := by decide +kernel
theorem dX7_pick_0 : decode cX7_pick 0 = .ok (.iload_n 1, 1) := by decide +kernel
theorem dX7_pick_1 : decode cX7_pick 1 = .ok (.aload_n 0, 1) := by decide +kernel
theorem dX7_pick_2 : decode cX7_pick 2 = .ok (.getfield 26, 3) := by decide +kernel
theorem dX7_pick_5 : decode cX7_pick 5 = .ok (.getfield 120, 3) := by decide +kernel
theorem dX7_pick_8 : decode cX7_pick 8 = .ok (.invokestatic 51, 3) := by decide +kernel
theorem dX7_pick_11 : decode cX7_pick 11 = .ok (.ifCond .ne 5, 3) := by decide +kernel
theorem dX7_pick_14 : decode cX7_pick 14 = .ok (.iconst (-1), 1) := by decide +kernel
theorem dX7_pick_15 : decode cX7_pick 15 = .ok (.ireturn, 1) := by decide +kernel
theorem dX7_pick_16 : decode cX7_pick 16 = .ok (.aload_n 0, 1) := by decide +kernel
theorem dX7_pick_17 : decode cX7_pick 17 = .ok (.getfield 26, 3) := by decide +kernel
theorem dX7_pick_20 : decode cX7_pick 20 = .ok (.getfield 166, 3) := by decide +kernel
theorem dX7_pick_23 : decode cX7_pick 23 = .ok (.iload_n 1, 1) := by decide +kernel
theorem dX7_pick_24 : decode cX7_pick 24 = .ok (.baload, 1) := by decide +kernel
theorem dX7_pick_25 : decode cX7_pick 25 = .ok (.ireturn, 1) := by decide +kernel
theorem dX7_byEnd_0 : decode cX7_byEnd 0 = .ok (.iload_n 1, 1) := by decide +kernel
theorem dX7_byEnd_1 : decode cX7_byEnd 1 = .ok (.bipush 6, 2) := by decide +kernel
theorem dX7_byEnd_3 : decode cX7_byEnd 3 = .ok (.invokestatic 51, 3) := by decide +kernel
theorem dX7_byEnd_6 : decode cX7_byEnd 6 = .ok (.ifCond .ne 5, 3) := by decide +kernel
theorem dX7_byEnd_9 : decode cX7_byEnd 9 = .ok (.iconst (-1), 1) := by decide +kernel
theorem dX7_byEnd_10 : decode cX7_byEnd 10 = .ok (.ireturn, 1) := by decide +kernel
theorem dX7_byEnd_11 : decode cX7_byEnd 11 = .ok (.iconst 0, 1) := by decide +kernel
theorem dX7_byEnd_12 : decode cX7_byEnd 12 = .ok (.istore_n 2, 1) := by decide +kernel
theorem dX7_byEnd_13 : decode cX7_byEnd 13 = .ok (.iload_n 2, 1) := by decide +kernel
theorem dX7_byEnd_14 : decode cX7_byEnd 14 = .ok (.bipush 6, 2) := by decide +kernel
theorem dX7_byEnd_16 : decode cX7_byEnd 16 = .ok (.if_icmp .ge 23, 3) := by decide +kernel
theorem dX7_byEnd_19 : decode cX7_byEnd 19 = .ok (.aload_n 0, 1) := by decide +kernel
theorem dX7_byEnd_20 : decode cX7_byEnd 20 = .ok (.getfield 26, 3) := by decide +kernel
theorem dX7_byEnd_23 : decode cX7_byEnd 23 = .ok (.iload_n 2, 1) := by decide +kernel
theorem dX7_byEnd_24 : decode cX7_byEnd 24 = .ok (.invokevirtual 170, 3) := by decide +kernel
theorem dX7_byEnd_27 : decode cX7_byEnd 27 = .ok (.iload_n 1, 1) := by decide +kernel
theorem dX7_byEnd_28 : decode cX7_byEnd 28 = .ok (.if_icmp .ne 5, 3) := by decide +kernel
theorem dX7_byEnd_31 : decode cX7_byEnd 31 = .ok (.iload_n 2, 1) := by decide +kernel
theorem dX7_byEnd_32 : decode cX7_byEnd 32 = .ok (.ireturn, 1) := by decide +kernel
theorem dX7_byEnd_33 : decode cX7_byEnd 33 = .ok (.iinc 2 1, 3) := by decide +kernel
theorem dX7_byEnd_36 : decode cX7_byEnd 36 = .ok (.goto (-23), 3) := by decide +kernel
theorem dX7_byEnd_39 : decode cX7_byEnd 39 = .ok (.iconst (-1), 1) := by decide +kernel
theorem dX7_byEnd_40 : decode cX7_byEnd 40 = .ok (.ireturn, 1) := by decide +kernel
theorem dX7_byCloth_0 : decode cX7_byCloth 0 = .ok (.iload_n 1, 1) := by decide +kernel
theorem dX7_byCloth_1 : decode cX7_byCloth 1 = .ok (.bipush 6, 2) := by decide +kernel
theorem dX7_byCloth_3 : decode cX7_byCloth 3 = .ok (.invokestatic 51, 3) := by decide +kernel
theorem dX7_byCloth_6 : decode cX7_byCloth 6 = .ok (.ifCond .ne 5, 3) := by decide +kernel
theorem dX7_byCloth_9 : decode cX7_byCloth 9 = .ok (.iconst (-1), 1) := by decide +kernel
theorem dX7_byCloth_10 : decode cX7_byCloth 10 = .ok (.ireturn, 1) := by decide +kernel
theorem dX7_byCloth_11 : decode cX7_byCloth 11 = .ok (.iconst 0, 1) := by decide +kernel
theorem dX7_byCloth_12 : decode cX7_byCloth 12 = .ok (.istore_n 2, 1) := by decide +kernel
theorem dX7_byCloth_13 : decode cX7_byCloth 13 = .ok (.iload_n 2, 1) := by decide +kernel
theorem dX7_byCloth_14 : decode cX7_byCloth 14 = .ok (.bipush 6, 2) := by decide +kernel
theorem dX7_byCloth_16 : decode cX7_byCloth 16 = .ok (.if_icmp .ge 34, 3) := by decide +kernel
theorem dX7_byCloth_19 : decode cX7_byCloth 19 = .ok (.aload_n 0, 1) := by decide +kernel
theorem dX7_byCloth_20 : decode cX7_byCloth 20 = .ok (.getfield 26, 3) := by decide +kernel
theorem dX7_byCloth_23 : decode cX7_byCloth 23 = .ok (.iload_n 2, 1) := by decide +kernel
theorem dX7_byCloth_24 : decode cX7_byCloth 24 = .ok (.invokevirtual 160, 3) := by decide +kernel
theorem dX7_byCloth_27 : decode cX7_byCloth 27 = .ok (.ifCond .le 17, 3) := by decide +kernel
theorem dX7_byCloth_30 : decode cX7_byCloth 30 = .ok (.aload_n 0, 1) := by decide +kernel
theorem dX7_byCloth_31 : decode cX7_byCloth 31 = .ok (.getfield 26, 3) := by decide +kernel
theorem dX7_byCloth_34 : decode cX7_byCloth 34 = .ok (.iload_n 2, 1) := by decide +kernel
theorem dX7_byCloth_35 : decode cX7_byCloth 35 = .ok (.invokevirtual 173, 3) := by decide +kernel
theorem dX7_byCloth_38 : decode cX7_byCloth 38 = .ok (.iload_n 1, 1) := by decide +kernel
theorem dX7_byCloth_39 : decode cX7_byCloth 39 = .ok (.if_icmp .ne 5, 3) := by decide +kernel
theorem dX7_byCloth_42 : decode cX7_byCloth 42 = .ok (.iload_n 2, 1) := by decide +kernel
theorem dX7_byCloth_43 : decode cX7_byCloth 43 = .ok (.ireturn, 1) := by decide +kernel
theorem dX7_byCloth_44 : decode cX7_byCloth 44 = .ok (.iinc 2 1, 3) := by decide +kernel
theorem dX7_byCloth_47 : decode cX7_byCloth 47 = .ok (.goto (-34), 3) := by decide +kernel
theorem dX7_byCloth_50 : decode cX7_byCloth 50 = .ok (.iconst (-1), 1) := by decide +kernel
theorem dX7_byCloth_51 : decode cX7_byCloth 51 = .ok (.ireturn, 1) := by decide +kernel
theorem dX7_count_0 : decode cX7_count 0 = .ok (.iload_n 1, 1) := by decide +kernel
theorem dX7_count_1 : decode cX7_count 1 = .ok (.tableswitch 204 0 13 #[71, 82, 93, 101, 112, 120, 128, 136, 147, 158, 168, 178, 188, 196], 71) := by decide +kernel
theorem dX7_count_72 : decode cX7_count 72 = .ok (.aload_n 0, 1) := by decide +kernel
theorem dX7_count_73 : decode cX7_count 73 = .ok (.getfield 26, 3) := by decide +kernel
theorem dX7_count_76 : decode cX7_count 76 = .ok (.getfield 77, 3) := by decide +kernel
theorem dX7_count_79 : decode cX7_count 79 = .ok (.invokestatic 184, 3) := by decide +kernel
theorem dX7_count_82 : decode cX7_count 82 = .ok (.ireturn, 1) := by decide +kernel
theorem dX7_count_83 : decode cX7_count 83 = .ok (.aload_n 0, 1) := by decide +kernel
theorem dX7_count_84 : decode cX7_count 84 = .ok (.getfield 26, 3) := by decide +kernel
theorem dX7_count_87 : decode cX7_count 87 = .ok (.getfield 101, 3) := by decide +kernel
theorem dX7_count_90 : decode cX7_count 90 = .ok (.getfield 105, 3) := by decide +kernel
theorem dX7_count_93 : decode cX7_count 93 = .ok (.ireturn, 1) := by decide +kernel
theorem dX7_count_94 : decode cX7_count 94 = .ok (.aload_n 0, 1) := by decide +kernel
theorem dX7_count_95 : decode cX7_count 95 = .ok (.getfield 26, 3) := by decide +kernel
theorem dX7_count_98 : decode cX7_count 98 = .ok (.getfield 120, 3) := by decide +kernel
theorem dX7_count_101 : decode cX7_count 101 = .ok (.ireturn, 1) := by decide +kernel
theorem dX7_count_102 : decode cX7_count 102 = .ok (.aload_n 0, 1) := by decide +kernel
theorem dX7_count_103 : decode cX7_count 103 = .ok (.getfield 26, 3) := by decide +kernel
theorem dX7_count_106 : decode cX7_count 106 = .ok (.getfield 157, 3) := by decide +kernel
theorem dX7_count_109 : decode cX7_count 109 = .ok (.invokestatic 188, 3) := by decide +kernel
theorem dX7_count_112 : decode cX7_count 112 = .ok (.ireturn, 1) := by decide +kernel
theorem dX7_count_113 : decode cX7_count 113 = .ok (.aload_n 0, 1) := by decide +kernel
theorem dX7_count_114 : decode cX7_count 114 = .ok (.getfield 26, 3) := by decide +kernel
theorem dX7_count_117 : decode cX7_count 117 = .ok (.getfield 192, 3) := by decide +kernel
theorem dX7_count_120 : decode cX7_count 120 = .ok (.ireturn, 1) := by decide +kernel
theorem dX7_count_121 : decode cX7_count 121 = .ok (.aload_n 0, 1) := by decide +kernel
theorem dX7_count_122 : decode cX7_count 122 = .ok (.getfield 26, 3) := by decide +kernel
theorem dX7_count_125 : decode cX7_count 125 = .ok (.getfield 195, 3) := by decide +kernel
theorem dX7_count_128 : decode cX7_count 128 = .ok (.ireturn, 1) := by decide +kernel
theorem dX7_count_129 : decode cX7_count 129 = .ok (.aload_n 0, 1) := by decide +kernel
theorem dX7_count_130 : decode cX7_count 130 = .ok (.getfield 26, 3) := by decide +kernel
theorem dX7_count_133 : decode cX7_count 133 = .ok (.getfield 196, 3) := by decide +kernel
theorem dX7_count_136 : decode cX7_count 136 = .ok (.ireturn, 1) := by decide +kernel
theorem dX7_count_137 : decode cX7_count 137 = .ok (.aload_n 0, 1) := by decide +kernel
theorem dX7_count_138 : decode cX7_count 138 = .ok (.getfield 26, 3) := by decide +kernel
theorem dX7_count_141 : decode cX7_count 141 = .ok (.getfield 154, 3) := by decide +kernel
theorem dX7_count_144 : decode cX7_count 144 = .ok (.invokestatic 188, 3) := by decide +kernel
theorem dX7_count_147 : decode cX7_count 147 = .ok (.ireturn, 1) := by decide +kernel
theorem dX7_count_148 : decode cX7_count 148 = .ok (.aload_n 0, 1) := by decide +kernel
theorem dX7_count_149 : decode cX7_count 149 = .ok (.getfield 26, 3) := by decide +kernel
theorem dX7_count_152 : decode cX7_count 152 = .ok (.getfield 148, 3) := by decide +kernel
theorem dX7_count_155 : decode cX7_count 155 = .ok (.invokestatic 188, 3) := by decide +kernel
theorem dX7_count_158 : decode cX7_count 158 = .ok (.ireturn, 1) := by decide +kernel
theorem dX7_count_159 : decode cX7_count 159 = .ok (.aload_n 0, 1) := by decide +kernel
theorem dX7_count_160 : decode cX7_count 160 = .ok (.getfield 26, 3) := by decide +kernel
theorem dX7_count_163 : decode cX7_count 163 = .ok (.getfield 66, 3) := by decide +kernel
theorem dX7_count_166 : decode cX7_count 166 = .ok (.iconst 0, 1) := by decide +kernel
theorem dX7_count_167 : decode cX7_count 167 = .ok (.iaload, 1) := by decide +kernel
theorem dX7_count_168 : decode cX7_count 168 = .ok (.ireturn, 1) := by decide +kernel
theorem dX7_count_169 : decode cX7_count 169 = .ok (.aload_n 0, 1) := by decide +kernel
theorem dX7_count_170 : decode cX7_count 170 = .ok (.getfield 26, 3) := by decide +kernel
theorem dX7_count_173 : decode cX7_count 173 = .ok (.getfield 66, 3) := by decide +kernel
theorem dX7_count_176 : decode cX7_count 176 = .ok (.iconst 1, 1) := by decide +kernel
theorem dX7_count_177 : decode cX7_count 177 = .ok (.iaload, 1) := by decide +kernel
theorem dX7_count_178 : decode cX7_count 178 = .ok (.ireturn, 1) := by decide +kernel
theorem dX7_count_179 : decode cX7_count 179 = .ok (.aload_n 0, 1) := by decide +kernel
theorem dX7_count_180 : decode cX7_count 180 = .ok (.getfield 26, 3) := by decide +kernel
theorem dX7_count_183 : decode cX7_count 183 = .ok (.getfield 66, 3) := by decide +kernel
theorem dX7_count_186 : decode cX7_count 186 = .ok (.iconst 2, 1) := by decide +kernel
theorem dX7_count_187 : decode cX7_count 187 = .ok (.iaload, 1) := by decide +kernel
theorem dX7_count_188 : decode cX7_count 188 = .ok (.ireturn, 1) := by decide +kernel
theorem dX7_count_189 : decode cX7_count 189 = .ok (.aload_n 0, 1) := by decide +kernel
theorem dX7_count_190 : decode cX7_count 190 = .ok (.getfield 10, 3) := by decide +kernel
theorem dX7_count_193 : decode cX7_count 193 = .ok (.getfield 81, 3) := by decide +kernel
theorem dX7_count_196 : decode cX7_count 196 = .ok (.ireturn, 1) := by decide +kernel
theorem dX7_count_197 : decode cX7_count 197 = .ok (.aload_n 0, 1) := by decide +kernel
theorem dX7_count_198 : decode cX7_count 198 = .ok (.getfield 36, 3) := by decide +kernel
theorem dX7_count_201 : decode cX7_count 201 = .ok (.getfield 199, 3) := by decide +kernel
theorem dX7_count_204 : decode cX7_count 204 = .ok (.ireturn, 1) := by decide +kernel
theorem dX7_count_205 : decode cX7_count 205 = .ok (.bipush (-2), 2) := by decide +kernel
theorem dX7_count_207 : decode cX7_count 207 = .ok (.ireturn, 1) := by decide +kernel
theorem dX7_put_0 : decode cX7_put 0 = .ok (.lload_n 1, 1) := by decide +kernel
theorem dX7_put_1 : decode cX7_put 1 = .ok (.invokestatic 216, 3) := by decide +kernel
theorem dX7_put_4 : decode cX7_put 4 = .ok (.istore_n 3, 1) := by decide +kernel
theorem dX7_put_5 : decode cX7_put 5 = .ok (.iload_n 3, 1) := by decide +kernel
theorem dX7_put_6 : decode cX7_put 6 = .ok (.ifCond .ne 6, 3) := by decide +kernel
theorem dX7_put_9 : decode cX7_put 9 = .ok (.bipush (-2), 2) := by decide +kernel
theorem dX7_put_11 : decode cX7_put 11 = .ok (.ireturn, 1) := by decide +kernel
theorem dX7_put_12 : decode cX7_put 12 = .ok (.iload_n 3, 1) := by decide +kernel
theorem dX7_put_13 : decode cX7_put 13 = .ok (.bipush 80, 2) := by decide +kernel
theorem dX7_put_15 : decode cX7_put 15 = .ok (.aload_n 0, 1) := by decide +kernel
theorem dX7_put_16 : decode cX7_put 16 = .ok (.getfield 10, 3) := by decide +kernel
theorem dX7_put_19 : decode cX7_put 19 = .ok (.getfield 81, 3) := by decide +kernel
theorem dX7_put_22 : decode cX7_put 22 = .ok (.isub, 1) := by decide +kernel
theorem dX7_put_23 : decode cX7_put 23 = .ok (.if_icmp .le 6, 3) := by decide +kernel
theorem dX7_put_26 : decode cX7_put 26 = .ok (.bipush (-4), 2) := by decide +kernel
theorem dX7_put_28 : decode cX7_put 28 = .ok (.ireturn, 1) := by decide +kernel
theorem dX7_put_29 : decode cX7_put 29 = .ok (.aload_n 0, 1) := by decide +kernel
theorem dX7_put_30 : decode cX7_put 30 = .ok (.getfield 10, 3) := by decide +kernel
theorem dX7_put_33 : decode cX7_put 33 = .ok (.lload_n 1, 1) := by decide +kernel
theorem dX7_put_34 : decode cX7_put 34 = .ok (.iload_n 3, 1) := by decide +kernel
theorem dX7_put_35 : decode cX7_put 35 = .ok (.invokevirtual 220, 3) := by decide +kernel
theorem dX7_put_38 : decode cX7_put 38 = .ok (.aload_n 0, 1) := by decide +kernel
theorem dX7_put_39 : decode cX7_put 39 = .ok (.getfield 10, 3) := by decide +kernel
theorem dX7_put_42 : decode cX7_put 42 = .ok (.getfield 81, 3) := by decide +kernel
theorem dX7_put_45 : decode cX7_put 45 = .ok (.ireturn, 1) := by decide +kernel
theorem dX7_wipe_0 : decode cX7_wipe 0 = .ok (.aload_n 0, 1) := by decide +kernel
theorem dX7_wipe_1 : decode cX7_wipe 1 = .ok (.getfield 10, 3) := by decide +kernel
theorem dX7_wipe_4 : decode cX7_wipe 4 = .ok (.getfield 81, 3) := by decide +kernel
theorem dX7_wipe_7 : decode cX7_wipe 7 = .ok (.istore_n 1, 1) := by decide +kernel
theorem dX7_wipe_8 : decode cX7_wipe 8 = .ok (.aload_n 0, 1) := by decide +kernel
theorem dX7_wipe_9 : decode cX7_wipe 9 = .ok (.getfield 10, 3) := by decide +kernel
theorem dX7_wipe_12 : decode cX7_wipe 12 = .ok (.iconst 0, 1) := by decide +kernel
theorem dX7_wipe_13 : decode cX7_wipe 13 = .ok (.putfield 81, 3) := by decide +kernel
theorem dX7_wipe_16 : decode cX7_wipe 16 = .ok (.iload_n 1, 1) := by decide +kernel
theorem dX7_wipe_17 : decode cX7_wipe 17 = .ok (.ireturn, 1) := by decide +kernel
theorem dX7_undo_0 : decode cX7_undo 0 = .ok (.aload_n 0, 1) := by decide +kernel
theorem dX7_undo_1 : decode cX7_undo 1 = .ok (.getfield 36, 3) := by decide +kernel
theorem dX7_undo_4 : decode cX7_undo 4 = .ok (.getfield 199, 3) := by decide +kernel
theorem dX7_undo_7 : decode cX7_undo 7 = .ok (.ifCond .ne 6, 3) := by decide +kernel
theorem dX7_undo_10 : decode cX7_undo 10 = .ok (.bipush (-5), 2) := by decide +kernel
theorem dX7_undo_12 : decode cX7_undo 12 = .ok (.ireturn, 1) := by decide +kernel
theorem dX7_undo_13 : decode cX7_undo 13 = .ok (.aload_n 0, 1) := by decide +kernel
theorem dX7_undo_14 : decode cX7_undo 14 = .ok (.getfield 36, 3) := by decide +kernel
theorem dX7_undo_17 : decode cX7_undo 17 = .ok (.aload_n 0, 1) := by decide +kernel
theorem dX7_undo_18 : decode cX7_undo 18 = .ok (.getfield 26, 3) := by decide +kernel
theorem dX7_undo_21 : decode cX7_undo 21 = .ok (.invokevirtual 224, 3) := by decide +kernel
theorem dX7_undo_24 : decode cX7_undo 24 = .ok (.aload_n 0, 1) := by decide +kernel
theorem dX7_undo_25 : decode cX7_undo 25 = .ok (.getfield 36, 3) := by decide +kernel
theorem dX7_undo_28 : decode cX7_undo 28 = .ok (.getfield 199, 3) := by decide +kernel
theorem dX7_undo_31 : decode cX7_undo 31 = .ok (.ireturn, 1) := by decide +kernel
theorem dX7_inRange_0 : decode cX7_inRange 0 = .ok (.iload_n 0, 1) := by decide +kernel
theorem dX7_inRange_1 : decode cX7_inRange 1 = .ok (.ifCond .lt 12, 3) := by decide +kernel
theorem dX7_inRange_4 : decode cX7_inRange 4 = .ok (.iload_n 0, 1) := by decide +kernel
theorem dX7_inRange_5 : decode cX7_inRange 5 = .ok (.iload_n 1, 1) := by decide +kernel
theorem dX7_inRange_6 : decode cX7_inRange 6 = .ok (.if_icmp .ge 7, 3) := by decide +kernel
theorem dX7_inRange_9 : decode cX7_inRange 9 = .ok (.iconst 1, 1) := by decide +kernel
theorem dX7_inRange_10 : decode cX7_inRange 10 = .ok (.goto 4, 3) := by decide +kernel
theorem dX7_inRange_13 : decode cX7_inRange 13 = .ok (.iconst 0, 1) := by decide +kernel
theorem dX7_inRange_14 : decode cX7_inRange 14 = .ok (.ireturn, 1) := by decide +kernel
theorem dX7_sum_0 : decode cX7_sum 0 = .ok (.iconst 0, 1) := by decide +kernel
theorem dX7_sum_1 : decode cX7_sum 1 = .ok (.istore_n 1, 1) := by decide +kernel
theorem dX7_sum_2 : decode cX7_sum 2 = .ok (.aload_n 0, 1) := by decide +kernel
theorem dX7_sum_3 : decode cX7_sum 3 = .ok (.astore_n 2, 1) := by decide +kernel
theorem dX7_sum_4 : decode cX7_sum 4 = .ok (.aload_n 2, 1) := by decide +kernel
theorem dX7_sum_5 : decode cX7_sum 5 = .ok (.arraylength, 1) := by decide +kernel
theorem dX7_sum_6 : decode cX7_sum 6 = .ok (.istore_n 3, 1) := by decide +kernel
theorem dX7_sum_7 : decode cX7_sum 7 = .ok (.iconst 0, 1) := by decide +kernel
theorem dX7_sum_8 : decode cX7_sum 8 = .ok (.istore 4, 2) := by decide +kernel
theorem dX7_sum_10 : decode cX7_sum 10 = .ok (.iload 4, 2) := by decide +kernel
theorem dX7_sum_12 : decode cX7_sum 12 = .ok (.iload_n 3, 1) := by decide +kernel
theorem dX7_sum_13 : decode cX7_sum 13 = .ok (.if_icmp .ge 20, 3) := by decide +kernel
theorem dX7_sum_16 : decode cX7_sum 16 = .ok (.aload_n 2, 1) := by decide +kernel
theorem dX7_sum_17 : decode cX7_sum 17 = .ok (.iload 4, 2) := by decide +kernel
theorem dX7_sum_19 : decode cX7_sum 19 = .ok (.iaload, 1) := by decide +kernel
theorem dX7_sum_20 : decode cX7_sum 20 = .ok (.istore 5, 2) := by decide +kernel
theorem dX7_sum_22 : decode cX7_sum 22 = .ok (.iload_n 1, 1) := by decide +kernel
theorem dX7_sum_23 : decode cX7_sum 23 = .ok (.iload 5, 2) := by decide +kernel
theorem dX7_sum_25 : decode cX7_sum 25 = .ok (.iadd, 1) := by decide +kernel
theorem dX7_sum_26 : decode cX7_sum 26 = .ok (.istore_n 1, 1) := by decide +kernel
theorem dX7_sum_27 : decode cX7_sum 27 = .ok (.iinc 4 1, 3) := by decide +kernel
theorem dX7_sum_30 : decode cX7_sum 30 = .ok (.goto (-20), 3) := by decide +kernel
theorem dX7_sum_33 : decode cX7_sum 33 = .ok (.iload_n 1, 1) := by decide +kernel
theorem dX7_sum_34 : decode cX7_sum 34 = .ok (.ireturn, 1) := by decide +kernel
theorem dX7_copyRow_0 : decode cX7_copyRow 0 = .ok (.aload_n 0, 1) := by decide +kernel
theorem dX7_copyRow_1 : decode cX7_copyRow 1 = .ok (.iconst 0, 1) := by decide +kernel
theorem dX7_copyRow_2 : decode cX7_copyRow 2 = .ok (.aload_n 1, 1) := by decide +kernel
theorem dX7_copyRow_3 : decode cX7_copyRow 3 = .ok (.iconst 0, 1) := by decide +kernel
theorem dX7_copyRow_4 : decode cX7_copyRow 4 = .ok (.aload_n 0, 1) := by decide +kernel
theorem dX7_copyRow_5 : decode cX7_copyRow 5 = .ok (.arraylength, 1) := by decide +kernel
theorem dX7_copyRow_6 : decode cX7_copyRow 6 = .ok (.aload_n 1, 1) := by decide +kernel
theorem dX7_copyRow_7 : decode cX7_copyRow 7 = .ok (.arraylength, 1) := by decide +kernel
theorem dX7_copyRow_8 : decode cX7_copyRow 8 = .ok (.invokestatic 227, 3) := by decide +kernel
theorem dX7_copyRow_11 : decode cX7_copyRow 11 = .ok (.invokestatic 232, 3) := by decide +kernel
theorem dX7_copyRow_14 : decode cX7_copyRow 14 = .ok (.return_, 1) := by decide +kernel
theorem dX7_copyTexts_0 : decode cX7_copyTexts 0 = .ok (.aload_n 0, 1) := by decide +kernel
theorem dX7_copyTexts_1 : decode cX7_copyTexts 1 = .ok (.arraylength, 1) := by decide +kernel
theorem dX7_copyTexts_2 : decode cX7_copyTexts 2 = .ok (.aload_n 1, 1) := by decide +kernel
theorem dX7_copyTexts_3 : decode cX7_copyTexts 3 = .ok (.arraylength, 1) := by decide +kernel
theorem dX7_copyTexts_4 : decode cX7_copyTexts 4 = .ok (.invokestatic 227, 3) := by decide +kernel
theorem dX7_copyTexts_7 : decode cX7_copyTexts 7 = .ok (.istore_n 2, 1) := by decide +kernel
theorem dX7_copyTexts_8 : decode cX7_copyTexts 8 = .ok (.iconst 0, 1) := by decide +kernel
theorem dX7_copyTexts_9 : decode cX7_copyTexts 9 = .ok (.istore_n 3, 1) := by decide +kernel
theorem dX7_copyTexts_10 : decode cX7_copyTexts 10 = .ok (.iload_n 3, 1) := by decide +kernel
theorem dX7_copyTexts_11 : decode cX7_copyTexts 11 = .ok (.iload_n 2, 1) := by decide +kernel
theorem dX7_copyTexts_12 : decode cX7_copyTexts 12 = .ok (.if_icmp .ge 15, 3) := by decide +kernel
theorem dX7_copyTexts_15 : decode cX7_copyTexts 15 = .ok (.aload_n 1, 1) := by decide +kernel
theorem dX7_copyTexts_16 : decode cX7_copyTexts 16 = .ok (.iload_n 3, 1) := by decide +kernel
theorem dX7_copyTexts_17 : decode cX7_copyTexts 17 = .ok (.aload_n 0, 1) := by decide +kernel
theorem dX7_copyTexts_18 : decode cX7_copyTexts 18 = .ok (.iload_n 3, 1) := by decide +kernel
theorem dX7_copyTexts_19 : decode cX7_copyTexts 19 = .ok (.aaload, 1) := by decide +kernel
theorem dX7_copyTexts_20 : decode cX7_copyTexts 20 = .ok (.aastore, 1) := by decide +kernel
theorem dX7_copyTexts_21 : decode cX7_copyTexts 21 = .ok (.iinc 3 1, 3) := by decide +kernel
theorem dX7_copyTexts_24 : decode cX7_copyTexts 24 = .ok (.goto (-14), 3) := by decide +kernel
theorem dX7_copyTexts_27 : decode cX7_copyTexts 27 = .ok (.return_, 1) := by decide +kernel
