theorem dX8_init_0 : decode cX8_init 0 = .ok (.aload_n 0, 1) := by decide +kernel
theorem dX8_init_1 : decode cX8_init 1 = .ok (.invokespecial 1, 3) := by decide +kernel
theorem dX8_init_4 : decode cX8_init 4 = .ok (.aload_n 0, 1) := by decide +kernel
theorem dX8_init_5 : decode cX8_init 5 = .ok (.sipush 2081, 3) := by decide +kernel
theorem dX8_init_8 : decode cX8_init 8 = .ok (.newarray .int, 2) := by decide +kernel
theorem dX8_init_10 : decode cX8_init 10 = .ok (.putfield 7, 3) := by decide +kernel
theorem dX8_init_13 : decode cX8_init 13 = .ok (.aload_n 0, 1) := by decide +kernel
theorem dX8_init_14 : decode cX8_init 14 = .ok (.sipush 2081, 3) := by decide +kernel
theorem dX8_init_17 : decode cX8_init 17 = .ok (.newarray .int, 2) := by decide +kernel
theorem dX8_init_19 : decode cX8_init 19 = .ok (.putfield 13, 3) := by decide +kernel
theorem dX8_init_22 : decode cX8_init 22 = .ok (.aload_n 0, 1) := by decide +kernel
theorem dX8_init_23 : decode cX8_init 23 = .ok (.sipush 12486, 3) := by decide +kernel
theorem dX8_init_26 : decode cX8_init 26 = .ok (.newarray .int, 2) := by decide +kernel
theorem dX8_init_28 : decode cX8_init 28 = .ok (.putfield 16, 3) := by decide +kernel
theorem dX8_init_31 : decode cX8_init 31 = .ok (.aload_n 0, 1) := by decide +kernel
theorem dX8_init_32 : decode cX8_init 32 = .ok (.sipush 4162, 3) := by decide +kernel
theorem dX8_init_35 : decode cX8_init 35 = .ok (.newarray .int, 2) := by decide +kernel
theorem dX8_init_37 : decode cX8_init 37 = .ok (.putfield 19, 3) := by decide +kernel
theorem dX8_init_40 : decode cX8_init 40 = .ok (.aload_n 0, 1) := by decide +kernel
theorem dX8_init_41 : decode cX8_init 41 = .ok (.iconst 2, 1) := by decide +kernel
theorem dX8_init_42 : decode cX8_init 42 = .ok (.newarray .int, 2) := by decide +kernel
theorem dX8_init_44 : decode cX8_init 44 = .ok (.putfield 22, 3) := by decide +kernel
theorem dX8_init_47 : decode cX8_init 47 = .ok (.aload_n 0, 1) := by decide +kernel
theorem dX8_init_48 : decode cX8_init 48 = .ok (.bipush 80, 2) := by decide +kernel
theorem dX8_init_50 : decode cX8_init 50 = .ok (.newarray .int, 2) := by decide +kernel
theorem dX8_init_52 : decode cX8_init 52 = .ok (.putfield 25, 3) := by decide +kernel
theorem dX8_init_55 : decode cX8_init 55 = .ok (.aload_n 0, 1) := by decide +kernel
theorem dX8_init_56 : decode cX8_init 56 = .ok (.sipush 360, 3) := by decide +kernel
theorem dX8_init_59 : decode cX8_init 59 = .ok (.newarray .int, 2) := by decide +kernel
theorem dX8_init_61 : decode cX8_init 61 = .ok (.putfield 28, 3) := by decide +kernel
theorem dX8_init_64 : decode cX8_init 64 = .ok (.aload_n 0, 1) := by decide +kernel
theorem dX8_init_65 : decode cX8_init 65 = .ok (.bipush 10, 2) := by decide +kernel
theorem dX8_init_67 : decode cX8_init 67 = .ok (.newarray .int, 2) := by decide +kernel
theorem dX8_init_69 : decode cX8_init 69 = .ok (.putfield 31, 3) := by decide +kernel
theorem dX8_init_72 : decode cX8_init 72 = .ok (.aload_n 0, 1) := by decide +kernel
theorem dX8_init_73 : decode cX8_init 73 = .ok (.iconst 3, 1) := by decide +kernel
theorem dX8_init_74 : decode cX8_init 74 = .ok (.newarray .int, 2) := by decide +kernel
theorem dX8_init_76 : decode cX8_init 76 = .ok (.putfield 34, 3) := by decide +kernel
theorem dX8_init_79 : decode cX8_init 79 = .ok (.aload_n 0, 1) := by decide +kernel
theorem dX8_init_80 : decode cX8_init 80 = .ok (.iconst 3, 1) := by decide +kernel
theorem dX8_init_81 : decode cX8_init 81 = .ok (.newarray .int, 2) := by decide +kernel
theorem dX8_init_83 : decode cX8_init 83 = .ok (.putfield 37, 3) := by decide +kernel
theorem dX8_init_86 : decode cX8_init 86 = .ok (.aload_n 0, 1) := by decide +kernel
theorem dX8_init_87 : decode cX8_init 87 = .ok (.getfield 7, 3) := by decide +kernel
theorem dX8_init_90 : decode cX8_init 90 = .ok (.iconst 0, 1) := by decide +kernel
theorem dX8_init_91 : decode cX8_init 91 = .ok (.iconst 5, 1) := by decide +kernel
theorem dX8_init_92 : decode cX8_init 92 = .ok (.iastore, 1) := by decide +kernel
theorem dX8_init_93 : decode cX8_init 93 = .ok (.aload_n 0, 1) := by decide +kernel
theorem dX8_init_94 : decode cX8_init 94 = .ok (.getfield 7, 3) := by decide +kernel
theorem dX8_init_97 : decode cX8_init 97 = .ok (.iconst 1, 1) := by decide +kernel
theorem dX8_init_98 : decode cX8_init 98 = .ok (.bipush 20, 2) := by decide +kernel
theorem dX8_init_100 : decode cX8_init 100 = .ok (.iastore, 1) := by decide +kernel
theorem dX8_init_101 : decode cX8_init 101 = .ok (.aload_n 0, 1) := by decide +kernel
theorem dX8_init_102 : decode cX8_init 102 = .ok (.getfield 7, 3) := by decide +kernel
theorem dX8_init_105 : decode cX8_init 105 = .ok (.iconst 2, 1) := by decide +kernel
theorem dX8_init_106 : decode cX8_init 106 = .ok (.bipush 10, 2) := by decide +kernel
theorem dX8_init_108 : decode cX8_init 108 = .ok (.iastore, 1) := by decide +kernel
theorem dX8_init_109 : decode cX8_init 109 = .ok (.iconst 0, 1) := by decide +kernel
theorem dX8_init_110 : decode cX8_init 110 = .ok (.istore_n 1, 1) := by decide +kernel
theorem dX8_init_111 : decode cX8_init 111 = .ok (.iload_n 1, 1) := by decide +kernel
theorem dX8_init_112 : decode cX8_init 112 = .ok (.bipush 6, 2) := by decide +kernel
theorem dX8_init_114 : decode cX8_init 114 = .ok (.if_icmp .ge 20, 3) := by decide +kernel
theorem dX8_init_117 : decode cX8_init 117 = .ok (.aload_n 0, 1) := by decide +kernel
theorem dX8_init_118 : decode cX8_init 118 = .ok (.getfield 7, 3) := by decide +kernel
theorem dX8_init_121 : decode cX8_init 121 = .ok (.bipush 19, 2) := by decide +kernel
theorem dX8_init_123 : decode cX8_init 123 = .ok (.iload_n 1, 1) := by decide +kernel
theorem dX8_init_124 : decode cX8_init 124 = .ok (.iadd, 1) := by decide +kernel
theorem dX8_init_125 : decode cX8_init 125 = .ok (.bipush 50, 2) := by decide +kernel
theorem dX8_init_127 : decode cX8_init 127 = .ok (.iastore, 1) := by decide +kernel
theorem dX8_init_128 : decode cX8_init 128 = .ok (.iinc 1 1, 3) := by decide +kernel
theorem dX8_init_131 : decode cX8_init 131 = .ok (.goto (-20), 3) := by decide +kernel
theorem dX8_init_134 : decode cX8_init 134 = .ok (.return_, 1) := by decide +kernel
theorem dX8_within_0 : decode cX8_within 0 = .ok (.iload_n 0, 1) := by decide +kernel
theorem dX8_within_1 : decode cX8_within 1 = .ok (.iload_n 1, 1) := by decide +kernel
theorem dX8_within_2 : decode cX8_within 2 = .ok (.if_icmp .lt 12, 3) := by decide +kernel
theorem dX8_within_5 : decode cX8_within 5 = .ok (.iload_n 0, 1) := by decide +kernel
theorem dX8_within_6 : decode cX8_within 6 = .ok (.iload_n 2, 1) := by decide +kernel
theorem dX8_within_7 : decode cX8_within 7 = .ok (.if_icmp .gt 7, 3) := by decide +kernel
theorem dX8_within_10 : decode cX8_within 10 = .ok (.iconst 1, 1) := by decide +kernel
theorem dX8_within_11 : decode cX8_within 11 = .ok (.goto 4, 3) := by decide +kernel
theorem dX8_within_14 : decode cX8_within 14 = .ok (.iconst 0, 1) := by decide +kernel
theorem dX8_within_15 : decode cX8_within 15 = .ok (.ireturn, 1) := by decide +kernel
theorem dX8_isCard_0 : decode cX8_isCard 0 = .ok (.iload_n 0, 1) := by decide +kernel
theorem dX8_isCard_1 : decode cX8_isCard 1 = .ok (.iconst 0, 1) := by decide +kernel
theorem dX8_isCard_2 : decode cX8_isCard 2 = .ok (.bipush 9, 2) := by decide +kernel
theorem dX8_isCard_4 : decode cX8_isCard 4 = .ok (.invokestatic 40, 3) := by decide +kernel
theorem dX8_isCard_7 : decode cX8_isCard 7 = .ok (.ireturn, 1) := by decide +kernel
theorem dX8_isColour_0 : decode cX8_isColour 0 = .ok (.iload_n 0, 1) := by decide +kernel
theorem dX8_isColour_1 : decode cX8_isColour 1 = .ok (.iconst 0, 1) := by decide +kernel
theorem dX8_isColour_2 : decode cX8_isColour 2 = .ok (.iconst 5, 1) := by decide +kernel
theorem dX8_isColour_3 : decode cX8_isColour 3 = .ok (.invokestatic 40, 3) := by decide +kernel
theorem dX8_isColour_6 : decode cX8_isColour 6 = .ok (.ireturn, 1) := by decide +kernel
theorem dX8_hasText_0 : decode cX8_hasText 0 = .ok (.aload_n 0, 1) := by decide +kernel
theorem dX8_hasText_1 : decode cX8_hasText 1 = .ok (.getfield 7, 3) := by decide +kernel
theorem dX8_hasText_4 : decode cX8_hasText 4 = .ok (.bipush 43, 2) := by decide +kernel
theorem dX8_hasText_6 : decode cX8_hasText 6 = .ok (.iload_n 1, 1) := by decide +kernel
theorem dX8_hasText_7 : decode cX8_hasText 7 = .ok (.iadd, 1) := by decide +kernel
theorem dX8_hasText_8 : decode cX8_hasText 8 = .ok (.iaload, 1) := by decide +kernel
theorem dX8_hasText_9 : decode cX8_hasText 9 = .ok (.ifCond .le 7, 3) := by decide +kernel
theorem dX8_hasText_12 : decode cX8_hasText 12 = .ok (.iconst 1, 1) := by decide +kernel
theorem dX8_hasText_13 : decode cX8_hasText 13 = .ok (.goto 4, 3) := by decide +kernel
theorem dX8_hasText_16 : decode cX8_hasText 16 = .ok (.iconst 0, 1) := by decide +kernel
theorem dX8_hasText_17 : decode cX8_hasText 17 = .ok (.ireturn, 1) := by decide +kernel
theorem dX8_textAt_0 : decode cX8_textAt 0 = .ok (.aload_n 0, 1) := by decide +kernel
theorem dX8_textAt_1 : decode cX8_textAt 1 = .ok (.getfield 7, 3) := by decide +kernel
theorem dX8_textAt_4 : decode cX8_textAt 4 = .ok (.bipush 53, 2) := by decide +kernel
theorem dX8_textAt_6 : decode cX8_textAt 6 = .ok (.bipush 80, 2) := by decide +kernel
theorem dX8_textAt_8 : decode cX8_textAt 8 = .ok (.iload_n 1, 1) := by decide +kernel
theorem dX8_textAt_9 : decode cX8_textAt 9 = .ok (.imul, 1) := by decide +kernel
theorem dX8_textAt_10 : decode cX8_textAt 10 = .ok (.iadd, 1) := by decide +kernel
theorem dX8_textAt_11 : decode cX8_textAt 11 = .ok (.iload_n 2, 1) := by decide +kernel
theorem dX8_textAt_12 : decode cX8_textAt 12 = .ok (.iadd, 1) := by decide +kernel
theorem dX8_textAt_13 : decode cX8_textAt 13 = .ok (.iaload, 1) := by decide +kernel
theorem dX8_textAt_14 : decode cX8_textAt 14 = .ok (.ireturn, 1) := by decide +kernel
theorem dX8_putAside_0 : decode cX8_putAside 0 = .ok (.iconst 0, 1) := by decide +kernel
theorem dX8_putAside_1 : decode cX8_putAside 1 = .ok (.istore_n 1, 1) := by decide +kernel
theorem dX8_putAside_2 : decode cX8_putAside 2 = .ok (.iload_n 1, 1) := by decide +kernel
theorem dX8_putAside_3 : decode cX8_putAside 3 = .ok (.sipush 2081, 3) := by decide +kernel
theorem dX8_putAside_6 : decode cX8_putAside 6 = .ok (.if_icmp .ge 21, 3) := by decide +kernel
theorem dX8_putAside_9 : decode cX8_putAside 9 = .ok (.aload_n 0, 1) := by decide +kernel
theorem dX8_putAside_10 : decode cX8_putAside 10 = .ok (.getfield 13, 3) := by decide +kernel
theorem dX8_putAside_13 : decode cX8_putAside 13 = .ok (.iload_n 1, 1) := by decide +kernel
theorem dX8_putAside_14 : decode cX8_putAside 14 = .ok (.aload_n 0, 1) := by decide +kernel
theorem dX8_putAside_15 : decode cX8_putAside 15 = .ok (.getfield 7, 3) := by decide +kernel
theorem dX8_putAside_18 : decode cX8_putAside 18 = .ok (.iload_n 1, 1) := by decide +kernel
theorem dX8_putAside_19 : decode cX8_putAside 19 = .ok (.iaload, 1) := by decide +kernel
theorem dX8_putAside_20 : decode cX8_putAside 20 = .ok (.iastore, 1) := by decide +kernel
theorem dX8_putAside_21 : decode cX8_putAside 21 = .ok (.iinc 1 1, 3) := by decide +kernel
theorem dX8_putAside_24 : decode cX8_putAside 24 = .ok (.goto (-22), 3) := by decide +kernel
theorem dX8_putAside_27 : decode cX8_putAside 27 = .ok (.return_, 1) := by decide +kernel
theorem dX8_takeBack_0 : decode cX8_takeBack 0 = .ok (.iconst 0, 1) := by decide +kernel
theorem dX8_takeBack_1 : decode cX8_takeBack 1 = .ok (.istore_n 1, 1) := by decide +kernel
theorem dX8_takeBack_2 : decode cX8_takeBack 2 = .ok (.iload_n 1, 1) := by decide +kernel
theorem dX8_takeBack_3 : decode cX8_takeBack 3 = .ok (.sipush 2081, 3) := by decide +kernel
theorem dX8_takeBack_6 : decode cX8_takeBack 6 = .ok (.if_icmp .ge 21, 3) := by decide +kernel
theorem dX8_takeBack_9 : decode cX8_takeBack 9 = .ok (.aload_n 0, 1) := by decide +kernel
theorem dX8_takeBack_10 : decode cX8_takeBack 10 = .ok (.getfield 7, 3) := by decide +kernel
theorem dX8_takeBack_13 : decode cX8_takeBack 13 = .ok (.iload_n 1, 1) := by decide +kernel
theorem dX8_takeBack_14 : decode cX8_takeBack 14 = .ok (.aload_n 0, 1) := by decide +kernel
theorem dX8_takeBack_15 : decode cX8_takeBack 15 = .ok (.getfield 13, 3) := by decide +kernel
theorem dX8_takeBack_18 : decode cX8_takeBack 18 = .ok (.iload_n 1, 1) := by decide +kernel
theorem dX8_takeBack_19 : decode cX8_takeBack 19 = .ok (.iaload, 1) := by decide +kernel
theorem dX8_takeBack_20 : decode cX8_takeBack 20 = .ok (.iastore, 1) := by decide +kernel
theorem dX8_takeBack_21 : decode cX8_takeBack 21 = .ok (.iinc 1 1, 3) := by decide +kernel
theorem dX8_takeBack_24 : decode cX8_takeBack 24 = .ok (.goto (-22), 3) := by decide +kernel
theorem dX8_takeBack_27 : decode cX8_takeBack 27 = .ok (.return_, 1) := by decide +kernel
theorem dX8_push_0 : decode cX8_push 0 = .ok (.aload_n 0, 1) := by decide +kernel
theorem dX8_push_1 : decode cX8_push 1 = .ok (.getfield 44, 3) := by decide +kernel
theorem dX8_push_4 : decode cX8_push 4 = .ok (.bipush 6, 2) := by decide +kernel
theorem dX8_push_6 : decode cX8_push 6 = .ok (.if_icmp .ne 44, 3) := by decide +kernel
theorem dX8_push_9 : decode cX8_push 9 = .ok (.iconst 0, 1) := by decide +kernel
theorem dX8_push_10 : decode cX8_push 10 = .ok (.istore_n 1, 1) := by decide +kernel
theorem dX8_push_11 : decode cX8_push 11 = .ok (.iload_n 1, 1) := by decide +kernel
theorem dX8_push_12 : decode cX8_push 12 = .ok (.sipush 10405, 3) := by decide +kernel
theorem dX8_push_15 : decode cX8_push 15 = .ok (.if_icmp .ge 25, 3) := by decide +kernel
theorem dX8_push_18 : decode cX8_push 18 = .ok (.aload_n 0, 1) := by decide +kernel
theorem dX8_push_19 : decode cX8_push 19 = .ok (.getfield 16, 3) := by decide +kernel
theorem dX8_push_22 : decode cX8_push 22 = .ok (.iload_n 1, 1) := by decide +kernel
theorem dX8_push_23 : decode cX8_push 23 = .ok (.aload_n 0, 1) := by decide +kernel
theorem dX8_push_24 : decode cX8_push 24 = .ok (.getfield 16, 3) := by decide +kernel
theorem dX8_push_27 : decode cX8_push 27 = .ok (.iload_n 1, 1) := by decide +kernel
theorem dX8_push_28 : decode cX8_push 28 = .ok (.sipush 2081, 3) := by decide +kernel
theorem dX8_push_31 : decode cX8_push 31 = .ok (.iadd, 1) := by decide +kernel
theorem dX8_push_32 : decode cX8_push 32 = .ok (.iaload, 1) := by decide +kernel
theorem dX8_push_33 : decode cX8_push 33 = .ok (.iastore, 1) := by decide +kernel
theorem dX8_push_34 : decode cX8_push 34 = .ok (.iinc 1 1, 3) := by decide +kernel
theorem dX8_push_37 : decode cX8_push 37 = .ok (.goto (-26), 3) := by decide +kernel
theorem dX8_push_40 : decode cX8_push 40 = .ok (.aload_n 0, 1) := by decide +kernel
theorem dX8_push_41 : decode cX8_push 41 = .ok (.dup, 1) := by decide +kernel
theorem dX8_push_42 : decode cX8_push 42 = .ok (.getfield 44, 3) := by decide +kernel
theorem dX8_push_45 : decode cX8_push 45 = .ok (.iconst 1, 1) := by decide +kernel
theorem dX8_push_46 : decode cX8_push 46 = .ok (.isub, 1) := by decide +kernel
theorem dX8_push_47 : decode cX8_push 47 = .ok (.putfield 44, 3) := by decide +kernel
theorem dX8_push_50 : decode cX8_push 50 = .ok (.iconst 0, 1) := by decide +kernel
theorem dX8_push_51 : decode cX8_push 51 = .ok (.istore_n 1, 1) := by decide +kernel
theorem dX8_push_52 : decode cX8_push 52 = .ok (.iload_n 1, 1) := by decide +kernel
theorem dX8_push_53 : decode cX8_push 53 = .ok (.sipush 2081, 3) := by decide +kernel
theorem dX8_push_56 : decode cX8_push 56 = .ok (.if_icmp .ge 30, 3) := by decide +kernel
theorem dX8_push_59 : decode cX8_push 59 = .ok (.aload_n 0, 1) := by decide +kernel
theorem dX8_push_60 : decode cX8_push 60 = .ok (.getfield 16, 3) := by decide +kernel
theorem dX8_push_63 : decode cX8_push 63 = .ok (.aload_n 0, 1) := by decide +kernel
theorem dX8_push_64 : decode cX8_push 64 = .ok (.getfield 44, 3) := by decide +kernel
theorem dX8_push_67 : decode cX8_push 67 = .ok (.sipush 2081, 3) := by decide +kernel
theorem dX8_push_70 : decode cX8_push 70 = .ok (.imul, 1) := by decide +kernel
theorem dX8_push_71 : decode cX8_push 71 = .ok (.iload_n 1, 1) := by decide +kernel
theorem dX8_push_72 : decode cX8_push 72 = .ok (.iadd, 1) := by decide +kernel
theorem dX8_push_73 : decode cX8_push 73 = .ok (.aload_n 0, 1) := by decide +kernel
theorem dX8_push_74 : decode cX8_push 74 = .ok (.getfield 13, 3) := by decide +kernel
theorem dX8_push_77 : decode cX8_push 77 = .ok (.iload_n 1, 1) := by decide +kernel
theorem dX8_push_78 : decode cX8_push 78 = .ok (.iaload, 1) := by decide +kernel
theorem dX8_push_79 : decode cX8_push 79 = .ok (.iastore, 1) := by decide +kernel
theorem dX8_push_80 : decode cX8_push 80 = .ok (.iinc 1 1, 3) := by decide +kernel
theorem dX8_push_83 : decode cX8_push 83 = .ok (.goto (-31), 3) := by decide +kernel
theorem dX8_push_86 : decode cX8_push 86 = .ok (.aload_n 0, 1) := by decide +kernel
theorem dX8_push_87 : decode cX8_push 87 = .ok (.dup, 1) := by decide +kernel
theorem dX8_push_88 : decode cX8_push 88 = .ok (.getfield 44, 3) := by decide +kernel
theorem dX8_push_91 : decode cX8_push 91 = .ok (.iconst 1, 1) := by decide +kernel
theorem dX8_push_92 : decode cX8_push 92 = .ok (.iadd, 1) := by decide +kernel
theorem dX8_push_93 : decode cX8_push 93 = .ok (.putfield 44, 3) := by decide +kernel
theorem dX8_push_96 : decode cX8_push 96 = .ok (.return_, 1) := by decide +kernel
theorem dX8_record_0 : decode cX8_record 0 = .ok (.aload_n 0, 1) := by decide +kernel
theorem dX8_record_1 : decode cX8_record 1 = .ok (.invokevirtual 48, 3) := by decide +kernel
theorem dX8_record_4 : decode cX8_record 4 = .ok (.aload_n 0, 1) := by decide +kernel
theorem dX8_record_5 : decode cX8_record 5 = .ok (.invokevirtual 51, 3) := by decide +kernel
theorem dX8_record_8 : decode cX8_record 8 = .ok (.return_, 1) := by decide +kernel
theorem dX8_undo_0 : decode cX8_undo 0 = .ok (.aload_n 0, 1) := by decide +kernel
theorem dX8_undo_1 : decode cX8_undo 1 = .ok (.getfield 44, 3) := by decide +kernel
theorem dX8_undo_4 : decode cX8_undo 4 = .ok (.ifCond .ne 6, 3) := by decide +kernel
theorem dX8_undo_7 : decode cX8_undo 7 = .ok (.bipush (-5), 2) := by decide +kernel
theorem dX8_undo_9 : decode cX8_undo 9 = .ok (.ireturn, 1) := by decide +kernel
theorem dX8_undo_10 : decode cX8_undo 10 = .ok (.aload_n 0, 1) := by decide +kernel
theorem dX8_undo_11 : decode cX8_undo 11 = .ok (.dup, 1) := by decide +kernel
theorem dX8_undo_12 : decode cX8_undo 12 = .ok (.getfield 44, 3) := by decide +kernel
theorem dX8_undo_15 : decode cX8_undo 15 = .ok (.iconst 1, 1) := by decide +kernel
theorem dX8_undo_16 : decode cX8_undo 16 = .ok (.isub, 1) := by decide +kernel
theorem dX8_undo_17 : decode cX8_undo 17 = .ok (.putfield 44, 3) := by decide +kernel
theorem dX8_undo_20 : decode cX8_undo 20 = .ok (.iconst 0, 1) := by decide +kernel
theorem dX8_undo_21 : decode cX8_undo 21 = .ok (.istore_n 1, 1) := by decide +kernel
theorem dX8_undo_22 : decode cX8_undo 22 = .ok (.iload_n 1, 1) := by decide +kernel
theorem dX8_undo_23 : decode cX8_undo 23 = .ok (.sipush 2081, 3) := by decide +kernel
theorem dX8_undo_26 : decode cX8_undo 26 = .ok (.if_icmp .ge 30, 3) := by decide +kernel
theorem dX8_undo_29 : decode cX8_undo 29 = .ok (.aload_n 0, 1) := by decide +kernel
theorem dX8_undo_30 : decode cX8_undo 30 = .ok (.getfield 7, 3) := by decide +kernel
theorem dX8_undo_33 : decode cX8_undo 33 = .ok (.iload_n 1, 1) := by decide +kernel
theorem dX8_undo_34 : decode cX8_undo 34 = .ok (.aload_n 0, 1) := by decide +kernel
theorem dX8_undo_35 : decode cX8_undo 35 = .ok (.getfield 16, 3) := by decide +kernel
theorem dX8_undo_38 : decode cX8_undo 38 = .ok (.aload_n 0, 1) := by decide +kernel
theorem dX8_undo_39 : decode cX8_undo 39 = .ok (.getfield 44, 3) := by decide +kernel
theorem dX8_undo_42 : decode cX8_undo 42 = .ok (.sipush 2081, 3) := by decide +kernel
theorem dX8_undo_45 : decode cX8_undo 45 = .ok (.imul, 1) := by decide +kernel
theorem dX8_undo_46 : decode cX8_undo 46 = .ok (.iload_n 1, 1) := by decide +kernel
theorem dX8_undo_47 : decode cX8_undo 47 = .ok (.iadd, 1) := by decide +kernel
theorem dX8_undo_48 : decode cX8_undo 48 = .ok (.iaload, 1) := by decide +kernel
theorem dX8_undo_49 : decode cX8_undo 49 = .ok (.iastore, 1) := by decide +kernel
theorem dX8_undo_50 : decode cX8_undo 50 = .ok (.iinc 1 1, 3) := by decide +kernel
theorem dX8_undo_53 : decode cX8_undo 53 = .ok (.goto (-31), 3) := by decide +kernel
theorem dX8_undo_56 : decode cX8_undo 56 = .ok (.aload_n 0, 1) := by decide +kernel
theorem dX8_undo_57 : decode cX8_undo 57 = .ok (.getfield 44, 3) := by decide +kernel
theorem dX8_undo_60 : decode cX8_undo 60 = .ok (.ireturn, 1) := by decide +kernel
theorem dX8_isSlot_0 : decode cX8_isSlot 0 = .ok (.iload_n 0, 1) := by decide +kernel
theorem dX8_isSlot_1 : decode cX8_isSlot 1 = .ok (.iconst 0, 1) := by decide +kernel
theorem dX8_isSlot_2 : decode cX8_isSlot 2 = .ok (.iconst 1, 1) := by decide +kernel
theorem dX8_isSlot_3 : decode cX8_isSlot 3 = .ok (.invokestatic 40, 3) := by decide +kernel
theorem dX8_isSlot_6 : decode cX8_isSlot 6 = .ok (.ireturn, 1) := by decide +kernel
theorem dX8_save_0 : decode cX8_save 0 = .ok (.iload_n 1, 1) := by decide +kernel
theorem dX8_save_1 : decode cX8_save 1 = .ok (.invokestatic 54, 3) := by decide +kernel
theorem dX8_save_4 : decode cX8_save 4 = .ok (.ifCond .ne 6, 3) := by decide +kernel
theorem dX8_save_7 : decode cX8_save 7 = .ok (.bipush (-2), 2) := by decide +kernel
theorem dX8_save_9 : decode cX8_save 9 = .ok (.ireturn, 1) := by decide +kernel
theorem dX8_save_10 : decode cX8_save 10 = .ok (.iconst 0, 1) := by decide +kernel
theorem dX8_save_11 : decode cX8_save 11 = .ok (.istore_n 2, 1) := by decide +kernel
theorem dX8_save_12 : decode cX8_save 12 = .ok (.iload_n 2, 1) := by decide +kernel
theorem dX8_save_13 : decode cX8_save 13 = .ok (.sipush 2081, 3) := by decide +kernel
theorem dX8_save_16 : decode cX8_save 16 = .ok (.if_icmp .ge 27, 3) := by decide +kernel
theorem dX8_save_19 : decode cX8_save 19 = .ok (.aload_n 0, 1) := by decide +kernel
theorem dX8_save_20 : decode cX8_save 20 = .ok (.getfield 19, 3) := by decide +kernel
theorem dX8_save_23 : decode cX8_save 23 = .ok (.iload_n 1, 1) := by decide +kernel
theorem dX8_save_24 : decode cX8_save 24 = .ok (.sipush 2081, 3) := by decide +kernel
theorem dX8_save_27 : decode cX8_save 27 = .ok (.imul, 1) := by decide +kernel
theorem dX8_save_28 : decode cX8_save 28 = .ok (.iload_n 2, 1) := by decide +kernel
theorem dX8_save_29 : decode cX8_save 29 = .ok (.iadd, 1) := by decide +kernel
theorem dX8_save_30 : decode cX8_save 30 = .ok (.aload_n 0, 1) := by decide +kernel
theorem dX8_save_31 : decode cX8_save 31 = .ok (.getfield 7, 3) := by decide +kernel
theorem dX8_save_34 : decode cX8_save 34 = .ok (.iload_n 2, 1) := by decide +kernel
theorem dX8_save_35 : decode cX8_save 35 = .ok (.iaload, 1) := by decide +kernel
theorem dX8_save_36 : decode cX8_save 36 = .ok (.iastore, 1) := by decide +kernel
theorem dX8_save_37 : decode cX8_save 37 = .ok (.iinc 2 1, 3) := by decide +kernel
theorem dX8_save_40 : decode cX8_save 40 = .ok (.goto (-28), 3) := by decide +kernel
theorem dX8_save_43 : decode cX8_save 43 = .ok (.aload_n 0, 1) := by decide +kernel
theorem dX8_save_44 : decode cX8_save 44 = .ok (.getfield 22, 3) := by decide +kernel
theorem dX8_save_47 : decode cX8_save 47 = .ok (.iload_n 1, 1) := by decide +kernel
theorem dX8_save_48 : decode cX8_save 48 = .ok (.iconst 1, 1) := by decide +kernel
theorem dX8_save_49 : decode cX8_save 49 = .ok (.iastore, 1) := by decide +kernel
theorem dX8_save_50 : decode cX8_save 50 = .ok (.aload_n 0, 1) := by decide +kernel
theorem dX8_save_51 : decode cX8_save 51 = .ok (.getfield 7, 3) := by decide +kernel
theorem dX8_save_54 : decode cX8_save 54 = .ok (.iconst 4, 1) := by decide +kernel
theorem dX8_save_55 : decode cX8_save 55 = .ok (.iaload, 1) := by decide +kernel
theorem dX8_save_56 : decode cX8_save 56 = .ok (.ireturn, 1) := by decide +kernel
theorem dX8_restore_0 : decode cX8_restore 0 = .ok (.iload_n 1, 1) := by decide +kernel
theorem dX8_restore_1 : decode cX8_restore 1 = .ok (.invokestatic 54, 3) := by decide +kernel
theorem dX8_restore_4 : decode cX8_restore 4 = .ok (.ifCond .ne 6, 3) := by decide +kernel
theorem dX8_restore_7 : decode cX8_restore 7 = .ok (.bipush (-2), 2) := by decide +kernel
theorem dX8_restore_9 : decode cX8_restore 9 = .ok (.ireturn, 1) := by decide +kernel
theorem dX8_restore_10 : decode cX8_restore 10 = .ok (.aload_n 0, 1) := by decide +kernel
theorem dX8_restore_11 : decode cX8_restore 11 = .ok (.getfield 22, 3) := by decide +kernel
theorem dX8_restore_14 : decode cX8_restore 14 = .ok (.iload_n 1, 1) := by decide +kernel
theorem dX8_restore_15 : decode cX8_restore 15 = .ok (.iaload, 1) := by decide +kernel
theorem dX8_restore_16 : decode cX8_restore 16 = .ok (.ifCond .ne 6, 3) := by decide +kernel
theorem dX8_restore_19 : decode cX8_restore 19 = .ok (.bipush (-5), 2) := by decide +kernel
theorem dX8_restore_21 : decode cX8_restore 21 = .ok (.ireturn, 1) := by decide +kernel
theorem dX8_restore_22 : decode cX8_restore 22 = .ok (.aload_n 0, 1) := by decide +kernel
theorem dX8_restore_23 : decode cX8_restore 23 = .ok (.invokevirtual 58, 3) := by decide +kernel
theorem dX8_restore_26 : decode cX8_restore 26 = .ok (.iconst 0, 1) := by decide +kernel
theorem dX8_restore_27 : decode cX8_restore 27 = .ok (.istore_n 2, 1) := by decide +kernel
theorem dX8_restore_28 : decode cX8_restore 28 = .ok (.iload_n 2, 1) := by decide +kernel
theorem dX8_restore_29 : decode cX8_restore 29 = .ok (.sipush 2081, 3) := by decide +kernel
theorem dX8_restore_32 : decode cX8_restore 32 = .ok (.if_icmp .ge 27, 3) := by decide +kernel
theorem dX8_restore_35 : decode cX8_restore 35 = .ok (.aload_n 0, 1) := by decide +kernel
theorem dX8_restore_36 : decode cX8_restore 36 = .ok (.getfield 7, 3) := by decide +kernel
theorem dX8_restore_39 : decode cX8_restore 39 = .ok (.iload_n 2, 1) := by decide +kernel
theorem dX8_restore_40 : decode cX8_restore 40 = .ok (.aload_n 0, 1) := by decide +kernel
theorem dX8_restore_41 : decode cX8_restore 41 = .ok (.getfield 19, 3) := by decide +kernel
theorem dX8_restore_44 : decode cX8_restore 44 = .ok (.iload_n 1, 1) := by decide +kernel
theorem dX8_restore_45 : decode cX8_restore 45 = .ok (.sipush 2081, 3) := by decide +kernel
theorem dX8_restore_48 : decode cX8_restore 48 = .ok (.imul, 1) := by decide +kernel
theorem dX8_restore_49 : decode cX8_restore 49 = .ok (.iload_n 2, 1) := by decide +kernel
theorem dX8_restore_50 : decode cX8_restore 50 = .ok (.iadd, 1) := by decide +kernel
theorem dX8_restore_51 : decode cX8_restore 51 = .ok (.iaload, 1) := by decide +kernel
theorem dX8_restore_52 : decode cX8_restore 52 = .ok (.iastore, 1) := by decide +kernel
theorem dX8_restore_53 : decode cX8_restore 53 = .ok (.iinc 2 1, 3) := by decide +kernel
theorem dX8_restore_56 : decode cX8_restore 56 = .ok (.goto (-28), 3) := by decide +kernel
theorem dX8_restore_59 : decode cX8_restore 59 = .ok (.aload_n 0, 1) := by decide +kernel
theorem dX8_restore_60 : decode cX8_restore 60 = .ok (.getfield 7, 3) := by decide +kernel
theorem dX8_restore_63 : decode cX8_restore 63 = .ok (.iconst 4, 1) := by decide +kernel
theorem dX8_restore_64 : decode cX8_restore 64 = .ok (.iaload, 1) := by decide +kernel
theorem dX8_restore_65 : decode cX8_restore 65 = .ok (.ireturn, 1) := by decide +kernel
theorem dX8_code_0 : decode cX8_code 0 = .ok (.aload_n 0, 1) := by decide +kernel
theorem dX8_code_1 : decode cX8_code 1 = .ok (.getfield 61, 3) := by decide +kernel
theorem dX8_code_4 : decode cX8_code 4 = .ok (.aload_n 0, 1) := by decide +kernel
theorem dX8_code_5 : decode cX8_code 5 = .ok (.getfield 64, 3) := by decide +kernel
theorem dX8_code_8 : decode cX8_code 8 = .ok (.if_icmp .ge 15, 3) := by decide +kernel
theorem dX8_code_11 : decode cX8_code 11 = .ok (.aload_n 0, 1) := by decide +kernel
theorem dX8_code_12 : decode cX8_code 12 = .ok (.getfield 25, 3) := by decide +kernel
theorem dX8_code_15 : decode cX8_code 15 = .ok (.aload_n 0, 1) := by decide +kernel
theorem dX8_code_16 : decode cX8_code 16 = .ok (.getfield 61, 3) := by decide +kernel
theorem dX8_code_19 : decode cX8_code 19 = .ok (.iaload, 1) := by decide +kernel
theorem dX8_code_20 : decode cX8_code 20 = .ok (.goto 4, 3) := by decide +kernel
theorem dX8_code_23 : decode cX8_code 23 = .ok (.iconst 0, 1) := by decide +kernel
theorem dX8_code_24 : decode cX8_code 24 = .ok (.ireturn, 1) := by decide +kernel
theorem dX8_takesDigit_0 : decode cX8_takesDigit 0 = .ok (.aload_n 0, 1) := by decide +kernel
theorem dX8_takesDigit_1 : decode cX8_takesDigit 1 = .ok (.invokevirtual 67, 3) := by decide +kernel
theorem dX8_takesDigit_4 : decode cX8_takesDigit 4 = .ok (.bipush 48, 2) := by decide +kernel
theorem dX8_takesDigit_6 : decode cX8_takesDigit 6 = .ok (.isub, 1) := by decide +kernel
theorem dX8_takesDigit_7 : decode cX8_takesDigit 7 = .ok (.iload_n 1, 1) := by decide +kernel
theorem dX8_takesDigit_8 : decode cX8_takesDigit 8 = .ok (.iload_n 2, 1) := by decide +kernel
theorem dX8_takesDigit_9 : decode cX8_takesDigit 9 = .ok (.invokestatic 40, 3) := by decide +kernel
theorem dX8_takesDigit_12 : decode cX8_takesDigit 12 = .ok (.istore_n 3, 1) := by decide +kernel
theorem dX8_takesDigit_13 : decode cX8_takesDigit 13 = .ok (.aload_n 0, 1) := by decide +kernel
theorem dX8_takesDigit_14 : decode cX8_takesDigit 14 = .ok (.dup, 1) := by decide +kernel
theorem dX8_takesDigit_15 : decode cX8_takesDigit 15 = .ok (.getfield 61, 3) := by decide +kernel
theorem dX8_takesDigit_18 : decode cX8_takesDigit 18 = .ok (.iload_n 3, 1) := by decide +kernel
theorem dX8_takesDigit_19 : decode cX8_takesDigit 19 = .ok (.ifCond .eq 7, 3) := by decide +kernel
theorem dX8_takesDigit_22 : decode cX8_takesDigit 22 = .ok (.iconst 1, 1) := by decide +kernel
theorem dX8_takesDigit_23 : decode cX8_takesDigit 23 = .ok (.goto 4, 3) := by decide +kernel
theorem dX8_takesDigit_26 : decode cX8_takesDigit 26 = .ok (.iconst 0, 1) := by decide +kernel
theorem dX8_takesDigit_27 : decode cX8_takesDigit 27 = .ok (.iadd, 1) := by decide +kernel
theorem dX8_takesDigit_28 : decode cX8_takesDigit 28 = .ok (.putfield 61, 3) := by decide +kernel
theorem dX8_takesDigit_31 : decode cX8_takesDigit 31 = .ok (.iload_n 3, 1) := by decide +kernel
theorem dX8_takesDigit_32 : decode cX8_takesDigit 32 = .ok (.ireturn, 1) := by decide +kernel
theorem dX8_opens_0 : decode cX8_opens 0 = .ok (.aload_n 0, 1) := by decide +kernel
theorem dX8_opens_1 : decode cX8_opens 1 = .ok (.invokevirtual 67, 3) := by decide +kernel
theorem dX8_opens_4 : decode cX8_opens 4 = .ok (.bipush 40, 2) := by decide +kernel
theorem dX8_opens_6 : decode cX8_opens 6 = .ok (.if_icmp .ne 15, 3) := by decide +kernel
theorem dX8_opens_9 : decode cX8_opens 9 = .ok (.aload_n 0, 1) := by decide +kernel
theorem dX8_opens_10 : decode cX8_opens 10 = .ok (.getfield 71, 3) := by decide +kernel
theorem dX8_opens_13 : decode cX8_opens 13 = .ok (.iconst 3, 1) := by decide +kernel
theorem dX8_opens_14 : decode cX8_opens 14 = .ok (.if_icmp .ge 7, 3) := by decide +kernel
theorem dX8_opens_17 : decode cX8_opens 17 = .ok (.iconst 1, 1) := by decide +kernel
theorem dX8_opens_18 : decode cX8_opens 18 = .ok (.goto 4, 3) := by decide +kernel
theorem dX8_opens_21 : decode cX8_opens 21 = .ok (.iconst 0, 1) := by decide +kernel
theorem dX8_opens_22 : decode cX8_opens 22 = .ok (.istore_n 1, 1) := by decide +kernel
theorem dX8_opens_23 : decode cX8_opens 23 = .ok (.aload_n 0, 1) := by decide +kernel
theorem dX8_opens_24 : decode cX8_opens 24 = .ok (.dup, 1) := by decide +kernel
theorem dX8_opens_25 : decode cX8_opens 25 = .ok (.getfield 61, 3) := by decide +kernel
theorem dX8_opens_28 : decode cX8_opens 28 = .ok (.iload_n 1, 1) := by decide +kernel
theorem dX8_opens_29 : decode cX8_opens 29 = .ok (.ifCond .eq 7, 3) := by decide +kernel
theorem dX8_opens_32 : decode cX8_opens 32 = .ok (.iconst 1, 1) := by decide +kernel
theorem dX8_opens_33 : decode cX8_opens 33 = .ok (.goto 4, 3) := by decide +kernel
theorem dX8_opens_36 : decode cX8_opens 36 = .ok (.iconst 0, 1) := by decide +kernel
theorem dX8_opens_37 : decode cX8_opens 37 = .ok (.iadd, 1) := by decide +kernel
theorem dX8_opens_38 : decode cX8_opens 38 = .ok (.putfield 61, 3) := by decide +kernel
theorem dX8_opens_41 : decode cX8_opens 41 = .ok (.aload_n 0, 1) := by decide +kernel
theorem dX8_opens_42 : decode cX8_opens 42 = .ok (.dup, 1) := by decide +kernel
theorem dX8_opens_43 : decode cX8_opens 43 = .ok (.getfield 71, 3) := by decide +kernel
theorem dX8_opens_46 : decode cX8_opens 46 = .ok (.iload_n 1, 1) := by decide +kernel
theorem dX8_opens_47 : decode cX8_opens 47 = .ok (.ifCond .eq 7, 3) := by decide +kernel
theorem dX8_opens_50 : decode cX8_opens 50 = .ok (.iconst 1, 1) := by decide +kernel
theorem dX8_opens_51 : decode cX8_opens 51 = .ok (.goto 4, 3) := by decide +kernel
theorem dX8_opens_54 : decode cX8_opens 54 = .ok (.iconst 0, 1) := by decide +kernel
theorem dX8_opens_55 : decode cX8_opens 55 = .ok (.iadd, 1) := by decide +kernel
theorem dX8_opens_56 : decode cX8_opens 56 = .ok (.putfield 71, 3) := by decide +kernel
theorem dX8_opens_59 : decode cX8_opens 59 = .ok (.iload_n 1, 1) := by decide +kernel
theorem dX8_opens_60 : decode cX8_opens 60 = .ok (.ireturn, 1) := by decide +kernel
theorem dX8_readsStep_0 : decode cX8_readsStep 0 = .ok (.aload_n 0, 1) := by decide +kernel
theorem dX8_readsStep_1 : decode cX8_readsStep 1 = .ok (.invokevirtual 67, 3) := by decide +kernel
theorem dX8_readsStep_4 : decode cX8_readsStep 4 = .ok (.istore_n 1, 1) := by decide +kernel
theorem dX8_readsStep_5 : decode cX8_readsStep 5 = .ok (.iload_n 1, 1) := by decide +kernel
theorem dX8_readsStep_6 : decode cX8_readsStep 6 = .ok (.bipush 119, 2) := by decide +kernel
theorem dX8_readsStep_8 : decode cX8_readsStep 8 = .ok (.if_icmp .eq 35, 3) := by decide +kernel
theorem dX8_readsStep_11 : decode cX8_readsStep 11 = .ok (.iload_n 1, 1) := by decide +kernel
theorem dX8_readsStep_12 : decode cX8_readsStep 12 = .ok (.bipush 99, 2) := by decide +kernel
theorem dX8_readsStep_14 : decode cX8_readsStep 14 = .ok (.if_icmp .eq 29, 3) := by decide +kernel
theorem dX8_readsStep_17 : decode cX8_readsStep 17 = .ok (.iload_n 1, 1) := by decide +kernel
theorem dX8_readsStep_18 : decode cX8_readsStep 18 = .ok (.bipush 107, 2) := by decide +kernel
theorem dX8_readsStep_20 : decode cX8_readsStep 20 = .ok (.if_icmp .eq 23, 3) := by decide +kernel
theorem dX8_readsStep_23 : decode cX8_readsStep 23 = .ok (.iload_n 1, 1) := by decide +kernel
theorem dX8_readsStep_24 : decode cX8_readsStep 24 = .ok (.bipush 120, 2) := by decide +kernel
theorem dX8_readsStep_26 : decode cX8_readsStep 26 = .ok (.if_icmp .eq 17, 3) := by decide +kernel
theorem dX8_readsStep_29 : decode cX8_readsStep 29 = .ok (.iload_n 1, 1) := by decide +kernel
theorem dX8_readsStep_30 : decode cX8_readsStep 30 = .ok (.bipush 115, 2) := by decide +kernel
theorem dX8_readsStep_32 : decode cX8_readsStep 32 = .ok (.if_icmp .eq 11, 3) := by decide +kernel
theorem dX8_readsStep_35 : decode cX8_readsStep 35 = .ok (.iload_n 1, 1) := by decide +kernel
theorem dX8_readsStep_36 : decode cX8_readsStep 36 = .ok (.bipush 108, 2) := by decide +kernel
theorem dX8_readsStep_38 : decode cX8_readsStep 38 = .ok (.if_icmp .eq 5, 3) := by decide +kernel
theorem dX8_readsStep_41 : decode cX8_readsStep 41 = .ok (.iconst 0, 1) := by decide +kernel
theorem dX8_readsStep_42 : decode cX8_readsStep 42 = .ok (.ireturn, 1) := by decide +kernel
theorem dX8_readsStep_43 : decode cX8_readsStep 43 = .ok (.aload_n 0, 1) := by decide +kernel
theorem dX8_readsStep_44 : decode cX8_readsStep 44 = .ok (.dup, 1) := by decide +kernel
theorem dX8_readsStep_45 : decode cX8_readsStep 45 = .ok (.getfield 61, 3) := by decide +kernel
theorem dX8_readsStep_48 : decode cX8_readsStep 48 = .ok (.iconst 1, 1) := by decide +kernel
theorem dX8_readsStep_49 : decode cX8_readsStep 49 = .ok (.iadd, 1) := by decide +kernel
theorem dX8_readsStep_50 : decode cX8_readsStep 50 = .ok (.putfield 61, 3) := by decide +kernel
theorem dX8_readsStep_53 : decode cX8_readsStep 53 = .ok (.iload_n 1, 1) := by decide +kernel
theorem dX8_readsStep_54 : decode cX8_readsStep 54 = .ok (.lookupswitch 92 #[(99, 54), (107, 61), (119, 42), (120, 69)], 42) := by decide +kernel
theorem dX8_readsStep_96 : decode cX8_readsStep 96 = .ok (.aload_n 0, 1) := by decide +kernel
theorem dX8_readsStep_97 : decode cX8_readsStep 97 = .ok (.iconst 2, 1) := by decide +kernel
theorem dX8_readsStep_98 : decode cX8_readsStep 98 = .ok (.bipush 9, 2) := by decide +kernel
theorem dX8_readsStep_100 : decode cX8_readsStep 100 = .ok (.invokevirtual 74, 3) := by decide +kernel
theorem dX8_readsStep_103 : decode cX8_readsStep 103 = .ok (.ifCond .ne 3, 3) := by decide +kernel
theorem dX8_readsStep_106 : decode cX8_readsStep 106 = .ok (.iconst 1, 1) := by decide +kernel
theorem dX8_readsStep_107 : decode cX8_readsStep 107 = .ok (.ireturn, 1) := by decide +kernel
theorem dX8_readsStep_108 : decode cX8_readsStep 108 = .ok (.aload_n 0, 1) := by decide +kernel
theorem dX8_readsStep_109 : decode cX8_readsStep 109 = .ok (.iconst 0, 1) := by decide +kernel
theorem dX8_readsStep_110 : decode cX8_readsStep 110 = .ok (.iconst 5, 1) := by decide +kernel
theorem dX8_readsStep_111 : decode cX8_readsStep 111 = .ok (.invokevirtual 74, 3) := by decide +kernel
theorem dX8_readsStep_114 : decode cX8_readsStep 114 = .ok (.ireturn, 1) := by decide +kernel
theorem dX8_readsStep_115 : decode cX8_readsStep 115 = .ok (.aload_n 0, 1) := by decide +kernel
theorem dX8_readsStep_116 : decode cX8_readsStep 116 = .ok (.iconst 0, 1) := by decide +kernel
theorem dX8_readsStep_117 : decode cX8_readsStep 117 = .ok (.bipush 9, 2) := by decide +kernel
theorem dX8_readsStep_119 : decode cX8_readsStep 119 = .ok (.invokevirtual 74, 3) := by decide +kernel
theorem dX8_readsStep_122 : decode cX8_readsStep 122 = .ok (.ireturn, 1) := by decide +kernel
theorem dX8_readsStep_123 : decode cX8_readsStep 123 = .ok (.aload_n 0, 1) := by decide +kernel
theorem dX8_readsStep_124 : decode cX8_readsStep 124 = .ok (.iconst 2, 1) := by decide +kernel
theorem dX8_readsStep_125 : decode cX8_readsStep 125 = .ok (.bipush 9, 2) := by decide +kernel
theorem dX8_readsStep_127 : decode cX8_readsStep 127 = .ok (.invokevirtual 74, 3) := by decide +kernel
theorem dX8_readsStep_130 : decode cX8_readsStep 130 = .ok (.ifCond .eq 14, 3) := by decide +kernel
theorem dX8_readsStep_133 : decode cX8_readsStep 133 = .ok (.aload_n 0, 1) := by decide +kernel
theorem dX8_readsStep_134 : decode cX8_readsStep 134 = .ok (.invokevirtual 78, 3) := by decide +kernel
theorem dX8_readsStep_137 : decode cX8_readsStep 137 = .ok (.ifCond .eq 7, 3) := by decide +kernel
theorem dX8_readsStep_140 : decode cX8_readsStep 140 = .ok (.iconst 1, 1) := by decide +kernel
theorem dX8_readsStep_141 : decode cX8_readsStep 141 = .ok (.goto 4, 3) := by decide +kernel
theorem dX8_readsStep_144 : decode cX8_readsStep 144 = .ok (.iconst 0, 1) := by decide +kernel
theorem dX8_readsStep_145 : decode cX8_readsStep 145 = .ok (.ireturn, 1) := by decide +kernel
theorem dX8_readsStep_146 : decode cX8_readsStep 146 = .ok (.aload_n 0, 1) := by decide +kernel
theorem dX8_readsStep_147 : decode cX8_readsStep 147 = .ok (.invokevirtual 78, 3) := by decide +kernel
theorem dX8_readsStep_150 : decode cX8_readsStep 150 = .ok (.ireturn, 1) := by decide +kernel
theorem dX8_findFault_0 : decode cX8_findFault 0 = .ok (.aload_n 0, 1) := by decide +kernel
theorem dX8_findFault_1 : decode cX8_findFault 1 = .ok (.iconst 0, 1) := by decide +kernel
theorem dX8_findFault_2 : decode cX8_findFault 2 = .ok (.putfield 61, 3) := by decide +kernel
theorem dX8_findFault_5 : decode cX8_findFault 5 = .ok (.aload_n 0, 1) := by decide +kernel
theorem dX8_findFault_6 : decode cX8_findFault 6 = .ok (.iconst 0, 1) := by decide +kernel
theorem dX8_findFault_7 : decode cX8_findFault 7 = .ok (.putfield 71, 3) := by decide +kernel
theorem dX8_findFault_10 : decode cX8_findFault 10 = .ok (.iconst 1, 1) := by decide +kernel
theorem dX8_findFault_11 : decode cX8_findFault 11 = .ok (.istore_n 1, 1) := by decide +kernel
theorem dX8_findFault_12 : decode cX8_findFault 12 = .ok (.aload_n 0, 1) := by decide +kernel
theorem dX8_findFault_13 : decode cX8_findFault 13 = .ok (.getfield 61, 3) := by decide +kernel
theorem dX8_findFault_16 : decode cX8_findFault 16 = .ok (.aload_n 0, 1) := by decide +kernel
theorem dX8_findFault_17 : decode cX8_findFault 17 = .ok (.getfield 64, 3) := by decide +kernel
theorem dX8_findFault_20 : decode cX8_findFault 20 = .ok (.if_icmp .ge 83, 3) := by decide +kernel
theorem dX8_findFault_23 : decode cX8_findFault 23 = .ok (.aload_n 0, 1) := by decide +kernel
theorem dX8_findFault_24 : decode cX8_findFault 24 = .ok (.invokevirtual 67, 3) := by decide +kernel
theorem dX8_findFault_27 : decode cX8_findFault 27 = .ok (.bipush 41, 2) := by decide +kernel
theorem dX8_findFault_29 : decode cX8_findFault 29 = .ok (.if_icmp .ne 37, 3) := by decide +kernel
theorem dX8_findFault_32 : decode cX8_findFault 32 = .ok (.aload_n 0, 1) := by decide +kernel
theorem dX8_findFault_33 : decode cX8_findFault 33 = .ok (.getfield 71, 3) := by decide +kernel
theorem dX8_findFault_36 : decode cX8_findFault 36 = .ok (.ifCond .le 30, 3) := by decide +kernel
theorem dX8_findFault_39 : decode cX8_findFault 39 = .ok (.iload_n 1, 1) := by decide +kernel
theorem dX8_findFault_40 : decode cX8_findFault 40 = .ok (.ifCond .ne 26, 3) := by decide +kernel
theorem dX8_findFault_43 : decode cX8_findFault 43 = .ok (.aload_n 0, 1) := by decide +kernel
theorem dX8_findFault_44 : decode cX8_findFault 44 = .ok (.dup, 1) := by decide +kernel
theorem dX8_findFault_45 : decode cX8_findFault 45 = .ok (.getfield 71, 3) := by decide +kernel
theorem dX8_findFault_48 : decode cX8_findFault 48 = .ok (.iconst 1, 1) := by decide +kernel
theorem dX8_findFault_49 : decode cX8_findFault 49 = .ok (.isub, 1) := by decide +kernel
theorem dX8_findFault_50 : decode cX8_findFault 50 = .ok (.putfield 71, 3) := by decide +kernel
theorem dX8_findFault_53 : decode cX8_findFault 53 = .ok (.aload_n 0, 1) := by decide +kernel
theorem dX8_findFault_54 : decode cX8_findFault 54 = .ok (.dup, 1) := by decide +kernel
theorem dX8_findFault_55 : decode cX8_findFault 55 = .ok (.getfield 61, 3) := by decide +kernel
theorem dX8_findFault_58 : decode cX8_findFault 58 = .ok (.iconst 1, 1) := by decide +kernel
theorem dX8_findFault_59 : decode cX8_findFault 59 = .ok (.iadd, 1) := by decide +kernel
theorem dX8_findFault_60 : decode cX8_findFault 60 = .ok (.putfield 61, 3) := by decide +kernel
theorem dX8_findFault_63 : decode cX8_findFault 63 = .ok (.goto (-51), 3) := by decide +kernel
theorem dX8_findFault_66 : decode cX8_findFault 66 = .ok (.aload_n 0, 1) := by decide +kernel
theorem dX8_findFault_67 : decode cX8_findFault 67 = .ok (.invokevirtual 82, 3) := by decide +kernel
theorem dX8_findFault_70 : decode cX8_findFault 70 = .ok (.ifCond .ne 8, 3) := by decide +kernel
theorem dX8_findFault_73 : decode cX8_findFault 73 = .ok (.aload_n 0, 1) := by decide +kernel
theorem dX8_findFault_74 : decode cX8_findFault 74 = .ok (.getfield 61, 3) := by decide +kernel
theorem dX8_findFault_77 : decode cX8_findFault 77 = .ok (.ireturn, 1) := by decide +kernel
theorem dX8_findFault_78 : decode cX8_findFault 78 = .ok (.aload_n 0, 1) := by decide +kernel
theorem dX8_findFault_79 : decode cX8_findFault 79 = .ok (.getfield 25, 3) := by decide +kernel
theorem dX8_findFault_82 : decode cX8_findFault 82 = .ok (.aload_n 0, 1) := by decide +kernel
theorem dX8_findFault_83 : decode cX8_findFault 83 = .ok (.getfield 61, 3) := by decide +kernel
theorem dX8_findFault_86 : decode cX8_findFault 86 = .ok (.iconst 1, 1) := by decide +kernel
theorem dX8_findFault_87 : decode cX8_findFault 87 = .ok (.isub, 1) := by decide +kernel
theorem dX8_findFault_88 : decode cX8_findFault 88 = .ok (.iaload, 1) := by decide +kernel
theorem dX8_findFault_89 : decode cX8_findFault 89 = .ok (.bipush 40, 2) := by decide +kernel
theorem dX8_findFault_91 : decode cX8_findFault 91 = .ok (.if_icmp .ne 7, 3) := by decide +kernel
theorem dX8_findFault_94 : decode cX8_findFault 94 = .ok (.iconst 1, 1) := by decide +kernel
theorem dX8_findFault_95 : decode cX8_findFault 95 = .ok (.goto 4, 3) := by decide +kernel
theorem dX8_findFault_98 : decode cX8_findFault 98 = .ok (.iconst 0, 1) := by decide +kernel
theorem dX8_findFault_99 : decode cX8_findFault 99 = .ok (.istore_n 1, 1) := by decide +kernel
theorem dX8_findFault_100 : decode cX8_findFault 100 = .ok (.goto (-88), 3) := by decide +kernel
theorem dX8_findFault_103 : decode cX8_findFault 103 = .ok (.iload_n 1, 1) := by decide +kernel
theorem dX8_findFault_104 : decode cX8_findFault 104 = .ok (.ifCond .ne 10, 3) := by decide +kernel
theorem dX8_findFault_107 : decode cX8_findFault 107 = .ok (.aload_n 0, 1) := by decide +kernel
theorem dX8_findFault_108 : decode cX8_findFault 108 = .ok (.getfield 71, 3) := by decide +kernel
theorem dX8_findFault_111 : decode cX8_findFault 111 = .ok (.ifCond .le 10, 3) := by decide +kernel
theorem dX8_findFault_114 : decode cX8_findFault 114 = .ok (.aload_n 0, 1) := by decide +kernel
theorem dX8_findFault_115 : decode cX8_findFault 115 = .ok (.getfield 64, 3) := by decide +kernel
theorem dX8_findFault_118 : decode cX8_findFault 118 = .ok (.goto 5, 3) := by decide +kernel
theorem dX8_findFault_121 : decode cX8_findFault 121 = .ok (.bipush (-6), 2) := by decide +kernel
theorem dX8_findFault_123 : decode cX8_findFault 123 = .ok (.ireturn, 1) := by decide +kernel
theorem dX8_fault_0 : decode cX8_fault 0 = .ok (.aload_n 0, 1) := by decide +kernel
theorem dX8_fault_1 : decode cX8_fault 1 = .ok (.invokevirtual 85, 3) := by decide +kernel
theorem dX8_fault_4 : decode cX8_fault 4 = .ok (.ireturn, 1) := by decide +kernel
theorem dX8_isCharacter_0 : decode cX8_isCharacter 0 = .ok (.iload_n 0, 1) := by decide +kernel
theorem dX8_isCharacter_1 : decode cX8_isCharacter 1 = .ok (.bipush 33, 2) := by decide +kernel
theorem dX8_isCharacter_3 : decode cX8_isCharacter 3 = .ok (.bipush 126, 2) := by decide +kernel
theorem dX8_isCharacter_5 : decode cX8_isCharacter 5 = .ok (.invokestatic 40, 3) := by decide +kernel
theorem dX8_isCharacter_8 : decode cX8_isCharacter 8 = .ok (.ireturn, 1) := by decide +kernel
theorem dX8_charactersIn_0 : decode cX8_charactersIn 0 = .ok (.iconst 0, 1) := by decide +kernel
theorem dX8_charactersIn_1 : decode cX8_charactersIn 1 = .ok (.istore_n 2, 1) := by decide +kernel
theorem dX8_charactersIn_2 : decode cX8_charactersIn 2 = .ok (.lload_n 0, 1) := by decide +kernel
theorem dX8_charactersIn_3 : decode cX8_charactersIn 3 = .ok (.lstore_n 3, 1) := by decide +kernel
theorem dX8_charactersIn_4 : decode cX8_charactersIn 4 = .ok (.iload_n 2, 1) := by decide +kernel
theorem dX8_charactersIn_5 : decode cX8_charactersIn 5 = .ok (.bipush 8, 2) := by decide +kernel
theorem dX8_charactersIn_7 : decode cX8_charactersIn 7 = .ok (.if_icmp .ge 38, 3) := by decide +kernel
theorem dX8_charactersIn_10 : decode cX8_charactersIn 10 = .ok (.lload_n 3, 1) := by decide +kernel
theorem dX8_charactersIn_11 : decode cX8_charactersIn 11 = .ok (.ldc2_w 88, 3) := by decide +kernel
theorem dX8_charactersIn_14 : decode cX8_charactersIn 14 = .ok (.land, 1) := by decide +kernel
theorem dX8_charactersIn_15 : decode cX8_charactersIn 15 = .ok (.lconst 0, 1) := by decide +kernel
theorem dX8_charactersIn_16 : decode cX8_charactersIn 16 = .ok (.lcmp, 1) := by decide +kernel
theorem dX8_charactersIn_17 : decode cX8_charactersIn 17 = .ok (.ifCond .eq 28, 3) := by decide +kernel
theorem dX8_charactersIn_20 : decode cX8_charactersIn 20 = .ok (.lload_n 3, 1) := by decide +kernel
theorem dX8_charactersIn_21 : decode cX8_charactersIn 21 = .ok (.ldc2_w 88, 3) := by decide +kernel
theorem dX8_charactersIn_24 : decode cX8_charactersIn 24 = .ok (.land, 1) := by decide +kernel
theorem dX8_charactersIn_25 : decode cX8_charactersIn 25 = .ok (.l2i, 1) := by decide +kernel
theorem dX8_charactersIn_26 : decode cX8_charactersIn 26 = .ok (.invokestatic 90, 3) := by decide +kernel
theorem dX8_charactersIn_29 : decode cX8_charactersIn 29 = .ok (.ifCond .ne 5, 3) := by decide +kernel
theorem dX8_charactersIn_32 : decode cX8_charactersIn 32 = .ok (.iconst 0, 1) := by decide +kernel
theorem dX8_charactersIn_33 : decode cX8_charactersIn 33 = .ok (.ireturn, 1) := by decide +kernel
theorem dX8_charactersIn_34 : decode cX8_charactersIn 34 = .ok (.lload_n 3, 1) := by decide +kernel
theorem dX8_charactersIn_35 : decode cX8_charactersIn 35 = .ok (.bipush 8, 2) := by decide +kernel
theorem dX8_charactersIn_37 : decode cX8_charactersIn 37 = .ok (.lushr, 1) := by decide +kernel
theorem dX8_charactersIn_38 : decode cX8_charactersIn 38 = .ok (.lstore_n 3, 1) := by decide +kernel
theorem dX8_charactersIn_39 : decode cX8_charactersIn 39 = .ok (.iinc 2 1, 3) := by decide +kernel
theorem dX8_charactersIn_42 : decode cX8_charactersIn 42 = .ok (.goto (-38), 3) := by decide +kernel
theorem dX8_charactersIn_45 : decode cX8_charactersIn 45 = .ok (.lload_n 3, 1) := by decide +kernel
theorem dX8_charactersIn_46 : decode cX8_charactersIn 46 = .ok (.lconst 0, 1) := by decide +kernel
theorem dX8_charactersIn_47 : decode cX8_charactersIn 47 = .ok (.lcmp, 1) := by decide +kernel
theorem dX8_charactersIn_48 : decode cX8_charactersIn 48 = .ok (.ifCond .ne 7, 3) := by decide +kernel
theorem dX8_charactersIn_51 : decode cX8_charactersIn 51 = .ok (.iload_n 2, 1) := by decide +kernel
theorem dX8_charactersIn_52 : decode cX8_charactersIn 52 = .ok (.goto 4, 3) := by decide +kernel
theorem dX8_charactersIn_55 : decode cX8_charactersIn 55 = .ok (.iconst 0, 1) := by decide +kernel
theorem dX8_charactersIn_56 : decode cX8_charactersIn 56 = .ok (.ireturn, 1) := by decide +kernel
theorem dX8_put_0 : decode cX8_put 0 = .ok (.lload_n 1, 1) := by decide +kernel
theorem dX8_put_1 : decode cX8_put 1 = .ok (.invokestatic 93, 3) := by decide +kernel
theorem dX8_put_4 : decode cX8_put 4 = .ok (.istore_n 3, 1) := by decide +kernel
theorem dX8_put_5 : decode cX8_put 5 = .ok (.iload_n 3, 1) := by decide +kernel
theorem dX8_put_6 : decode cX8_put 6 = .ok (.ifCond .ne 6, 3) := by decide +kernel
theorem dX8_put_9 : decode cX8_put 9 = .ok (.bipush (-2), 2) := by decide +kernel
theorem dX8_put_11 : decode cX8_put 11 = .ok (.ireturn, 1) := by decide +kernel
theorem dX8_put_12 : decode cX8_put 12 = .ok (.aload_n 0, 1) := by decide +kernel
theorem dX8_put_13 : decode cX8_put 13 = .ok (.getfield 64, 3) := by decide +kernel
theorem dX8_put_16 : decode cX8_put 16 = .ok (.iload_n 3, 1) := by decide +kernel
theorem dX8_put_17 : decode cX8_put 17 = .ok (.iadd, 1) := by decide +kernel
theorem dX8_put_18 : decode cX8_put 18 = .ok (.bipush 80, 2) := by decide +kernel
theorem dX8_put_20 : decode cX8_put 20 = .ok (.if_icmp .le 6, 3) := by decide +kernel
theorem dX8_put_23 : decode cX8_put 23 = .ok (.bipush (-4), 2) := by decide +kernel
theorem dX8_put_25 : decode cX8_put 25 = .ok (.ireturn, 1) := by decide +kernel
theorem dX8_put_26 : decode cX8_put 26 = .ok (.iload_n 3, 1) := by decide +kernel
theorem dX8_put_27 : decode cX8_put 27 = .ok (.iconst 1, 1) := by decide +kernel
theorem dX8_put_28 : decode cX8_put 28 = .ok (.isub, 1) := by decide +kernel
theorem dX8_put_29 : decode cX8_put 29 = .ok (.istore 4, 2) := by decide +kernel
theorem dX8_put_31 : decode cX8_put 31 = .ok (.iload 4, 2) := by decide +kernel
theorem dX8_put_33 : decode cX8_put 33 = .ok (.ifCond .lt 40, 3) := by decide +kernel
theorem dX8_put_36 : decode cX8_put 36 = .ok (.aload_n 0, 1) := by decide +kernel
theorem dX8_put_37 : decode cX8_put 37 = .ok (.getfield 25, 3) := by decide +kernel
theorem dX8_put_40 : decode cX8_put 40 = .ok (.aload_n 0, 1) := by decide +kernel
theorem dX8_put_41 : decode cX8_put 41 = .ok (.getfield 64, 3) := by decide +kernel
theorem dX8_put_44 : decode cX8_put 44 = .ok (.lload_n 1, 1) := by decide +kernel
theorem dX8_put_45 : decode cX8_put 45 = .ok (.bipush 8, 2) := by decide +kernel
theorem dX8_put_47 : decode cX8_put 47 = .ok (.iload 4, 2) := by decide +kernel
theorem dX8_put_49 : decode cX8_put 49 = .ok (.imul, 1) := by decide +kernel
theorem dX8_put_50 : decode cX8_put 50 = .ok (.lshr, 1) := by decide +kernel
theorem dX8_put_51 : decode cX8_put 51 = .ok (.ldc2_w 88, 3) := by decide +kernel
theorem dX8_put_54 : decode cX8_put 54 = .ok (.land, 1) := by decide +kernel
theorem dX8_put_55 : decode cX8_put 55 = .ok (.l2i, 1) := by decide +kernel
theorem dX8_put_56 : decode cX8_put 56 = .ok (.iastore, 1) := by decide +kernel
theorem dX8_put_57 : decode cX8_put 57 = .ok (.aload_n 0, 1) := by decide +kernel
theorem dX8_put_58 : decode cX8_put 58 = .ok (.dup, 1) := by decide +kernel
theorem dX8_put_59 : decode cX8_put 59 = .ok (.getfield 64, 3) := by decide +kernel
theorem dX8_put_62 : decode cX8_put 62 = .ok (.iconst 1, 1) := by decide +kernel
theorem dX8_put_63 : decode cX8_put 63 = .ok (.iadd, 1) := by decide +kernel
theorem dX8_put_64 : decode cX8_put 64 = .ok (.putfield 64, 3) := by decide +kernel
theorem dX8_put_67 : decode cX8_put 67 = .ok (.iinc 4 (-1), 3) := by decide +kernel
theorem dX8_put_70 : decode cX8_put 70 = .ok (.goto (-39), 3) := by decide +kernel
theorem dX8_put_73 : decode cX8_put 73 = .ok (.aload_n 0, 1) := by decide +kernel
theorem dX8_put_74 : decode cX8_put 74 = .ok (.getfield 64, 3) := by decide +kernel
theorem dX8_put_77 : decode cX8_put 77 = .ok (.ireturn, 1) := by decide +kernel
theorem dX8_wipe_0 : decode cX8_wipe 0 = .ok (.aload_n 0, 1) := by decide +kernel
theorem dX8_wipe_1 : decode cX8_wipe 1 = .ok (.getfield 64, 3) := by decide +kernel
theorem dX8_wipe_4 : decode cX8_wipe 4 = .ok (.istore_n 1, 1) := by decide +kernel
theorem dX8_wipe_5 : decode cX8_wipe 5 = .ok (.aload_n 0, 1) := by decide +kernel
theorem dX8_wipe_6 : decode cX8_wipe 6 = .ok (.iconst 0, 1) := by decide +kernel
theorem dX8_wipe_7 : decode cX8_wipe 7 = .ok (.putfield 64, 3) := by decide +kernel
theorem dX8_wipe_10 : decode cX8_wipe 10 = .ok (.iload_n 1, 1) := by decide +kernel
theorem dX8_wipe_11 : decode cX8_wipe 11 = .ok (.ireturn, 1) := by decide +kernel
theorem dX8_write_0 : decode cX8_write 0 = .ok (.iload_n 1, 1) := by decide +kernel
theorem dX8_write_1 : decode cX8_write 1 = .ok (.invokestatic 97, 3) := by decide +kernel
theorem dX8_write_4 : decode cX8_write 4 = .ok (.ifCond .ne 5, 3) := by decide +kernel
theorem dX8_write_7 : decode cX8_write 7 = .ok (.iconst (-1), 1) := by decide +kernel
theorem dX8_write_8 : decode cX8_write 8 = .ok (.ireturn, 1) := by decide +kernel
theorem dX8_write_9 : decode cX8_write 9 = .ok (.aload_n 0, 1) := by decide +kernel
theorem dX8_write_10 : decode cX8_write 10 = .ok (.iload_n 1, 1) := by decide +kernel
theorem dX8_write_11 : decode cX8_write 11 = .ok (.invokevirtual 100, 3) := by decide +kernel
theorem dX8_write_14 : decode cX8_write 14 = .ok (.ifCond .ne 6, 3) := by decide +kernel
theorem dX8_write_17 : decode cX8_write 17 = .ok (.bipush (-5), 2) := by decide +kernel
theorem dX8_write_19 : decode cX8_write 19 = .ok (.ireturn, 1) := by decide +kernel
theorem dX8_write_20 : decode cX8_write 20 = .ok (.aload_n 0, 1) := by decide +kernel
theorem dX8_write_21 : decode cX8_write 21 = .ok (.aload_n 0, 1) := by decide +kernel
theorem dX8_write_22 : decode cX8_write 22 = .ok (.getfield 7, 3) := by decide +kernel
theorem dX8_write_25 : decode cX8_write 25 = .ok (.bipush 43, 2) := by decide +kernel
theorem dX8_write_27 : decode cX8_write 27 = .ok (.iload_n 1, 1) := by decide +kernel
theorem dX8_write_28 : decode cX8_write 28 = .ok (.iadd, 1) := by decide +kernel
theorem dX8_write_29 : decode cX8_write 29 = .ok (.iaload, 1) := by decide +kernel
theorem dX8_write_30 : decode cX8_write 30 = .ok (.putfield 64, 3) := by decide +kernel
theorem dX8_write_33 : decode cX8_write 33 = .ok (.iconst 0, 1) := by decide +kernel
theorem dX8_write_34 : decode cX8_write 34 = .ok (.istore_n 2, 1) := by decide +kernel
theorem dX8_write_35 : decode cX8_write 35 = .ok (.iload_n 2, 1) := by decide +kernel
theorem dX8_write_36 : decode cX8_write 36 = .ok (.aload_n 0, 1) := by decide +kernel
theorem dX8_write_37 : decode cX8_write 37 = .ok (.getfield 64, 3) := by decide +kernel
theorem dX8_write_40 : decode cX8_write 40 = .ok (.if_icmp .ge 21, 3) := by decide +kernel
theorem dX8_write_43 : decode cX8_write 43 = .ok (.aload_n 0, 1) := by decide +kernel
theorem dX8_write_44 : decode cX8_write 44 = .ok (.getfield 25, 3) := by decide +kernel
theorem dX8_write_47 : decode cX8_write 47 = .ok (.iload_n 2, 1) := by decide +kernel
theorem dX8_write_48 : decode cX8_write 48 = .ok (.aload_n 0, 1) := by decide +kernel
theorem dX8_write_49 : decode cX8_write 49 = .ok (.iload_n 1, 1) := by decide +kernel
theorem dX8_write_50 : decode cX8_write 50 = .ok (.iload_n 2, 1) := by decide +kernel
theorem dX8_write_51 : decode cX8_write 51 = .ok (.invokevirtual 103, 3) := by decide +kernel
theorem dX8_write_54 : decode cX8_write 54 = .ok (.iastore, 1) := by decide +kernel
theorem dX8_write_55 : decode cX8_write 55 = .ok (.iinc 2 1, 3) := by decide +kernel
theorem dX8_write_58 : decode cX8_write 58 = .ok (.goto (-23), 3) := by decide +kernel
theorem dX8_write_61 : decode cX8_write 61 = .ok (.aload_n 0, 1) := by decide +kernel
theorem dX8_write_62 : decode cX8_write 62 = .ok (.getfield 64, 3) := by decide +kernel
theorem dX8_write_65 : decode cX8_write 65 = .ok (.ireturn, 1) := by decide +kernel
theorem dX8_sign_0 : decode cX8_sign 0 = .ok (.iload_n 1, 1) := by decide +kernel
theorem dX8_sign_1 : decode cX8_sign 1 = .ok (.iconst 0, 1) := by decide +kernel
theorem dX8_sign_2 : decode cX8_sign 2 = .ok (.aload_n 0, 1) := by decide +kernel
theorem dX8_sign_3 : decode cX8_sign 3 = .ok (.getfield 64, 3) := by decide +kernel
theorem dX8_sign_6 : decode cX8_sign 6 = .ok (.iconst 1, 1) := by decide +kernel
theorem dX8_sign_7 : decode cX8_sign 7 = .ok (.isub, 1) := by decide +kernel
theorem dX8_sign_8 : decode cX8_sign 8 = .ok (.invokestatic 40, 3) := by decide +kernel
theorem dX8_sign_11 : decode cX8_sign 11 = .ok (.ifCond .eq 12, 3) := by decide +kernel
theorem dX8_sign_14 : decode cX8_sign 14 = .ok (.aload_n 0, 1) := by decide +kernel
theorem dX8_sign_15 : decode cX8_sign 15 = .ok (.getfield 25, 3) := by decide +kernel
theorem dX8_sign_18 : decode cX8_sign 18 = .ok (.iload_n 1, 1) := by decide +kernel
theorem dX8_sign_19 : decode cX8_sign 19 = .ok (.iaload, 1) := by decide +kernel
theorem dX8_sign_20 : decode cX8_sign 20 = .ok (.goto 4, 3) := by decide +kernel
theorem dX8_sign_23 : decode cX8_sign 23 = .ok (.iconst (-1), 1) := by decide +kernel
theorem dX8_sign_24 : decode cX8_sign 24 = .ok (.ireturn, 1) := by decide +kernel
theorem dX8_isLetter_0 : decode cX8_isLetter 0 = .ok (.iload_n 0, 1) := by decide +kernel
theorem dX8_isLetter_1 : decode cX8_isLetter 1 = .ok (.bipush 97, 2) := by decide +kernel
theorem dX8_isLetter_3 : decode cX8_isLetter 3 = .ok (.bipush 122, 2) := by decide +kernel
theorem dX8_isLetter_5 : decode cX8_isLetter 5 = .ok (.invokestatic 40, 3) := by decide +kernel
theorem dX8_isLetter_8 : decode cX8_isLetter 8 = .ok (.ireturn, 1) := by decide +kernel
theorem dX8_steps_0 : decode cX8_steps 0 = .ok (.iconst 0, 1) := by decide +kernel
theorem dX8_steps_1 : decode cX8_steps 1 = .ok (.istore_n 2, 1) := by decide +kernel
theorem dX8_steps_2 : decode cX8_steps 2 = .ok (.iconst 0, 1) := by decide +kernel
theorem dX8_steps_3 : decode cX8_steps 3 = .ok (.istore_n 3, 1) := by decide +kernel
theorem dX8_steps_4 : decode cX8_steps 4 = .ok (.iload_n 3, 1) := by decide +kernel
theorem dX8_steps_5 : decode cX8_steps 5 = .ok (.aload_n 0, 1) := by decide +kernel
theorem dX8_steps_6 : decode cX8_steps 6 = .ok (.getfield 7, 3) := by decide +kernel
theorem dX8_steps_9 : decode cX8_steps 9 = .ok (.bipush 43, 2) := by decide +kernel
theorem dX8_steps_11 : decode cX8_steps 11 = .ok (.iload_n 1, 1) := by decide +kernel
theorem dX8_steps_12 : decode cX8_steps 12 = .ok (.iadd, 1) := by decide +kernel
theorem dX8_steps_13 : decode cX8_steps 13 = .ok (.iaload, 1) := by decide +kernel
theorem dX8_steps_14 : decode cX8_steps 14 = .ok (.if_icmp .ge 29, 3) := by decide +kernel
theorem dX8_steps_17 : decode cX8_steps 17 = .ok (.iload_n 2, 1) := by decide +kernel
theorem dX8_steps_18 : decode cX8_steps 18 = .ok (.aload_n 0, 1) := by decide +kernel
theorem dX8_steps_19 : decode cX8_steps 19 = .ok (.iload_n 1, 1) := by decide +kernel
theorem dX8_steps_20 : decode cX8_steps 20 = .ok (.iload_n 3, 1) := by decide +kernel
theorem dX8_steps_21 : decode cX8_steps 21 = .ok (.invokevirtual 103, 3) := by decide +kernel
theorem dX8_steps_24 : decode cX8_steps 24 = .ok (.invokestatic 107, 3) := by decide +kernel
theorem dX8_steps_27 : decode cX8_steps 27 = .ok (.ifCond .eq 7, 3) := by decide +kernel
theorem dX8_steps_30 : decode cX8_steps 30 = .ok (.iconst 1, 1) := by decide +kernel
theorem dX8_steps_31 : decode cX8_steps 31 = .ok (.goto 4, 3) := by decide +kernel
theorem dX8_steps_34 : decode cX8_steps 34 = .ok (.iconst 0, 1) := by decide +kernel
theorem dX8_steps_35 : decode cX8_steps 35 = .ok (.iadd, 1) := by decide +kernel
theorem dX8_steps_36 : decode cX8_steps 36 = .ok (.istore_n 2, 1) := by decide +kernel
theorem dX8_steps_37 : decode cX8_steps 37 = .ok (.iinc 3 1, 3) := by decide +kernel
theorem dX8_steps_40 : decode cX8_steps 40 = .ok (.goto (-36), 3) := by decide +kernel
theorem dX8_steps_43 : decode cX8_steps 43 = .ok (.iload_n 2, 1) := by decide +kernel
theorem dX8_steps_44 : decode cX8_steps 44 = .ok (.ireturn, 1) := by decide +kernel
theorem dX8_calls_0 : decode cX8_calls 0 = .ok (.iconst 0, 1) := by decide +kernel
theorem dX8_calls_1 : decode cX8_calls 1 = .ok (.istore_n 2, 1) := by decide +kernel
theorem dX8_calls_2 : decode cX8_calls 2 = .ok (.iconst 0, 1) := by decide +kernel
theorem dX8_calls_3 : decode cX8_calls 3 = .ok (.istore_n 3, 1) := by decide +kernel
theorem dX8_calls_4 : decode cX8_calls 4 = .ok (.iload_n 3, 1) := by decide +kernel
theorem dX8_calls_5 : decode cX8_calls 5 = .ok (.aload_n 0, 1) := by decide +kernel
theorem dX8_calls_6 : decode cX8_calls 6 = .ok (.getfield 7, 3) := by decide +kernel
theorem dX8_calls_9 : decode cX8_calls 9 = .ok (.bipush 43, 2) := by decide +kernel
theorem dX8_calls_11 : decode cX8_calls 11 = .ok (.iload_n 1, 1) := by decide +kernel
theorem dX8_calls_12 : decode cX8_calls 12 = .ok (.iadd, 1) := by decide +kernel
theorem dX8_calls_13 : decode cX8_calls 13 = .ok (.iaload, 1) := by decide +kernel
theorem dX8_calls_14 : decode cX8_calls 14 = .ok (.if_icmp .ge 40, 3) := by decide +kernel
theorem dX8_calls_17 : decode cX8_calls 17 = .ok (.iload_n 2, 1) := by decide +kernel
theorem dX8_calls_18 : decode cX8_calls 18 = .ok (.aload_n 0, 1) := by decide +kernel
theorem dX8_calls_19 : decode cX8_calls 19 = .ok (.iload_n 1, 1) := by decide +kernel
theorem dX8_calls_20 : decode cX8_calls 20 = .ok (.iload_n 3, 1) := by decide +kernel
theorem dX8_calls_21 : decode cX8_calls 21 = .ok (.invokevirtual 103, 3) := by decide +kernel
theorem dX8_calls_24 : decode cX8_calls 24 = .ok (.bipush 107, 2) := by decide +kernel
theorem dX8_calls_26 : decode cX8_calls 26 = .ok (.if_icmp .ne 19, 3) := by decide +kernel
theorem dX8_calls_29 : decode cX8_calls 29 = .ok (.iconst 1, 1) := by decide +kernel
theorem dX8_calls_30 : decode cX8_calls 30 = .ok (.aload_n 0, 1) := by decide +kernel
theorem dX8_calls_31 : decode cX8_calls 31 = .ok (.iload_n 1, 1) := by decide +kernel
theorem dX8_calls_32 : decode cX8_calls 32 = .ok (.iload_n 3, 1) := by decide +kernel
theorem dX8_calls_33 : decode cX8_calls 33 = .ok (.iconst 1, 1) := by decide +kernel
theorem dX8_calls_34 : decode cX8_calls 34 = .ok (.iadd, 1) := by decide +kernel
theorem dX8_calls_35 : decode cX8_calls 35 = .ok (.invokevirtual 103, 3) := by decide +kernel
theorem dX8_calls_38 : decode cX8_calls 38 = .ok (.bipush 48, 2) := by decide +kernel
theorem dX8_calls_40 : decode cX8_calls 40 = .ok (.isub, 1) := by decide +kernel
theorem dX8_calls_41 : decode cX8_calls 41 = .ok (.ishl, 1) := by decide +kernel
theorem dX8_calls_42 : decode cX8_calls 42 = .ok (.goto 4, 3) := by decide +kernel
theorem dX8_calls_45 : decode cX8_calls 45 = .ok (.iconst 0, 1) := by decide +kernel
theorem dX8_calls_46 : decode cX8_calls 46 = .ok (.ior, 1) := by decide +kernel
theorem dX8_calls_47 : decode cX8_calls 47 = .ok (.istore_n 2, 1) := by decide +kernel
theorem dX8_calls_48 : decode cX8_calls 48 = .ok (.iinc 3 1, 3) := by decide +kernel
theorem dX8_calls_51 : decode cX8_calls 51 = .ok (.goto (-47), 3) := by decide +kernel
theorem dX8_calls_54 : decode cX8_calls 54 = .ok (.iload_n 2, 1) := by decide +kernel
theorem dX8_calls_55 : decode cX8_calls 55 = .ok (.ireturn, 1) := by decide +kernel
theorem dX8_callers_0 : decode cX8_callers 0 = .ok (.iconst 0, 1) := by decide +kernel
theorem dX8_callers_1 : decode cX8_callers 1 = .ok (.istore_n 2, 1) := by decide +kernel
theorem dX8_callers_2 : decode cX8_callers 2 = .ok (.iconst 0, 1) := by decide +kernel
theorem dX8_callers_3 : decode cX8_callers 3 = .ok (.istore_n 3, 1) := by decide +kernel
theorem dX8_callers_4 : decode cX8_callers 4 = .ok (.iload_n 3, 1) := by decide +kernel
theorem dX8_callers_5 : decode cX8_callers 5 = .ok (.bipush 10, 2) := by decide +kernel
theorem dX8_callers_7 : decode cX8_callers 7 = .ok (.if_icmp .ge 23, 3) := by decide +kernel
theorem dX8_callers_10 : decode cX8_callers 10 = .ok (.iload_n 2, 1) := by decide +kernel
theorem dX8_callers_11 : decode cX8_callers 11 = .ok (.aload_n 0, 1) := by decide +kernel
theorem dX8_callers_12 : decode cX8_callers 12 = .ok (.iload_n 3, 1) := by decide +kernel
theorem dX8_callers_13 : decode cX8_callers 13 = .ok (.invokevirtual 110, 3) := by decide +kernel
theorem dX8_callers_16 : decode cX8_callers 16 = .ok (.iload_n 1, 1) := by decide +kernel
theorem dX8_callers_17 : decode cX8_callers 17 = .ok (.ishr, 1) := by decide +kernel
theorem dX8_callers_18 : decode cX8_callers 18 = .ok (.iconst 1, 1) := by decide +kernel
theorem dX8_callers_19 : decode cX8_callers 19 = .ok (.iand, 1) := by decide +kernel
theorem dX8_callers_20 : decode cX8_callers 20 = .ok (.iload_n 3, 1) := by decide +kernel
theorem dX8_callers_21 : decode cX8_callers 21 = .ok (.ishl, 1) := by decide +kernel
theorem dX8_callers_22 : decode cX8_callers 22 = .ok (.ior, 1) := by decide +kernel
theorem dX8_callers_23 : decode cX8_callers 23 = .ok (.istore_n 2, 1) := by decide +kernel
theorem dX8_callers_24 : decode cX8_callers 24 = .ok (.iinc 3 1, 3) := by decide +kernel
theorem dX8_callers_27 : decode cX8_callers 27 = .ok (.goto (-23), 3) := by decide +kernel
theorem dX8_callers_30 : decode cX8_callers 30 = .ok (.iload_n 2, 1) := by decide +kernel
theorem dX8_callers_31 : decode cX8_callers 31 = .ok (.ireturn, 1) := by decide +kernel
theorem dX8_nested_0 : decode cX8_nested 0 = .ok (.iconst 0, 1) := by decide +kernel
theorem dX8_nested_1 : decode cX8_nested 1 = .ok (.istore_n 2, 1) := by decide +kernel
theorem dX8_nested_2 : decode cX8_nested 2 = .ok (.iconst 0, 1) := by decide +kernel
theorem dX8_nested_3 : decode cX8_nested 3 = .ok (.istore_n 3, 1) := by decide +kernel
theorem dX8_nested_4 : decode cX8_nested 4 = .ok (.iconst 0, 1) := by decide +kernel
theorem dX8_nested_5 : decode cX8_nested 5 = .ok (.istore 4, 2) := by decide +kernel
theorem dX8_nested_7 : decode cX8_nested 7 = .ok (.iload 4, 2) := by decide +kernel
theorem dX8_nested_9 : decode cX8_nested 9 = .ok (.aload_n 0, 1) := by decide +kernel
theorem dX8_nested_10 : decode cX8_nested 10 = .ok (.getfield 7, 3) := by decide +kernel
theorem dX8_nested_13 : decode cX8_nested 13 = .ok (.bipush 43, 2) := by decide +kernel
theorem dX8_nested_15 : decode cX8_nested 15 = .ok (.iload_n 1, 1) := by decide +kernel
theorem dX8_nested_16 : decode cX8_nested 16 = .ok (.iadd, 1) := by decide +kernel
theorem dX8_nested_17 : decode cX8_nested 17 = .ok (.iaload, 1) := by decide +kernel
theorem dX8_nested_18 : decode cX8_nested 18 = .ok (.if_icmp .ge 56, 3) := by decide +kernel
theorem dX8_nested_21 : decode cX8_nested 21 = .ok (.iload_n 2, 1) := by decide +kernel
theorem dX8_nested_22 : decode cX8_nested 22 = .ok (.aload_n 0, 1) := by decide +kernel
theorem dX8_nested_23 : decode cX8_nested 23 = .ok (.iload_n 1, 1) := by decide +kernel
theorem dX8_nested_24 : decode cX8_nested 24 = .ok (.iload 4, 2) := by decide +kernel
theorem dX8_nested_26 : decode cX8_nested 26 = .ok (.invokevirtual 103, 3) := by decide +kernel
theorem dX8_nested_29 : decode cX8_nested 29 = .ok (.bipush 40, 2) := by decide +kernel
theorem dX8_nested_31 : decode cX8_nested 31 = .ok (.if_icmp .ne 7, 3) := by decide +kernel
theorem dX8_nested_34 : decode cX8_nested 34 = .ok (.iconst 1, 1) := by decide +kernel
theorem dX8_nested_35 : decode cX8_nested 35 = .ok (.goto 20, 3) := by decide +kernel
theorem dX8_nested_38 : decode cX8_nested 38 = .ok (.aload_n 0, 1) := by decide +kernel
theorem dX8_nested_39 : decode cX8_nested 39 = .ok (.iload_n 1, 1) := by decide +kernel
theorem dX8_nested_40 : decode cX8_nested 40 = .ok (.iload 4, 2) := by decide +kernel
theorem dX8_nested_42 : decode cX8_nested 42 = .ok (.invokevirtual 103, 3) := by decide +kernel
theorem dX8_nested_45 : decode cX8_nested 45 = .ok (.bipush 41, 2) := by decide +kernel
theorem dX8_nested_47 : decode cX8_nested 47 = .ok (.if_icmp .ne 7, 3) := by decide +kernel
theorem dX8_nested_50 : decode cX8_nested 50 = .ok (.iconst (-1), 1) := by decide +kernel
theorem dX8_nested_51 : decode cX8_nested 51 = .ok (.goto 4, 3) := by decide +kernel
theorem dX8_nested_54 : decode cX8_nested 54 = .ok (.iconst 0, 1) := by decide +kernel
theorem dX8_nested_55 : decode cX8_nested 55 = .ok (.iadd, 1) := by decide +kernel
theorem dX8_nested_56 : decode cX8_nested 56 = .ok (.istore_n 2, 1) := by decide +kernel
theorem dX8_nested_57 : decode cX8_nested 57 = .ok (.iload_n 2, 1) := by decide +kernel
theorem dX8_nested_58 : decode cX8_nested 58 = .ok (.iload_n 3, 1) := by decide +kernel
theorem dX8_nested_59 : decode cX8_nested 59 = .ok (.if_icmp .le 7, 3) := by decide +kernel
theorem dX8_nested_62 : decode cX8_nested 62 = .ok (.iload_n 2, 1) := by decide +kernel
theorem dX8_nested_63 : decode cX8_nested 63 = .ok (.goto 4, 3) := by decide +kernel
theorem dX8_nested_66 : decode cX8_nested 66 = .ok (.iload_n 3, 1) := by decide +kernel
theorem dX8_nested_67 : decode cX8_nested 67 = .ok (.istore_n 3, 1) := by decide +kernel
theorem dX8_nested_68 : decode cX8_nested 68 = .ok (.iinc 4 1, 3) := by decide +kernel
theorem dX8_nested_71 : decode cX8_nested 71 = .ok (.goto (-64), 3) := by decide +kernel
theorem dX8_nested_74 : decode cX8_nested 74 = .ok (.iload_n 3, 1) := by decide +kernel
theorem dX8_nested_75 : decode cX8_nested 75 = .ok (.ireturn, 1) := by decide +kernel
theorem dX8_reached_0 : decode cX8_reached 0 = .ok (.aload_n 0, 1) := by decide +kernel
theorem dX8_reached_1 : decode cX8_reached 1 = .ok (.iload_n 1, 1) := by decide +kernel
theorem dX8_reached_2 : decode cX8_reached 2 = .ok (.invokevirtual 110, 3) := by decide +kernel
theorem dX8_reached_5 : decode cX8_reached 5 = .ok (.istore_n 2, 1) := by decide +kernel
theorem dX8_reached_6 : decode cX8_reached 6 = .ok (.iconst 0, 1) := by decide +kernel
theorem dX8_reached_7 : decode cX8_reached 7 = .ok (.istore_n 3, 1) := by decide +kernel
theorem dX8_reached_8 : decode cX8_reached 8 = .ok (.iload_n 3, 1) := by decide +kernel
theorem dX8_reached_9 : decode cX8_reached 9 = .ok (.bipush 10, 2) := by decide +kernel
theorem dX8_reached_11 : decode cX8_reached 11 = .ok (.if_icmp .ge 48, 3) := by decide +kernel
theorem dX8_reached_14 : decode cX8_reached 14 = .ok (.iconst 0, 1) := by decide +kernel
theorem dX8_reached_15 : decode cX8_reached 15 = .ok (.istore 4, 2) := by decide +kernel
theorem dX8_reached_17 : decode cX8_reached 17 = .ok (.iload 4, 2) := by decide +kernel
theorem dX8_reached_19 : decode cX8_reached 19 = .ok (.bipush 10, 2) := by decide +kernel
theorem dX8_reached_21 : decode cX8_reached 21 = .ok (.if_icmp .ge 32, 3) := by decide +kernel
theorem dX8_reached_24 : decode cX8_reached 24 = .ok (.iload_n 2, 1) := by decide +kernel
theorem dX8_reached_25 : decode cX8_reached 25 = .ok (.iload_n 2, 1) := by decide +kernel
theorem dX8_reached_26 : decode cX8_reached 26 = .ok (.iload 4, 2) := by decide +kernel
theorem dX8_reached_28 : decode cX8_reached 28 = .ok (.ishr, 1) := by decide +kernel
theorem dX8_reached_29 : decode cX8_reached 29 = .ok (.iconst 1, 1) := by decide +kernel
theorem dX8_reached_30 : decode cX8_reached 30 = .ok (.iand, 1) := by decide +kernel
theorem dX8_reached_31 : decode cX8_reached 31 = .ok (.iconst 1, 1) := by decide +kernel
theorem dX8_reached_32 : decode cX8_reached 32 = .ok (.if_icmp .ne 12, 3) := by decide +kernel
theorem dX8_reached_35 : decode cX8_reached 35 = .ok (.aload_n 0, 1) := by decide +kernel
theorem dX8_reached_36 : decode cX8_reached 36 = .ok (.iload 4, 2) := by decide +kernel
theorem dX8_reached_38 : decode cX8_reached 38 = .ok (.invokevirtual 110, 3) := by decide +kernel
theorem dX8_reached_41 : decode cX8_reached 41 = .ok (.goto 4, 3) := by decide +kernel
theorem dX8_reached_44 : decode cX8_reached 44 = .ok (.iconst 0, 1) := by decide +kernel
theorem dX8_reached_45 : decode cX8_reached 45 = .ok (.ior, 1) := by decide +kernel
theorem dX8_reached_46 : decode cX8_reached 46 = .ok (.istore_n 2, 1) := by decide +kernel
theorem dX8_reached_47 : decode cX8_reached 47 = .ok (.iinc 4 1, 3) := by decide +kernel
theorem dX8_reached_50 : decode cX8_reached 50 = .ok (.goto (-33), 3) := by decide +kernel
theorem dX8_reached_53 : decode cX8_reached 53 = .ok (.iinc 3 1, 3) := by decide +kernel
theorem dX8_reached_56 : decode cX8_reached 56 = .ok (.goto (-48), 3) := by decide +kernel
theorem dX8_reached_59 : decode cX8_reached 59 = .ok (.iload_n 2, 1) := by decide +kernel
theorem dX8_reached_60 : decode cX8_reached 60 = .ok (.ireturn, 1) := by decide +kernel
theorem dX8_reaches_0 : decode cX8_reaches 0 = .ok (.iload_n 1, 1) := by decide +kernel
theorem dX8_reaches_1 : decode cX8_reaches 1 = .ok (.invokestatic 97, 3) := by decide +kernel
theorem dX8_reaches_4 : decode cX8_reaches 4 = .ok (.ifCond .eq 11, 3) := by decide +kernel
theorem dX8_reaches_7 : decode cX8_reaches 7 = .ok (.aload_n 0, 1) := by decide +kernel
theorem dX8_reaches_8 : decode cX8_reaches 8 = .ok (.iload_n 1, 1) := by decide +kernel
theorem dX8_reaches_9 : decode cX8_reaches 9 = .ok (.invokevirtual 114, 3) := by decide +kernel
theorem dX8_reaches_12 : decode cX8_reaches 12 = .ok (.goto 4, 3) := by decide +kernel
theorem dX8_reaches_15 : decode cX8_reaches 15 = .ok (.iconst (-1), 1) := by decide +kernel
theorem dX8_reaches_16 : decode cX8_reaches 16 = .ok (.ireturn, 1) := by decide +kernel
theorem dX8_card_0 : decode cX8_card 0 = .ok (.iload_n 1, 1) := by decide +kernel
theorem dX8_card_1 : decode cX8_card 1 = .ok (.invokestatic 97, 3) := by decide +kernel
theorem dX8_card_4 : decode cX8_card 4 = .ok (.ifCond .ne 5, 3) := by decide +kernel
theorem dX8_card_7 : decode cX8_card 7 = .ok (.iconst (-1), 1) := by decide +kernel
theorem dX8_card_8 : decode cX8_card 8 = .ok (.ireturn, 1) := by decide +kernel
theorem dX8_card_9 : decode cX8_card 9 = .ok (.aload_n 0, 1) := by decide +kernel
theorem dX8_card_10 : decode cX8_card 10 = .ok (.invokevirtual 85, 3) := by decide +kernel
theorem dX8_card_13 : decode cX8_card 13 = .ok (.bipush (-6), 2) := by decide +kernel
theorem dX8_card_15 : decode cX8_card 15 = .ok (.if_icmp .eq 6, 3) := by decide +kernel
theorem dX8_card_18 : decode cX8_card 18 = .ok (.bipush (-3), 2) := by decide +kernel
theorem dX8_card_20 : decode cX8_card 20 = .ok (.ireturn, 1) := by decide +kernel
theorem dX8_card_21 : decode cX8_card 21 = .ok (.aload_n 0, 1) := by decide +kernel
theorem dX8_card_22 : decode cX8_card 22 = .ok (.invokevirtual 58, 3) := by decide +kernel
theorem dX8_card_25 : decode cX8_card 25 = .ok (.aload_n 0, 1) := by decide +kernel
theorem dX8_card_26 : decode cX8_card 26 = .ok (.getfield 7, 3) := by decide +kernel
theorem dX8_card_29 : decode cX8_card 29 = .ok (.bipush 43, 2) := by decide +kernel
theorem dX8_card_31 : decode cX8_card 31 = .ok (.iload_n 1, 1) := by decide +kernel
theorem dX8_card_32 : decode cX8_card 32 = .ok (.iadd, 1) := by decide +kernel
theorem dX8_card_33 : decode cX8_card 33 = .ok (.aload_n 0, 1) := by decide +kernel
theorem dX8_card_34 : decode cX8_card 34 = .ok (.getfield 64, 3) := by decide +kernel
theorem dX8_card_37 : decode cX8_card 37 = .ok (.iastore, 1) := by decide +kernel
theorem dX8_card_38 : decode cX8_card 38 = .ok (.iconst 0, 1) := by decide +kernel
theorem dX8_card_39 : decode cX8_card 39 = .ok (.istore_n 2, 1) := by decide +kernel
theorem dX8_card_40 : decode cX8_card 40 = .ok (.iload_n 2, 1) := by decide +kernel
theorem dX8_card_41 : decode cX8_card 41 = .ok (.aload_n 0, 1) := by decide +kernel
theorem dX8_card_42 : decode cX8_card 42 = .ok (.getfield 64, 3) := by decide +kernel
theorem dX8_card_45 : decode cX8_card 45 = .ok (.if_icmp .ge 29, 3) := by decide +kernel
theorem dX8_card_48 : decode cX8_card 48 = .ok (.aload_n 0, 1) := by decide +kernel
theorem dX8_card_49 : decode cX8_card 49 = .ok (.getfield 7, 3) := by decide +kernel
theorem dX8_card_52 : decode cX8_card 52 = .ok (.bipush 53, 2) := by decide +kernel
theorem dX8_card_54 : decode cX8_card 54 = .ok (.bipush 80, 2) := by decide +kernel
theorem dX8_card_56 : decode cX8_card 56 = .ok (.iload_n 1, 1) := by decide +kernel
theorem dX8_card_57 : decode cX8_card 57 = .ok (.imul, 1) := by decide +kernel
theorem dX8_card_58 : decode cX8_card 58 = .ok (.iadd, 1) := by decide +kernel
theorem dX8_card_59 : decode cX8_card 59 = .ok (.iload_n 2, 1) := by decide +kernel
theorem dX8_card_60 : decode cX8_card 60 = .ok (.iadd, 1) := by decide +kernel
theorem dX8_card_61 : decode cX8_card 61 = .ok (.aload_n 0, 1) := by decide +kernel
theorem dX8_card_62 : decode cX8_card 62 = .ok (.getfield 25, 3) := by decide +kernel
theorem dX8_card_65 : decode cX8_card 65 = .ok (.iload_n 2, 1) := by decide +kernel
theorem dX8_card_66 : decode cX8_card 66 = .ok (.iaload, 1) := by decide +kernel
theorem dX8_card_67 : decode cX8_card 67 = .ok (.iastore, 1) := by decide +kernel
theorem dX8_card_68 : decode cX8_card 68 = .ok (.iinc 2 1, 3) := by decide +kernel
theorem dX8_card_71 : decode cX8_card 71 = .ok (.goto (-31), 3) := by decide +kernel
theorem dX8_card_74 : decode cX8_card 74 = .ok (.aload_n 0, 1) := by decide +kernel
theorem dX8_card_75 : decode cX8_card 75 = .ok (.iconst 0, 1) := by decide +kernel
theorem dX8_card_76 : decode cX8_card 76 = .ok (.putfield 64, 3) := by decide +kernel
theorem dX8_card_79 : decode cX8_card 79 = .ok (.aload_n 0, 1) := by decide +kernel
theorem dX8_card_80 : decode cX8_card 80 = .ok (.iload_n 1, 1) := by decide +kernel
theorem dX8_card_81 : decode cX8_card 81 = .ok (.invokevirtual 117, 3) := by decide +kernel
theorem dX8_card_84 : decode cX8_card 84 = .ok (.ireturn, 1) := by decide +kernel
theorem dX8_blank_0 : decode cX8_blank 0 = .ok (.iload_n 1, 1) := by decide +kernel
theorem dX8_blank_1 : decode cX8_blank 1 = .ok (.invokestatic 97, 3) := by decide +kernel
theorem dX8_blank_4 : decode cX8_blank 4 = .ok (.ifCond .ne 5, 3) := by decide +kernel
theorem dX8_blank_7 : decode cX8_blank 7 = .ok (.iconst (-1), 1) := by decide +kernel
theorem dX8_blank_8 : decode cX8_blank 8 = .ok (.ireturn, 1) := by decide +kernel
theorem dX8_blank_9 : decode cX8_blank 9 = .ok (.aload_n 0, 1) := by decide +kernel
theorem dX8_blank_10 : decode cX8_blank 10 = .ok (.iload_n 1, 1) := by decide +kernel
theorem dX8_blank_11 : decode cX8_blank 11 = .ok (.invokevirtual 100, 3) := by decide +kernel
theorem dX8_blank_14 : decode cX8_blank 14 = .ok (.ifCond .ne 6, 3) := by decide +kernel
theorem dX8_blank_17 : decode cX8_blank 17 = .ok (.bipush (-5), 2) := by decide +kernel
theorem dX8_blank_19 : decode cX8_blank 19 = .ok (.ireturn, 1) := by decide +kernel
theorem dX8_blank_20 : decode cX8_blank 20 = .ok (.aload_n 0, 1) := by decide +kernel
theorem dX8_blank_21 : decode cX8_blank 21 = .ok (.invokevirtual 58, 3) := by decide +kernel
theorem dX8_blank_24 : decode cX8_blank 24 = .ok (.aload_n 0, 1) := by decide +kernel
theorem dX8_blank_25 : decode cX8_blank 25 = .ok (.getfield 7, 3) := by decide +kernel
theorem dX8_blank_28 : decode cX8_blank 28 = .ok (.bipush 43, 2) := by decide +kernel
theorem dX8_blank_30 : decode cX8_blank 30 = .ok (.iload_n 1, 1) := by decide +kernel
theorem dX8_blank_31 : decode cX8_blank 31 = .ok (.iadd, 1) := by decide +kernel
theorem dX8_blank_32 : decode cX8_blank 32 = .ok (.iconst 0, 1) := by decide +kernel
theorem dX8_blank_33 : decode cX8_blank 33 = .ok (.iastore, 1) := by decide +kernel
theorem dX8_blank_34 : decode cX8_blank 34 = .ok (.aload_n 0, 1) := by decide +kernel
theorem dX8_blank_35 : decode cX8_blank 35 = .ok (.iload_n 1, 1) := by decide +kernel
theorem dX8_blank_36 : decode cX8_blank 36 = .ok (.invokevirtual 120, 3) := by decide +kernel
theorem dX8_blank_39 : decode cX8_blank 39 = .ok (.ireturn, 1) := by decide +kernel
theorem dX8_leastOf_0 : decode cX8_leastOf 0 = .ok (.iload_n 0, 1) := by decide +kernel
theorem dX8_leastOf_1 : decode cX8_leastOf 1 = .ok (.ifCond .ne 7, 3) := by decide +kernel
theorem dX8_leastOf_4 : decode cX8_leastOf 4 = .ok (.iconst 1, 1) := by decide +kernel
theorem dX8_leastOf_5 : decode cX8_leastOf 5 = .ok (.goto 13, 3) := by decide +kernel
theorem dX8_leastOf_8 : decode cX8_leastOf 8 = .ok (.iload_n 0, 1) := by decide +kernel
theorem dX8_leastOf_9 : decode cX8_leastOf 9 = .ok (.iconst 1, 1) := by decide +kernel
theorem dX8_leastOf_10 : decode cX8_leastOf 10 = .ok (.if_icmp .ne 7, 3) := by decide +kernel
theorem dX8_leastOf_13 : decode cX8_leastOf 13 = .ok (.iconst 2, 1) := by decide +kernel
theorem dX8_leastOf_14 : decode cX8_leastOf 14 = .ok (.goto 4, 3) := by decide +kernel
theorem dX8_leastOf_17 : decode cX8_leastOf 17 = .ok (.iconst 0, 1) := by decide +kernel
theorem dX8_leastOf_18 : decode cX8_leastOf 18 = .ok (.ireturn, 1) := by decide +kernel
theorem dX8_set_0 : decode cX8_set 0 = .ok (.iload_n 1, 1) := by decide +kernel
theorem dX8_set_1 : decode cX8_set 1 = .ok (.iconst 0, 1) := by decide +kernel
theorem dX8_set_2 : decode cX8_set 2 = .ok (.iconst 2, 1) := by decide +kernel
theorem dX8_set_3 : decode cX8_set 3 = .ok (.invokestatic 40, 3) := by decide +kernel
theorem dX8_set_6 : decode cX8_set 6 = .ok (.ifCond .eq 25, 3) := by decide +kernel
theorem dX8_set_9 : decode cX8_set 9 = .ok (.iload_n 2, 1) := by decide +kernel
theorem dX8_set_10 : decode cX8_set 10 = .ok (.iload_n 1, 1) := by decide +kernel
theorem dX8_set_11 : decode cX8_set 11 = .ok (.invokestatic 123, 3) := by decide +kernel
theorem dX8_set_14 : decode cX8_set 14 = .ok (.iload_n 1, 1) := by decide +kernel
theorem dX8_set_15 : decode cX8_set 15 = .ok (.ifCond .ne 8, 3) := by decide +kernel
theorem dX8_set_18 : decode cX8_set 18 = .ok (.bipush 9, 2) := by decide +kernel
theorem dX8_set_20 : decode cX8_set 20 = .ok (.goto 5, 3) := by decide +kernel
theorem dX8_set_23 : decode cX8_set 23 = .ok (.bipush 99, 2) := by decide +kernel
theorem dX8_set_25 : decode cX8_set 25 = .ok (.invokestatic 40, 3) := by decide +kernel
theorem dX8_set_28 : decode cX8_set 28 = .ok (.ifCond .ne 6, 3) := by decide +kernel
theorem dX8_set_31 : decode cX8_set 31 = .ok (.bipush (-2), 2) := by decide +kernel
theorem dX8_set_33 : decode cX8_set 33 = .ok (.ireturn, 1) := by decide +kernel
theorem dX8_set_34 : decode cX8_set 34 = .ok (.aload_n 0, 1) := by decide +kernel
theorem dX8_set_35 : decode cX8_set 35 = .ok (.invokevirtual 58, 3) := by decide +kernel
theorem dX8_set_38 : decode cX8_set 38 = .ok (.aload_n 0, 1) := by decide +kernel
theorem dX8_set_39 : decode cX8_set 39 = .ok (.getfield 7, 3) := by decide +kernel
theorem dX8_set_42 : decode cX8_set 42 = .ok (.iload_n 1, 1) := by decide +kernel
theorem dX8_set_43 : decode cX8_set 43 = .ok (.iaload, 1) := by decide +kernel
theorem dX8_set_44 : decode cX8_set 44 = .ok (.istore_n 3, 1) := by decide +kernel
theorem dX8_set_45 : decode cX8_set 45 = .ok (.aload_n 0, 1) := by decide +kernel
theorem dX8_set_46 : decode cX8_set 46 = .ok (.getfield 7, 3) := by decide +kernel
theorem dX8_set_49 : decode cX8_set 49 = .ok (.iload_n 1, 1) := by decide +kernel
theorem dX8_set_50 : decode cX8_set 50 = .ok (.iload_n 2, 1) := by decide +kernel
theorem dX8_set_51 : decode cX8_set 51 = .ok (.iastore, 1) := by decide +kernel
theorem dX8_set_52 : decode cX8_set 52 = .ok (.iload_n 3, 1) := by decide +kernel
theorem dX8_set_53 : decode cX8_set 53 = .ok (.ireturn, 1) := by decide +kernel
theorem dX8_frame_0 : decode cX8_frame 0 = .ok (.sipush 1253, 3) := by decide +kernel
theorem dX8_frame_3 : decode cX8_frame 3 = .ok (.bipush 92, 2) := by decide +kernel
theorem dX8_frame_5 : decode cX8_frame 5 = .ok (.aload_n 0, 1) := by decide +kernel
theorem dX8_frame_6 : decode cX8_frame 6 = .ok (.getfield 7, 3) := by decide +kernel
theorem dX8_frame_9 : decode cX8_frame 9 = .ok (.iconst 3, 1) := by decide +kernel
theorem dX8_frame_10 : decode cX8_frame 10 = .ok (.iaload, 1) := by decide +kernel
theorem dX8_frame_11 : decode cX8_frame 11 = .ok (.iconst 1, 1) := by decide +kernel
theorem dX8_frame_12 : decode cX8_frame 12 = .ok (.isub, 1) := by decide +kernel
theorem dX8_frame_13 : decode cX8_frame 13 = .ok (.iload_n 1, 1) := by decide +kernel
theorem dX8_frame_14 : decode cX8_frame 14 = .ok (.isub, 1) := by decide +kernel
theorem dX8_frame_15 : decode cX8_frame 15 = .ok (.imul, 1) := by decide +kernel
theorem dX8_frame_16 : decode cX8_frame 16 = .ok (.iadd, 1) := by decide +kernel
theorem dX8_frame_17 : decode cX8_frame 17 = .ok (.ireturn, 1) := by decide +kernel
theorem dX8_onTop_0 : decode cX8_onTop 0 = .ok (.aload_n 0, 1) := by decide +kernel
theorem dX8_onTop_1 : decode cX8_onTop 1 = .ok (.getfield 7, 3) := by decide +kernel
theorem dX8_onTop_4 : decode cX8_onTop 4 = .ok (.aload_n 0, 1) := by decide +kernel
theorem dX8_onTop_5 : decode cX8_onTop 5 = .ok (.iconst 0, 1) := by decide +kernel
theorem dX8_onTop_6 : decode cX8_onTop 6 = .ok (.invokevirtual 126, 3) := by decide +kernel
theorem dX8_onTop_9 : decode cX8_onTop 9 = .ok (.iload_n 1, 1) := by decide +kernel
theorem dX8_onTop_10 : decode cX8_onTop 10 = .ok (.iadd, 1) := by decide +kernel
theorem dX8_onTop_11 : decode cX8_onTop 11 = .ok (.iaload, 1) := by decide +kernel
theorem dX8_onTop_12 : decode cX8_onTop 12 = .ok (.ireturn, 1) := by decide +kernel
theorem dX8_setTop_0 : decode cX8_setTop 0 = .ok (.aload_n 0, 1) := by decide +kernel
theorem dX8_setTop_1 : decode cX8_setTop 1 = .ok (.getfield 7, 3) := by decide +kernel
theorem dX8_setTop_4 : decode cX8_setTop 4 = .ok (.aload_n 0, 1) := by decide +kernel
theorem dX8_setTop_5 : decode cX8_setTop 5 = .ok (.iconst 0, 1) := by decide +kernel
theorem dX8_setTop_6 : decode cX8_setTop 6 = .ok (.invokevirtual 126, 3) := by decide +kernel
theorem dX8_setTop_9 : decode cX8_setTop 9 = .ok (.iload_n 1, 1) := by decide +kernel
theorem dX8_setTop_10 : decode cX8_setTop 10 = .ok (.iadd, 1) := by decide +kernel
theorem dX8_setTop_11 : decode cX8_setTop 11 = .ok (.iload_n 2, 1) := by decide +kernel
theorem dX8_setTop_12 : decode cX8_setTop 12 = .ok (.iastore, 1) := by decide +kernel
theorem dX8_setTop_13 : decode cX8_setTop 13 = .ok (.return_, 1) := by decide +kernel
theorem dX8_signAt_0 : decode cX8_signAt 0 = .ok (.aload_n 0, 1) := by decide +kernel
theorem dX8_signAt_1 : decode cX8_signAt 1 = .ok (.bipush 12, 2) := by decide +kernel
theorem dX8_signAt_3 : decode cX8_signAt 3 = .ok (.iload_n 1, 1) := by decide +kernel
theorem dX8_signAt_4 : decode cX8_signAt 4 = .ok (.iadd, 1) := by decide +kernel
theorem dX8_signAt_5 : decode cX8_signAt 5 = .ok (.invokevirtual 129, 3) := by decide +kernel
theorem dX8_signAt_8 : decode cX8_signAt 8 = .ok (.ireturn, 1) := by decide +kernel
theorem dX8_go_0 : decode cX8_go 0 = .ok (.aload_n 0, 1) := by decide +kernel
theorem dX8_go_1 : decode cX8_go 1 = .ok (.iconst 2, 1) := by decide +kernel
theorem dX8_go_2 : decode cX8_go 2 = .ok (.aload_n 0, 1) := by decide +kernel
theorem dX8_go_3 : decode cX8_go 3 = .ok (.iconst 2, 1) := by decide +kernel
theorem dX8_go_4 : decode cX8_go 4 = .ok (.invokevirtual 129, 3) := by decide +kernel
theorem dX8_go_7 : decode cX8_go 7 = .ok (.iload_n 1, 1) := by decide +kernel
theorem dX8_go_8 : decode cX8_go 8 = .ok (.iadd, 1) := by decide +kernel
theorem dX8_go_9 : decode cX8_go 9 = .ok (.invokevirtual 132, 3) := by decide +kernel
theorem dX8_go_12 : decode cX8_go 12 = .ok (.return_, 1) := by decide +kernel
theorem dX8_lay_0 : decode cX8_lay 0 = .ok (.aload_n 0, 1) := by decide +kernel
theorem dX8_lay_1 : decode cX8_lay 1 = .ok (.getfield 7, 3) := by decide +kernel
theorem dX8_lay_4 : decode cX8_lay 4 = .ok (.iconst 3, 1) := by decide +kernel
theorem dX8_lay_5 : decode cX8_lay 5 = .ok (.dup2, 1) := by decide +kernel
theorem dX8_lay_6 : decode cX8_lay 6 = .ok (.iaload, 1) := by decide +kernel
theorem dX8_lay_7 : decode cX8_lay 7 = .ok (.iconst 1, 1) := by decide +kernel
theorem dX8_lay_8 : decode cX8_lay 8 = .ok (.iadd, 1) := by decide +kernel
theorem dX8_lay_9 : decode cX8_lay 9 = .ok (.iastore, 1) := by decide +kernel
theorem dX8_lay_10 : decode cX8_lay 10 = .ok (.aload_n 0, 1) := by decide +kernel
theorem dX8_lay_11 : decode cX8_lay 11 = .ok (.iconst 0, 1) := by decide +kernel
theorem dX8_lay_12 : decode cX8_lay 12 = .ok (.iload_n 1, 1) := by decide +kernel
theorem dX8_lay_13 : decode cX8_lay 13 = .ok (.invokevirtual 132, 3) := by decide +kernel
theorem dX8_lay_16 : decode cX8_lay 16 = .ok (.aload_n 0, 1) := by decide +kernel
theorem dX8_lay_17 : decode cX8_lay 17 = .ok (.iconst 1, 1) := by decide +kernel
theorem dX8_lay_18 : decode cX8_lay 18 = .ok (.iload_n 2, 1) := by decide +kernel
theorem dX8_lay_19 : decode cX8_lay 19 = .ok (.invokevirtual 132, 3) := by decide +kernel
theorem dX8_lay_22 : decode cX8_lay 22 = .ok (.aload_n 0, 1) := by decide +kernel
theorem dX8_lay_23 : decode cX8_lay 23 = .ok (.iconst 2, 1) := by decide +kernel
theorem dX8_lay_24 : decode cX8_lay 24 = .ok (.iconst 0, 1) := by decide +kernel
theorem dX8_lay_25 : decode cX8_lay 25 = .ok (.invokevirtual 132, 3) := by decide +kernel
theorem dX8_lay_28 : decode cX8_lay 28 = .ok (.aload_n 0, 1) := by decide +kernel
theorem dX8_lay_29 : decode cX8_lay 29 = .ok (.iconst 3, 1) := by decide +kernel
theorem dX8_lay_30 : decode cX8_lay 30 = .ok (.iconst 0, 1) := by decide +kernel
theorem dX8_lay_31 : decode cX8_lay 31 = .ok (.invokevirtual 132, 3) := by decide +kernel
theorem dX8_lay_34 : decode cX8_lay 34 = .ok (.aload_n 0, 1) := by decide +kernel
theorem dX8_lay_35 : decode cX8_lay 35 = .ok (.iconst 4, 1) := by decide +kernel
theorem dX8_lay_36 : decode cX8_lay 36 = .ok (.iconst 0, 1) := by decide +kernel
theorem dX8_lay_37 : decode cX8_lay 37 = .ok (.invokevirtual 132, 3) := by decide +kernel
theorem dX8_lay_40 : decode cX8_lay 40 = .ok (.aload_n 0, 1) := by decide +kernel
theorem dX8_lay_41 : decode cX8_lay 41 = .ok (.bipush 11, 2) := by decide +kernel
theorem dX8_lay_43 : decode cX8_lay 43 = .ok (.aload_n 0, 1) := by decide +kernel
theorem dX8_lay_44 : decode cX8_lay 44 = .ok (.getfield 7, 3) := by decide +kernel
theorem dX8_lay_47 : decode cX8_lay 47 = .ok (.bipush 43, 2) := by decide +kernel
theorem dX8_lay_49 : decode cX8_lay 49 = .ok (.iload_n 1, 1) := by decide +kernel
theorem dX8_lay_50 : decode cX8_lay 50 = .ok (.iadd, 1) := by decide +kernel
theorem dX8_lay_51 : decode cX8_lay 51 = .ok (.iaload, 1) := by decide +kernel
theorem dX8_lay_52 : decode cX8_lay 52 = .ok (.invokevirtual 132, 3) := by decide +kernel
theorem dX8_lay_55 : decode cX8_lay 55 = .ok (.iconst 0, 1) := by decide +kernel
theorem dX8_lay_56 : decode cX8_lay 56 = .ok (.istore_n 3, 1) := by decide +kernel
theorem dX8_lay_57 : decode cX8_lay 57 = .ok (.iload_n 3, 1) := by decide +kernel
theorem dX8_lay_58 : decode cX8_lay 58 = .ok (.bipush 80, 2) := by decide +kernel
theorem dX8_lay_60 : decode cX8_lay 60 = .ok (.if_icmp .ge 23, 3) := by decide +kernel
theorem dX8_lay_63 : decode cX8_lay 63 = .ok (.aload_n 0, 1) := by decide +kernel
theorem dX8_lay_64 : decode cX8_lay 64 = .ok (.bipush 12, 2) := by decide +kernel
theorem dX8_lay_66 : decode cX8_lay 66 = .ok (.iload_n 3, 1) := by decide +kernel
theorem dX8_lay_67 : decode cX8_lay 67 = .ok (.iadd, 1) := by decide +kernel
theorem dX8_lay_68 : decode cX8_lay 68 = .ok (.aload_n 0, 1) := by decide +kernel
theorem dX8_lay_69 : decode cX8_lay 69 = .ok (.iload_n 1, 1) := by decide +kernel
theorem dX8_lay_70 : decode cX8_lay 70 = .ok (.iload_n 3, 1) := by decide +kernel
theorem dX8_lay_71 : decode cX8_lay 71 = .ok (.invokevirtual 103, 3) := by decide +kernel
theorem dX8_lay_74 : decode cX8_lay 74 = .ok (.invokevirtual 132, 3) := by decide +kernel
theorem dX8_lay_77 : decode cX8_lay 77 = .ok (.iinc 3 1, 3) := by decide +kernel
theorem dX8_lay_80 : decode cX8_lay 80 = .ok (.goto (-23), 3) := by decide +kernel
theorem dX8_lay_83 : decode cX8_lay 83 = .ok (.aload_n 0, 1) := by decide +kernel
theorem dX8_lay_84 : decode cX8_lay 84 = .ok (.getfield 7, 3) := by decide +kernel
theorem dX8_lay_87 : decode cX8_lay 87 = .ok (.bipush 9, 2) := by decide +kernel
theorem dX8_lay_89 : decode cX8_lay 89 = .ok (.iload_n 1, 1) := by decide +kernel
theorem dX8_lay_90 : decode cX8_lay 90 = .ok (.iadd, 1) := by decide +kernel
theorem dX8_lay_91 : decode cX8_lay 91 = .ok (.dup2, 1) := by decide +kernel
theorem dX8_lay_92 : decode cX8_lay 92 = .ok (.iaload, 1) := by decide +kernel
theorem dX8_lay_93 : decode cX8_lay 93 = .ok (.iconst 1, 1) := by decide +kernel
theorem dX8_lay_94 : decode cX8_lay 94 = .ok (.iadd, 1) := by decide +kernel
theorem dX8_lay_95 : decode cX8_lay 95 = .ok (.iastore, 1) := by decide +kernel
theorem dX8_lay_96 : decode cX8_lay 96 = .ok (.aload_n 0, 1) := by decide +kernel
theorem dX8_lay_97 : decode cX8_lay 97 = .ok (.getfield 7, 3) := by decide +kernel
theorem dX8_lay_100 : decode cX8_lay 100 = .ok (.bipush 6, 2) := by decide +kernel
theorem dX8_lay_102 : decode cX8_lay 102 = .ok (.aload_n 0, 1) := by decide +kernel
theorem dX8_lay_103 : decode cX8_lay 103 = .ok (.getfield 7, 3) := by decide +kernel
theorem dX8_lay_106 : decode cX8_lay 106 = .ok (.iconst 3, 1) := by decide +kernel
theorem dX8_lay_107 : decode cX8_lay 107 = .ok (.iaload, 1) := by decide +kernel
theorem dX8_lay_108 : decode cX8_lay 108 = .ok (.aload_n 0, 1) := by decide +kernel
theorem dX8_lay_109 : decode cX8_lay 109 = .ok (.getfield 7, 3) := by decide +kernel
theorem dX8_lay_112 : decode cX8_lay 112 = .ok (.bipush 6, 2) := by decide +kernel
theorem dX8_lay_114 : decode cX8_lay 114 = .ok (.iaload, 1) := by decide +kernel
theorem dX8_lay_115 : decode cX8_lay 115 = .ok (.if_icmp .le 12, 3) := by decide +kernel
theorem dX8_lay_118 : decode cX8_lay 118 = .ok (.aload_n 0, 1) := by decide +kernel
theorem dX8_lay_119 : decode cX8_lay 119 = .ok (.getfield 7, 3) := by decide +kernel
theorem dX8_lay_122 : decode cX8_lay 122 = .ok (.iconst 3, 1) := by decide +kernel
theorem dX8_lay_123 : decode cX8_lay 123 = .ok (.iaload, 1) := by decide +kernel
theorem dX8_lay_124 : decode cX8_lay 124 = .ok (.goto 10, 3) := by decide +kernel
theorem dX8_lay_127 : decode cX8_lay 127 = .ok (.aload_n 0, 1) := by decide +kernel
theorem dX8_lay_128 : decode cX8_lay 128 = .ok (.getfield 7, 3) := by decide +kernel
theorem dX8_lay_131 : decode cX8_lay 131 = .ok (.bipush 6, 2) := by decide +kernel
theorem dX8_lay_133 : decode cX8_lay 133 = .ok (.iaload, 1) := by decide +kernel
theorem dX8_lay_134 : decode cX8_lay 134 = .ok (.iastore, 1) := by decide +kernel
theorem dX8_lay_135 : decode cX8_lay 135 = .ok (.return_, 1) := by decide +kernel
theorem dX8_open_0 : decode cX8_open 0 = .ok (.aload_n 0, 1) := by decide +kernel
theorem dX8_open_1 : decode cX8_open 1 = .ok (.iconst 5, 1) := by decide +kernel
theorem dX8_open_2 : decode cX8_open 2 = .ok (.iconst 2, 1) := by decide +kernel
theorem dX8_open_3 : decode cX8_open 3 = .ok (.aload_n 0, 1) := by decide +kernel
theorem dX8_open_4 : decode cX8_open 4 = .ok (.iconst 4, 1) := by decide +kernel
theorem dX8_open_5 : decode cX8_open 5 = .ok (.invokevirtual 129, 3) := by decide +kernel
theorem dX8_open_8 : decode cX8_open 8 = .ok (.imul, 1) := by decide +kernel
theorem dX8_open_9 : decode cX8_open 9 = .ok (.iadd, 1) := by decide +kernel
theorem dX8_open_10 : decode cX8_open 10 = .ok (.aload_n 0, 1) := by decide +kernel
theorem dX8_open_11 : decode cX8_open 11 = .ok (.iconst 2, 1) := by decide +kernel
theorem dX8_open_12 : decode cX8_open 12 = .ok (.invokevirtual 129, 3) := by decide +kernel
theorem dX8_open_15 : decode cX8_open 15 = .ok (.invokevirtual 132, 3) := by decide +kernel
theorem dX8_open_18 : decode cX8_open 18 = .ok (.aload_n 0, 1) := by decide +kernel
theorem dX8_open_19 : decode cX8_open 19 = .ok (.iconst 5, 1) := by decide +kernel
theorem dX8_open_20 : decode cX8_open 20 = .ok (.iconst 2, 1) := by decide +kernel
theorem dX8_open_21 : decode cX8_open 21 = .ok (.aload_n 0, 1) := by decide +kernel
theorem dX8_open_22 : decode cX8_open 22 = .ok (.iconst 4, 1) := by decide +kernel
theorem dX8_open_23 : decode cX8_open 23 = .ok (.invokevirtual 129, 3) := by decide +kernel
theorem dX8_open_26 : decode cX8_open 26 = .ok (.imul, 1) := by decide +kernel
theorem dX8_open_27 : decode cX8_open 27 = .ok (.iadd, 1) := by decide +kernel
theorem dX8_open_28 : decode cX8_open 28 = .ok (.iconst 1, 1) := by decide +kernel
theorem dX8_open_29 : decode cX8_open 29 = .ok (.iadd, 1) := by decide +kernel
theorem dX8_open_30 : decode cX8_open 30 = .ok (.iload_n 1, 1) := by decide +kernel
theorem dX8_open_31 : decode cX8_open 31 = .ok (.invokevirtual 132, 3) := by decide +kernel
theorem dX8_open_34 : decode cX8_open 34 = .ok (.aload_n 0, 1) := by decide +kernel
theorem dX8_open_35 : decode cX8_open 35 = .ok (.iconst 4, 1) := by decide +kernel
theorem dX8_open_36 : decode cX8_open 36 = .ok (.aload_n 0, 1) := by decide +kernel
theorem dX8_open_37 : decode cX8_open 37 = .ok (.iconst 4, 1) := by decide +kernel
theorem dX8_open_38 : decode cX8_open 38 = .ok (.invokevirtual 129, 3) := by decide +kernel
theorem dX8_open_41 : decode cX8_open 41 = .ok (.iconst 1, 1) := by decide +kernel
theorem dX8_open_42 : decode cX8_open 42 = .ok (.iadd, 1) := by decide +kernel
theorem dX8_open_43 : decode cX8_open 43 = .ok (.invokevirtual 132, 3) := by decide +kernel
theorem dX8_open_46 : decode cX8_open 46 = .ok (.return_, 1) := by decide +kernel
theorem dX8_close_0 : decode cX8_close 0 = .ok (.aload_n 0, 1) := by decide +kernel
theorem dX8_close_1 : decode cX8_close 1 = .ok (.iconst 4, 1) := by decide +kernel
theorem dX8_close_2 : decode cX8_close 2 = .ok (.aload_n 0, 1) := by decide +kernel
theorem dX8_close_3 : decode cX8_close 3 = .ok (.iconst 4, 1) := by decide +kernel
theorem dX8_close_4 : decode cX8_close 4 = .ok (.invokevirtual 129, 3) := by decide +kernel
theorem dX8_close_7 : decode cX8_close 7 = .ok (.iconst 1, 1) := by decide +kernel
theorem dX8_close_8 : decode cX8_close 8 = .ok (.isub, 1) := by decide +kernel
theorem dX8_close_9 : decode cX8_close 9 = .ok (.invokevirtual 132, 3) := by decide +kernel
theorem dX8_close_12 : decode cX8_close 12 = .ok (.aload_n 0, 1) := by decide +kernel
theorem dX8_close_13 : decode cX8_close 13 = .ok (.iconst 5, 1) := by decide +kernel
theorem dX8_close_14 : decode cX8_close 14 = .ok (.iconst 2, 1) := by decide +kernel
theorem dX8_close_15 : decode cX8_close 15 = .ok (.aload_n 0, 1) := by decide +kernel
theorem dX8_close_16 : decode cX8_close 16 = .ok (.iconst 4, 1) := by decide +kernel
theorem dX8_close_17 : decode cX8_close 17 = .ok (.invokevirtual 129, 3) := by decide +kernel
theorem dX8_close_20 : decode cX8_close 20 = .ok (.imul, 1) := by decide +kernel
theorem dX8_close_21 : decode cX8_close 21 = .ok (.iadd, 1) := by decide +kernel
theorem dX8_close_22 : decode cX8_close 22 = .ok (.iconst 1, 1) := by decide +kernel
theorem dX8_close_23 : decode cX8_close 23 = .ok (.iadd, 1) := by decide +kernel
theorem dX8_close_24 : decode cX8_close 24 = .ok (.invokevirtual 129, 3) := by decide +kernel
theorem dX8_close_27 : decode cX8_close 27 = .ok (.istore_n 1, 1) := by decide +kernel
theorem dX8_close_28 : decode cX8_close 28 = .ok (.iload_n 1, 1) := by decide +kernel
theorem dX8_close_29 : decode cX8_close 29 = .ok (.ifCond .le 30, 3) := by decide +kernel
theorem dX8_close_32 : decode cX8_close 32 = .ok (.aload_n 0, 1) := by decide +kernel
theorem dX8_close_33 : decode cX8_close 33 = .ok (.iconst 2, 1) := by decide +kernel
theorem dX8_close_34 : decode cX8_close 34 = .ok (.aload_n 0, 1) := by decide +kernel
theorem dX8_close_35 : decode cX8_close 35 = .ok (.iconst 5, 1) := by decide +kernel
theorem dX8_close_36 : decode cX8_close 36 = .ok (.iconst 2, 1) := by decide +kernel
theorem dX8_close_37 : decode cX8_close 37 = .ok (.aload_n 0, 1) := by decide +kernel
theorem dX8_close_38 : decode cX8_close 38 = .ok (.iconst 4, 1) := by decide +kernel
theorem dX8_close_39 : decode cX8_close 39 = .ok (.invokevirtual 129, 3) := by decide +kernel
theorem dX8_close_42 : decode cX8_close 42 = .ok (.imul, 1) := by decide +kernel
theorem dX8_close_43 : decode cX8_close 43 = .ok (.iadd, 1) := by decide +kernel
theorem dX8_close_44 : decode cX8_close 44 = .ok (.invokevirtual 129, 3) := by decide +kernel
theorem dX8_close_47 : decode cX8_close 47 = .ok (.invokevirtual 132, 3) := by decide +kernel
theorem dX8_close_50 : decode cX8_close 50 = .ok (.aload_n 0, 1) := by decide +kernel
theorem dX8_close_51 : decode cX8_close 51 = .ok (.iconst 3, 1) := by decide +kernel
theorem dX8_close_52 : decode cX8_close 52 = .ok (.iload_n 1, 1) := by decide +kernel
theorem dX8_close_53 : decode cX8_close 53 = .ok (.invokevirtual 132, 3) := by decide +kernel
theorem dX8_close_56 : decode cX8_close 56 = .ok (.goto 8, 3) := by decide +kernel
theorem dX8_close_59 : decode cX8_close 59 = .ok (.aload_n 0, 1) := by decide +kernel
theorem dX8_close_60 : decode cX8_close 60 = .ok (.iconst 1, 1) := by decide +kernel
theorem dX8_close_61 : decode cX8_close 61 = .ok (.invokevirtual 136, 3) := by decide +kernel
theorem dX8_close_64 : decode cX8_close 64 = .ok (.return_, 1) := by decide +kernel
theorem dX8_settle_0 : decode cX8_settle 0 = .ok (.iconst 1, 1) := by decide +kernel
theorem dX8_settle_1 : decode cX8_settle 1 = .ok (.istore_n 1, 1) := by decide +kernel
theorem dX8_settle_2 : decode cX8_settle 2 = .ok (.iload_n 1, 1) := by decide +kernel
theorem dX8_settle_3 : decode cX8_settle 3 = .ok (.ifCond .eq 79, 3) := by decide +kernel
theorem dX8_settle_6 : decode cX8_settle 6 = .ok (.aload_n 0, 1) := by decide +kernel
theorem dX8_settle_7 : decode cX8_settle 7 = .ok (.getfield 7, 3) := by decide +kernel
theorem dX8_settle_10 : decode cX8_settle 10 = .ok (.iconst 3, 1) := by decide +kernel
theorem dX8_settle_11 : decode cX8_settle 11 = .ok (.iaload, 1) := by decide +kernel
theorem dX8_settle_12 : decode cX8_settle 12 = .ok (.ifCond .le 70, 3) := by decide +kernel
theorem dX8_settle_15 : decode cX8_settle 15 = .ok (.aload_n 0, 1) := by decide +kernel
theorem dX8_settle_16 : decode cX8_settle 16 = .ok (.iconst 2, 1) := by decide +kernel
theorem dX8_settle_17 : decode cX8_settle 17 = .ok (.invokevirtual 129, 3) := by decide +kernel
theorem dX8_settle_20 : decode cX8_settle 20 = .ok (.aload_n 0, 1) := by decide +kernel
theorem dX8_settle_21 : decode cX8_settle 21 = .ok (.bipush 11, 2) := by decide +kernel
theorem dX8_settle_23 : decode cX8_settle 23 = .ok (.invokevirtual 129, 3) := by decide +kernel
theorem dX8_settle_26 : decode cX8_settle 26 = .ok (.if_icmp .ne 30, 3) := by decide +kernel
theorem dX8_settle_29 : decode cX8_settle 29 = .ok (.aload_n 0, 1) := by decide +kernel
theorem dX8_settle_30 : decode cX8_settle 30 = .ok (.getfield 7, 3) := by decide +kernel
theorem dX8_settle_33 : decode cX8_settle 33 = .ok (.iconst 3, 1) := by decide +kernel
theorem dX8_settle_34 : decode cX8_settle 34 = .ok (.dup2, 1) := by decide +kernel
theorem dX8_settle_35 : decode cX8_settle 35 = .ok (.iaload, 1) := by decide +kernel
theorem dX8_settle_36 : decode cX8_settle 36 = .ok (.iconst 1, 1) := by decide +kernel
theorem dX8_settle_37 : decode cX8_settle 37 = .ok (.isub, 1) := by decide +kernel
theorem dX8_settle_38 : decode cX8_settle 38 = .ok (.iastore, 1) := by decide +kernel
theorem dX8_settle_39 : decode cX8_settle 39 = .ok (.aload_n 0, 1) := by decide +kernel
theorem dX8_settle_40 : decode cX8_settle 40 = .ok (.getfield 7, 3) := by decide +kernel
theorem dX8_settle_43 : decode cX8_settle 43 = .ok (.iconst 3, 1) := by decide +kernel
theorem dX8_settle_44 : decode cX8_settle 44 = .ok (.iaload, 1) := by decide +kernel
theorem dX8_settle_45 : decode cX8_settle 45 = .ok (.ifCond .le (-43), 3) := by decide +kernel
theorem dX8_settle_48 : decode cX8_settle 48 = .ok (.aload_n 0, 1) := by decide +kernel
theorem dX8_settle_49 : decode cX8_settle 49 = .ok (.iconst 2, 1) := by decide +kernel
theorem dX8_settle_50 : decode cX8_settle 50 = .ok (.invokevirtual 136, 3) := by decide +kernel
theorem dX8_settle_53 : decode cX8_settle 53 = .ok (.goto (-51), 3) := by decide +kernel
theorem dX8_settle_56 : decode cX8_settle 56 = .ok (.aload_n 0, 1) := by decide +kernel
theorem dX8_settle_57 : decode cX8_settle 57 = .ok (.aload_n 0, 1) := by decide +kernel
theorem dX8_settle_58 : decode cX8_settle 58 = .ok (.iconst 2, 1) := by decide +kernel
theorem dX8_settle_59 : decode cX8_settle 59 = .ok (.invokevirtual 129, 3) := by decide +kernel
theorem dX8_settle_62 : decode cX8_settle 62 = .ok (.invokevirtual 140, 3) := by decide +kernel
theorem dX8_settle_65 : decode cX8_settle 65 = .ok (.bipush 41, 2) := by decide +kernel
theorem dX8_settle_67 : decode cX8_settle 67 = .ok (.if_icmp .ne 10, 3) := by decide +kernel
theorem dX8_settle_70 : decode cX8_settle 70 = .ok (.aload_n 0, 1) := by decide +kernel
theorem dX8_settle_71 : decode cX8_settle 71 = .ok (.invokevirtual 143, 3) := by decide +kernel
theorem dX8_settle_74 : decode cX8_settle 74 = .ok (.goto (-72), 3) := by decide +kernel
theorem dX8_settle_77 : decode cX8_settle 77 = .ok (.iconst 0, 1) := by decide +kernel
theorem dX8_settle_78 : decode cX8_settle 78 = .ok (.istore_n 1, 1) := by decide +kernel
theorem dX8_settle_79 : decode cX8_settle 79 = .ok (.goto (-77), 3) := by decide +kernel
theorem dX8_settle_82 : decode cX8_settle 82 = .ok (.return_, 1) := by decide +kernel
theorem dX8_passPart_0 : decode cX8_passPart 0 = .ok (.iconst 1, 1) := by decide +kernel
theorem dX8_passPart_1 : decode cX8_passPart 1 = .ok (.istore_n 2, 1) := by decide +kernel
theorem dX8_passPart_2 : decode cX8_passPart 2 = .ok (.iload_n 1, 1) := by decide +kernel
theorem dX8_passPart_3 : decode cX8_passPart 3 = .ok (.iconst 1, 1) := by decide +kernel
theorem dX8_passPart_4 : decode cX8_passPart 4 = .ok (.iadd, 1) := by decide +kernel
theorem dX8_passPart_5 : decode cX8_passPart 5 = .ok (.istore_n 3, 1) := by decide +kernel
theorem dX8_passPart_6 : decode cX8_passPart 6 = .ok (.iload_n 2, 1) := by decide +kernel
theorem dX8_passPart_7 : decode cX8_passPart 7 = .ok (.ifCond .le 41, 3) := by decide +kernel
theorem dX8_passPart_10 : decode cX8_passPart 10 = .ok (.iload_n 2, 1) := by decide +kernel
theorem dX8_passPart_11 : decode cX8_passPart 11 = .ok (.aload_n 0, 1) := by decide +kernel
theorem dX8_passPart_12 : decode cX8_passPart 12 = .ok (.iload_n 3, 1) := by decide +kernel
theorem dX8_passPart_13 : decode cX8_passPart 13 = .ok (.invokevirtual 140, 3) := by decide +kernel
theorem dX8_passPart_16 : decode cX8_passPart 16 = .ok (.bipush 40, 2) := by decide +kernel
theorem dX8_passPart_18 : decode cX8_passPart 18 = .ok (.if_icmp .ne 7, 3) := by decide +kernel
theorem dX8_passPart_21 : decode cX8_passPart 21 = .ok (.iconst 1, 1) := by decide +kernel
theorem dX8_passPart_22 : decode cX8_passPart 22 = .ok (.goto 18, 3) := by decide +kernel
theorem dX8_passPart_25 : decode cX8_passPart 25 = .ok (.aload_n 0, 1) := by decide +kernel
theorem dX8_passPart_26 : decode cX8_passPart 26 = .ok (.iload_n 3, 1) := by decide +kernel
theorem dX8_passPart_27 : decode cX8_passPart 27 = .ok (.invokevirtual 140, 3) := by decide +kernel
theorem dX8_passPart_30 : decode cX8_passPart 30 = .ok (.bipush 41, 2) := by decide +kernel
theorem dX8_passPart_32 : decode cX8_passPart 32 = .ok (.if_icmp .ne 7, 3) := by decide +kernel
theorem dX8_passPart_35 : decode cX8_passPart 35 = .ok (.iconst (-1), 1) := by decide +kernel
theorem dX8_passPart_36 : decode cX8_passPart 36 = .ok (.goto 4, 3) := by decide +kernel
theorem dX8_passPart_39 : decode cX8_passPart 39 = .ok (.iconst 0, 1) := by decide +kernel
theorem dX8_passPart_40 : decode cX8_passPart 40 = .ok (.iadd, 1) := by decide +kernel
theorem dX8_passPart_41 : decode cX8_passPart 41 = .ok (.istore_n 2, 1) := by decide +kernel
theorem dX8_passPart_42 : decode cX8_passPart 42 = .ok (.iinc 3 1, 3) := by decide +kernel
theorem dX8_passPart_45 : decode cX8_passPart 45 = .ok (.goto (-39), 3) := by decide +kernel
theorem dX8_passPart_48 : decode cX8_passPart 48 = .ok (.aload_n 0, 1) := by decide +kernel
theorem dX8_passPart_49 : decode cX8_passPart 49 = .ok (.iconst 2, 1) := by decide +kernel
theorem dX8_passPart_50 : decode cX8_passPart 50 = .ok (.iload_n 3, 1) := by decide +kernel
theorem dX8_passPart_51 : decode cX8_passPart 51 = .ok (.invokevirtual 132, 3) := by decide +kernel
theorem dX8_passPart_54 : decode cX8_passPart 54 = .ok (.aload_n 0, 1) := by decide +kernel
theorem dX8_passPart_55 : decode cX8_passPart 55 = .ok (.iconst 3, 1) := by decide +kernel
theorem dX8_passPart_56 : decode cX8_passPart 56 = .ok (.iconst 0, 1) := by decide +kernel
theorem dX8_passPart_57 : decode cX8_passPart 57 = .ok (.invokevirtual 132, 3) := by decide +kernel
theorem dX8_passPart_60 : decode cX8_passPart 60 = .ok (.return_, 1) := by decide +kernel
theorem dX8_isShort_0 : decode cX8_isShort 0 = .ok (.aload_n 0, 1) := by decide +kernel
theorem dX8_isShort_1 : decode cX8_isShort 1 = .ok (.getfield 7, 3) := by decide +kernel
theorem dX8_isShort_4 : decode cX8_isShort 4 = .ok (.bipush 19, 2) := by decide +kernel
theorem dX8_isShort_6 : decode cX8_isShort 6 = .ok (.aload_n 0, 1) := by decide +kernel
theorem dX8_isShort_7 : decode cX8_isShort 7 = .ok (.iconst 1, 1) := by decide +kernel
theorem dX8_isShort_8 : decode cX8_isShort 8 = .ok (.invokevirtual 129, 3) := by decide +kernel
theorem dX8_isShort_11 : decode cX8_isShort 11 = .ok (.iadd, 1) := by decide +kernel
theorem dX8_isShort_12 : decode cX8_isShort 12 = .ok (.iaload, 1) := by decide +kernel
theorem dX8_isShort_13 : decode cX8_isShort 13 = .ok (.aload_n 0, 1) := by decide +kernel
theorem dX8_isShort_14 : decode cX8_isShort 14 = .ok (.getfield 7, 3) := by decide +kernel
theorem dX8_isShort_17 : decode cX8_isShort 17 = .ok (.iconst 2, 1) := by decide +kernel
theorem dX8_isShort_18 : decode cX8_isShort 18 = .ok (.iaload, 1) := by decide +kernel
theorem dX8_isShort_19 : decode cX8_isShort 19 = .ok (.if_icmp .ge 7, 3) := by decide +kernel
theorem dX8_isShort_22 : decode cX8_isShort 22 = .ok (.iconst 1, 1) := by decide +kernel
theorem dX8_isShort_23 : decode cX8_isShort 23 = .ok (.goto 4, 3) := by decide +kernel
theorem dX8_isShort_26 : decode cX8_isShort 26 = .ok (.iconst 0, 1) := by decide +kernel
theorem dX8_isShort_27 : decode cX8_isShort 27 = .ok (.ireturn, 1) := by decide +kernel
theorem dX8_countAt_0 : decode cX8_countAt 0 = .ok (.iload_n 1, 1) := by decide +kernel
theorem dX8_countAt_1 : decode cX8_countAt 1 = .ok (.iconst 1, 1) := by decide +kernel
theorem dX8_countAt_2 : decode cX8_countAt 2 = .ok (.iadd, 1) := by decide +kernel
theorem dX8_countAt_3 : decode cX8_countAt 3 = .ok (.aload_n 0, 1) := by decide +kernel
theorem dX8_countAt_4 : decode cX8_countAt 4 = .ok (.bipush 11, 2) := by decide +kernel
theorem dX8_countAt_6 : decode cX8_countAt 6 = .ok (.invokevirtual 129, 3) := by decide +kernel
theorem dX8_countAt_9 : decode cX8_countAt 9 = .ok (.if_icmp .ge 16, 3) := by decide +kernel
theorem dX8_countAt_12 : decode cX8_countAt 12 = .ok (.aload_n 0, 1) := by decide +kernel
theorem dX8_countAt_13 : decode cX8_countAt 13 = .ok (.iload_n 1, 1) := by decide +kernel
theorem dX8_countAt_14 : decode cX8_countAt 14 = .ok (.iconst 1, 1) := by decide +kernel
theorem dX8_countAt_15 : decode cX8_countAt 15 = .ok (.iadd, 1) := by decide +kernel
theorem dX8_countAt_16 : decode cX8_countAt 16 = .ok (.invokevirtual 140, 3) := by decide +kernel
theorem dX8_countAt_19 : decode cX8_countAt 19 = .ok (.bipush 48, 2) := by decide +kernel
theorem dX8_countAt_21 : decode cX8_countAt 21 = .ok (.isub, 1) := by decide +kernel
theorem dX8_countAt_22 : decode cX8_countAt 22 = .ok (.goto 4, 3) := by decide +kernel
theorem dX8_countAt_25 : decode cX8_countAt 25 = .ok (.iconst 0, 1) := by decide +kernel
theorem dX8_countAt_26 : decode cX8_countAt 26 = .ok (.istore_n 2, 1) := by decide +kernel
theorem dX8_countAt_27 : decode cX8_countAt 27 = .ok (.iload_n 2, 1) := by decide +kernel
theorem dX8_countAt_28 : decode cX8_countAt 28 = .ok (.iconst 2, 1) := by decide +kernel
theorem dX8_countAt_29 : decode cX8_countAt 29 = .ok (.bipush 9, 2) := by decide +kernel
theorem dX8_countAt_31 : decode cX8_countAt 31 = .ok (.invokestatic 40, 3) := by decide +kernel
theorem dX8_countAt_34 : decode cX8_countAt 34 = .ok (.ifCond .eq 7, 3) := by decide +kernel
theorem dX8_countAt_37 : decode cX8_countAt 37 = .ok (.iload_n 2, 1) := by decide +kernel
theorem dX8_countAt_38 : decode cX8_countAt 38 = .ok (.goto 4, 3) := by decide +kernel
theorem dX8_countAt_41 : decode cX8_countAt 41 = .ok (.iconst 1, 1) := by decide +kernel
theorem dX8_countAt_42 : decode cX8_countAt 42 = .ok (.ireturn, 1) := by decide +kernel
theorem dX8_leftHere_0 : decode cX8_leftHere 0 = .ok (.aload_n 0, 1) := by decide +kernel
theorem dX8_leftHere_1 : decode cX8_leftHere 1 = .ok (.iconst 3, 1) := by decide +kernel
theorem dX8_leftHere_2 : decode cX8_leftHere 2 = .ok (.invokevirtual 129, 3) := by decide +kernel
theorem dX8_leftHere_5 : decode cX8_leftHere 5 = .ok (.ifCond .le 11, 3) := by decide +kernel
theorem dX8_leftHere_8 : decode cX8_leftHere 8 = .ok (.aload_n 0, 1) := by decide +kernel
theorem dX8_leftHere_9 : decode cX8_leftHere 9 = .ok (.iconst 3, 1) := by decide +kernel
theorem dX8_leftHere_10 : decode cX8_leftHere 10 = .ok (.invokevirtual 129, 3) := by decide +kernel
theorem dX8_leftHere_13 : decode cX8_leftHere 13 = .ok (.goto 12, 3) := by decide +kernel
theorem dX8_leftHere_16 : decode cX8_leftHere 16 = .ok (.aload_n 0, 1) := by decide +kernel
theorem dX8_leftHere_17 : decode cX8_leftHere 17 = .ok (.aload_n 0, 1) := by decide +kernel
theorem dX8_leftHere_18 : decode cX8_leftHere 18 = .ok (.iconst 2, 1) := by decide +kernel
theorem dX8_leftHere_19 : decode cX8_leftHere 19 = .ok (.invokevirtual 129, 3) := by decide +kernel
theorem dX8_leftHere_22 : decode cX8_leftHere 22 = .ok (.invokevirtual 146, 3) := by decide +kernel
theorem dX8_leftHere_25 : decode cX8_leftHere 25 = .ok (.ireturn, 1) := by decide +kernel
theorem dX8_donePick_0 : decode cX8_donePick 0 = .ok (.aload_n 0, 1) := by decide +kernel
theorem dX8_donePick_1 : decode cX8_donePick 1 = .ok (.invokevirtual 149, 3) := by decide +kernel
theorem dX8_donePick_4 : decode cX8_donePick 4 = .ok (.iconst 1, 1) := by decide +kernel
theorem dX8_donePick_5 : decode cX8_donePick 5 = .ok (.isub, 1) := by decide +kernel
theorem dX8_donePick_6 : decode cX8_donePick 6 = .ok (.istore_n 1, 1) := by decide +kernel
theorem dX8_donePick_7 : decode cX8_donePick 7 = .ok (.aload_n 0, 1) := by decide +kernel
theorem dX8_donePick_8 : decode cX8_donePick 8 = .ok (.iconst 3, 1) := by decide +kernel
theorem dX8_donePick_9 : decode cX8_donePick 9 = .ok (.iload_n 1, 1) := by decide +kernel
theorem dX8_donePick_10 : decode cX8_donePick 10 = .ok (.invokevirtual 132, 3) := by decide +kernel
theorem dX8_donePick_13 : decode cX8_donePick 13 = .ok (.iload_n 1, 1) := by decide +kernel
theorem dX8_donePick_14 : decode cX8_donePick 14 = .ok (.ifCond .ne 25, 3) := by decide +kernel
theorem dX8_donePick_17 : decode cX8_donePick 17 = .ok (.aload_n 0, 1) := by decide +kernel
theorem dX8_donePick_18 : decode cX8_donePick 18 = .ok (.aload_n 0, 1) := by decide +kernel
theorem dX8_donePick_19 : decode cX8_donePick 19 = .ok (.aload_n 0, 1) := by decide +kernel
theorem dX8_donePick_20 : decode cX8_donePick 20 = .ok (.iconst 2, 1) := by decide +kernel
theorem dX8_donePick_21 : decode cX8_donePick 21 = .ok (.invokevirtual 129, 3) := by decide +kernel
theorem dX8_donePick_24 : decode cX8_donePick 24 = .ok (.invokevirtual 146, 3) := by decide +kernel
theorem dX8_donePick_27 : decode cX8_donePick 27 = .ok (.iconst 1, 1) := by decide +kernel
theorem dX8_donePick_28 : decode cX8_donePick 28 = .ok (.if_icmp .le 7, 3) := by decide +kernel
theorem dX8_donePick_31 : decode cX8_donePick 31 = .ok (.iconst 2, 1) := by decide +kernel
theorem dX8_donePick_32 : decode cX8_donePick 32 = .ok (.goto 4, 3) := by decide +kernel
theorem dX8_donePick_35 : decode cX8_donePick 35 = .ok (.iconst 1, 1) := by decide +kernel
theorem dX8_donePick_36 : decode cX8_donePick 36 = .ok (.invokevirtual 136, 3) := by decide +kernel
theorem dX8_donePick_39 : decode cX8_donePick 39 = .ok (.return_, 1) := by decide +kernel
theorem dX8_weavePick_0 : decode cX8_weavePick 0 = .ok (.aload_n 0, 1) := by decide +kernel
theorem dX8_weavePick_1 : decode cX8_weavePick 1 = .ok (.iconst 1, 1) := by decide +kernel
theorem dX8_weavePick_2 : decode cX8_weavePick 2 = .ok (.invokevirtual 129, 3) := by decide +kernel
theorem dX8_weavePick_5 : decode cX8_weavePick 5 = .ok (.istore_n 1, 1) := by decide +kernel
theorem dX8_weavePick_6 : decode cX8_weavePick 6 = .ok (.aload_n 0, 1) := by decide +kernel
theorem dX8_weavePick_7 : decode cX8_weavePick 7 = .ok (.getfield 7, 3) := by decide +kernel
theorem dX8_weavePick_10 : decode cX8_weavePick 10 = .ok (.bipush 19, 2) := by decide +kernel
theorem dX8_weavePick_12 : decode cX8_weavePick 12 = .ok (.iload_n 1, 1) := by decide +kernel
theorem dX8_weavePick_13 : decode cX8_weavePick 13 = .ok (.iadd, 1) := by decide +kernel
theorem dX8_weavePick_14 : decode cX8_weavePick 14 = .ok (.dup2, 1) := by decide +kernel
theorem dX8_weavePick_15 : decode cX8_weavePick 15 = .ok (.iaload, 1) := by decide +kernel
theorem dX8_weavePick_16 : decode cX8_weavePick 16 = .ok (.iconst 1, 1) := by decide +kernel
theorem dX8_weavePick_17 : decode cX8_weavePick 17 = .ok (.isub, 1) := by decide +kernel
theorem dX8_weavePick_18 : decode cX8_weavePick 18 = .ok (.iastore, 1) := by decide +kernel
theorem dX8_weavePick_19 : decode cX8_weavePick 19 = .ok (.aload_n 0, 1) := by decide +kernel
theorem dX8_weavePick_20 : decode cX8_weavePick 20 = .ok (.getfield 7, 3) := by decide +kernel
theorem dX8_weavePick_23 : decode cX8_weavePick 23 = .ok (.bipush 25, 2) := by decide +kernel
theorem dX8_weavePick_25 : decode cX8_weavePick 25 = .ok (.iload_n 1, 1) := by decide +kernel
theorem dX8_weavePick_26 : decode cX8_weavePick 26 = .ok (.iadd, 1) := by decide +kernel
theorem dX8_weavePick_27 : decode cX8_weavePick 27 = .ok (.dup2, 1) := by decide +kernel
theorem dX8_weavePick_28 : decode cX8_weavePick 28 = .ok (.iaload, 1) := by decide +kernel
theorem dX8_weavePick_29 : decode cX8_weavePick 29 = .ok (.iconst 1, 1) := by decide +kernel
theorem dX8_weavePick_30 : decode cX8_weavePick 30 = .ok (.iadd, 1) := by decide +kernel
theorem dX8_weavePick_31 : decode cX8_weavePick 31 = .ok (.iastore, 1) := by decide +kernel
theorem dX8_weavePick_32 : decode cX8_weavePick 32 = .ok (.aload_n 0, 1) := by decide +kernel
theorem dX8_weavePick_33 : decode cX8_weavePick 33 = .ok (.getfield 7, 3) := by decide +kernel
theorem dX8_weavePick_36 : decode cX8_weavePick 36 = .ok (.bipush 37, 2) := by decide +kernel
theorem dX8_weavePick_38 : decode cX8_weavePick 38 = .ok (.iload_n 1, 1) := by decide +kernel
theorem dX8_weavePick_39 : decode cX8_weavePick 39 = .ok (.iadd, 1) := by decide +kernel
theorem dX8_weavePick_40 : decode cX8_weavePick 40 = .ok (.dup2, 1) := by decide +kernel
theorem dX8_weavePick_41 : decode cX8_weavePick 41 = .ok (.iaload, 1) := by decide +kernel
theorem dX8_weavePick_42 : decode cX8_weavePick 42 = .ok (.iconst 1, 1) := by decide +kernel
theorem dX8_weavePick_43 : decode cX8_weavePick 43 = .ok (.iadd, 1) := by decide +kernel
theorem dX8_weavePick_44 : decode cX8_weavePick 44 = .ok (.iastore, 1) := by decide +kernel
theorem dX8_weavePick_45 : decode cX8_weavePick 45 = .ok (.aload_n 0, 1) := by decide +kernel
theorem dX8_weavePick_46 : decode cX8_weavePick 46 = .ok (.getfield 7, 3) := by decide +kernel
theorem dX8_weavePick_49 : decode cX8_weavePick 49 = .ok (.iconst 5, 1) := by decide +kernel
theorem dX8_weavePick_50 : decode cX8_weavePick 50 = .ok (.dup2, 1) := by decide +kernel
theorem dX8_weavePick_51 : decode cX8_weavePick 51 = .ok (.iaload, 1) := by decide +kernel
theorem dX8_weavePick_52 : decode cX8_weavePick 52 = .ok (.iconst 1, 1) := by decide +kernel
theorem dX8_weavePick_53 : decode cX8_weavePick 53 = .ok (.iadd, 1) := by decide +kernel
theorem dX8_weavePick_54 : decode cX8_weavePick 54 = .ok (.iastore, 1) := by decide +kernel
theorem dX8_weavePick_55 : decode cX8_weavePick 55 = .ok (.aload_n 0, 1) := by decide +kernel
theorem dX8_weavePick_56 : decode cX8_weavePick 56 = .ok (.getfield 7, 3) := by decide +kernel
theorem dX8_weavePick_59 : decode cX8_weavePick 59 = .ok (.sipush 853, 3) := by decide +kernel
theorem dX8_weavePick_62 : decode cX8_weavePick 62 = .ok (.aload_n 0, 1) := by decide +kernel
theorem dX8_weavePick_63 : decode cX8_weavePick 63 = .ok (.getfield 7, 3) := by decide +kernel
theorem dX8_weavePick_66 : decode cX8_weavePick 66 = .ok (.iconst 4, 1) := by decide +kernel
theorem dX8_weavePick_67 : decode cX8_weavePick 67 = .ok (.iaload, 1) := by decide +kernel
theorem dX8_weavePick_68 : decode cX8_weavePick 68 = .ok (.iadd, 1) := by decide +kernel
theorem dX8_weavePick_69 : decode cX8_weavePick 69 = .ok (.iload_n 1, 1) := by decide +kernel
theorem dX8_weavePick_70 : decode cX8_weavePick 70 = .ok (.iastore, 1) := by decide +kernel
theorem dX8_weavePick_71 : decode cX8_weavePick 71 = .ok (.aload_n 0, 1) := by decide +kernel
theorem dX8_weavePick_72 : decode cX8_weavePick 72 = .ok (.getfield 7, 3) := by decide +kernel
theorem dX8_weavePick_75 : decode cX8_weavePick 75 = .ok (.iconst 4, 1) := by decide +kernel
theorem dX8_weavePick_76 : decode cX8_weavePick 76 = .ok (.dup2, 1) := by decide +kernel
theorem dX8_weavePick_77 : decode cX8_weavePick 77 = .ok (.iaload, 1) := by decide +kernel
theorem dX8_weavePick_78 : decode cX8_weavePick 78 = .ok (.iconst 1, 1) := by decide +kernel
theorem dX8_weavePick_79 : decode cX8_weavePick 79 = .ok (.iadd, 1) := by decide +kernel
theorem dX8_weavePick_80 : decode cX8_weavePick 80 = .ok (.iastore, 1) := by decide +kernel
theorem dX8_weavePick_81 : decode cX8_weavePick 81 = .ok (.aload_n 0, 1) := by decide +kernel
theorem dX8_weavePick_82 : decode cX8_weavePick 82 = .ok (.invokevirtual 152, 3) := by decide +kernel
theorem dX8_weavePick_85 : decode cX8_weavePick 85 = .ok (.return_, 1) := by decide +kernel
theorem dX8_reasonOfPick_0 : decode cX8_reasonOfPick 0 = .ok (.aload_n 0, 1) := by decide +kernel
theorem dX8_reasonOfPick_1 : decode cX8_reasonOfPick 1 = .ok (.iconst 1, 1) := by decide +kernel
theorem dX8_reasonOfPick_2 : decode cX8_reasonOfPick 2 = .ok (.invokevirtual 129, 3) := by decide +kernel
theorem dX8_reasonOfPick_5 : decode cX8_reasonOfPick 5 = .ok (.istore_n 1, 1) := by decide +kernel
theorem dX8_reasonOfPick_6 : decode cX8_reasonOfPick 6 = .ok (.aload_n 0, 1) := by decide +kernel
theorem dX8_reasonOfPick_7 : decode cX8_reasonOfPick 7 = .ok (.getfield 7, 3) := by decide +kernel
theorem dX8_reasonOfPick_10 : decode cX8_reasonOfPick 10 = .ok (.bipush 19, 2) := by decide +kernel
theorem dX8_reasonOfPick_12 : decode cX8_reasonOfPick 12 = .ok (.iload_n 1, 1) := by decide +kernel
theorem dX8_reasonOfPick_13 : decode cX8_reasonOfPick 13 = .ok (.iadd, 1) := by decide +kernel
theorem dX8_reasonOfPick_14 : decode cX8_reasonOfPick 14 = .ok (.iaload, 1) := by decide +kernel
theorem dX8_reasonOfPick_15 : decode cX8_reasonOfPick 15 = .ok (.ifCond .ne 5, 3) := by decide +kernel
theorem dX8_reasonOfPick_18 : decode cX8_reasonOfPick 18 = .ok (.iconst 2, 1) := by decide +kernel
theorem dX8_reasonOfPick_19 : decode cX8_reasonOfPick 19 = .ok (.ireturn, 1) := by decide +kernel
theorem dX8_reasonOfPick_20 : decode cX8_reasonOfPick 20 = .ok (.aload_n 0, 1) := by decide +kernel
theorem dX8_reasonOfPick_21 : decode cX8_reasonOfPick 21 = .ok (.getfield 7, 3) := by decide +kernel
theorem dX8_reasonOfPick_24 : decode cX8_reasonOfPick 24 = .ok (.bipush 25, 2) := by decide +kernel
theorem dX8_reasonOfPick_26 : decode cX8_reasonOfPick 26 = .ok (.iload_n 1, 1) := by decide +kernel
theorem dX8_reasonOfPick_27 : decode cX8_reasonOfPick 27 = .ok (.iadd, 1) := by decide +kernel
theorem dX8_reasonOfPick_28 : decode cX8_reasonOfPick 28 = .ok (.iaload, 1) := by decide +kernel
theorem dX8_reasonOfPick_29 : decode cX8_reasonOfPick 29 = .ok (.aload_n 0, 1) := by decide +kernel
theorem dX8_reasonOfPick_30 : decode cX8_reasonOfPick 30 = .ok (.getfield 7, 3) := by decide +kernel
theorem dX8_reasonOfPick_33 : decode cX8_reasonOfPick 33 = .ok (.iconst 1, 1) := by decide +kernel
theorem dX8_reasonOfPick_34 : decode cX8_reasonOfPick 34 = .ok (.iaload, 1) := by decide +kernel
theorem dX8_reasonOfPick_35 : decode cX8_reasonOfPick 35 = .ok (.if_icmp .lt 7, 3) := by decide +kernel
theorem dX8_reasonOfPick_38 : decode cX8_reasonOfPick 38 = .ok (.iconst 3, 1) := by decide +kernel
theorem dX8_reasonOfPick_39 : decode cX8_reasonOfPick 39 = .ok (.goto 20, 3) := by decide +kernel
theorem dX8_reasonOfPick_42 : decode cX8_reasonOfPick 42 = .ok (.aload_n 0, 1) := by decide +kernel
theorem dX8_reasonOfPick_43 : decode cX8_reasonOfPick 43 = .ok (.getfield 7, 3) := by decide +kernel
theorem dX8_reasonOfPick_46 : decode cX8_reasonOfPick 46 = .ok (.iconst 4, 1) := by decide +kernel
theorem dX8_reasonOfPick_47 : decode cX8_reasonOfPick 47 = .ok (.iaload, 1) := by decide +kernel
theorem dX8_reasonOfPick_48 : decode cX8_reasonOfPick 48 = .ok (.sipush 400, 3) := by decide +kernel
theorem dX8_reasonOfPick_51 : decode cX8_reasonOfPick 51 = .ok (.if_icmp .ne 7, 3) := by decide +kernel
theorem dX8_reasonOfPick_54 : decode cX8_reasonOfPick 54 = .ok (.iconst 4, 1) := by decide +kernel
theorem dX8_reasonOfPick_55 : decode cX8_reasonOfPick 55 = .ok (.goto 4, 3) := by decide +kernel
theorem dX8_reasonOfPick_58 : decode cX8_reasonOfPick 58 = .ok (.iconst 0, 1) := by decide +kernel
theorem dX8_reasonOfPick_59 : decode cX8_reasonOfPick 59 = .ok (.ireturn, 1) := by decide +kernel
theorem dX8_reasonOfCall_0 : decode cX8_reasonOfCall 0 = .ok (.aload_n 0, 1) := by decide +kernel
theorem dX8_reasonOfCall_1 : decode cX8_reasonOfCall 1 = .ok (.aload_n 0, 1) := by decide +kernel
theorem dX8_reasonOfCall_2 : decode cX8_reasonOfCall 2 = .ok (.iconst 2, 1) := by decide +kernel
theorem dX8_reasonOfCall_3 : decode cX8_reasonOfCall 3 = .ok (.invokevirtual 129, 3) := by decide +kernel
theorem dX8_reasonOfCall_6 : decode cX8_reasonOfCall 6 = .ok (.iconst 1, 1) := by decide +kernel
theorem dX8_reasonOfCall_7 : decode cX8_reasonOfCall 7 = .ok (.iadd, 1) := by decide +kernel
theorem dX8_reasonOfCall_8 : decode cX8_reasonOfCall 8 = .ok (.invokevirtual 140, 3) := by decide +kernel
theorem dX8_reasonOfCall_11 : decode cX8_reasonOfCall 11 = .ok (.bipush 48, 2) := by decide +kernel
theorem dX8_reasonOfCall_13 : decode cX8_reasonOfCall 13 = .ok (.isub, 1) := by decide +kernel
theorem dX8_reasonOfCall_14 : decode cX8_reasonOfCall 14 = .ok (.istore_n 1, 1) := by decide +kernel
theorem dX8_reasonOfCall_15 : decode cX8_reasonOfCall 15 = .ok (.aload_n 0, 1) := by decide +kernel
theorem dX8_reasonOfCall_16 : decode cX8_reasonOfCall 16 = .ok (.iload_n 1, 1) := by decide +kernel
theorem dX8_reasonOfCall_17 : decode cX8_reasonOfCall 17 = .ok (.invokevirtual 100, 3) := by decide +kernel
theorem dX8_reasonOfCall_20 : decode cX8_reasonOfCall 20 = .ok (.ifCond .ne 7, 3) := by decide +kernel
theorem dX8_reasonOfCall_23 : decode cX8_reasonOfCall 23 = .ok (.iconst 5, 1) := by decide +kernel
theorem dX8_reasonOfCall_24 : decode cX8_reasonOfCall 24 = .ok (.goto 24, 3) := by decide +kernel
theorem dX8_reasonOfCall_27 : decode cX8_reasonOfCall 27 = .ok (.aload_n 0, 1) := by decide +kernel
theorem dX8_reasonOfCall_28 : decode cX8_reasonOfCall 28 = .ok (.getfield 7, 3) := by decide +kernel
theorem dX8_reasonOfCall_31 : decode cX8_reasonOfCall 31 = .ok (.iconst 3, 1) := by decide +kernel
theorem dX8_reasonOfCall_32 : decode cX8_reasonOfCall 32 = .ok (.iaload, 1) := by decide +kernel
theorem dX8_reasonOfCall_33 : decode cX8_reasonOfCall 33 = .ok (.aload_n 0, 1) := by decide +kernel
theorem dX8_reasonOfCall_34 : decode cX8_reasonOfCall 34 = .ok (.getfield 7, 3) := by decide +kernel
theorem dX8_reasonOfCall_37 : decode cX8_reasonOfCall 37 = .ok (.iconst 0, 1) := by decide +kernel
theorem dX8_reasonOfCall_38 : decode cX8_reasonOfCall 38 = .ok (.iaload, 1) := by decide +kernel
theorem dX8_reasonOfCall_39 : decode cX8_reasonOfCall 39 = .ok (.if_icmp .lt 8, 3) := by decide +kernel
theorem dX8_reasonOfCall_42 : decode cX8_reasonOfCall 42 = .ok (.bipush 6, 2) := by decide +kernel
theorem dX8_reasonOfCall_44 : decode cX8_reasonOfCall 44 = .ok (.goto 4, 3) := by decide +kernel
theorem dX8_reasonOfCall_47 : decode cX8_reasonOfCall 47 = .ok (.iconst 0, 1) := by decide +kernel
theorem dX8_reasonOfCall_48 : decode cX8_reasonOfCall 48 = .ok (.ireturn, 1) := by decide +kernel
theorem dX8_reason_0 : decode cX8_reason 0 = .ok (.aload_n 0, 1) := by decide +kernel
theorem dX8_reason_1 : decode cX8_reason 1 = .ok (.getfield 7, 3) := by decide +kernel
theorem dX8_reason_4 : decode cX8_reason 4 = .ok (.iconst 3, 1) := by decide +kernel
theorem dX8_reason_5 : decode cX8_reason 5 = .ok (.iaload, 1) := by decide +kernel
theorem dX8_reason_6 : decode cX8_reason 6 = .ok (.ifCond .ne 5, 3) := by decide +kernel
theorem dX8_reason_9 : decode cX8_reason 9 = .ok (.iconst 1, 1) := by decide +kernel
theorem dX8_reason_10 : decode cX8_reason 10 = .ok (.ireturn, 1) := by decide +kernel
theorem dX8_reason_11 : decode cX8_reason 11 = .ok (.aload_n 0, 1) := by decide +kernel
theorem dX8_reason_12 : decode cX8_reason 12 = .ok (.aload_n 0, 1) := by decide +kernel
theorem dX8_reason_13 : decode cX8_reason 13 = .ok (.iconst 2, 1) := by decide +kernel
theorem dX8_reason_14 : decode cX8_reason 14 = .ok (.invokevirtual 129, 3) := by decide +kernel
theorem dX8_reason_17 : decode cX8_reason 17 = .ok (.invokevirtual 140, 3) := by decide +kernel
theorem dX8_reason_20 : decode cX8_reason 20 = .ok (.istore_n 2, 1) := by decide +kernel
theorem dX8_reason_21 : decode cX8_reason 21 = .ok (.iload_n 2, 1) := by decide +kernel
theorem dX8_reason_22 : decode cX8_reason 22 = .ok (.bipush 119, 2) := by decide +kernel
theorem dX8_reason_24 : decode cX8_reason 24 = .ok (.if_icmp .ne 10, 3) := by decide +kernel
theorem dX8_reason_27 : decode cX8_reason 27 = .ok (.aload_n 0, 1) := by decide +kernel
theorem dX8_reason_28 : decode cX8_reason 28 = .ok (.invokevirtual 155, 3) := by decide +kernel
theorem dX8_reason_31 : decode cX8_reason 31 = .ok (.goto 17, 3) := by decide +kernel
theorem dX8_reason_34 : decode cX8_reason 34 = .ok (.iload_n 2, 1) := by decide +kernel
theorem dX8_reason_35 : decode cX8_reason 35 = .ok (.bipush 107, 2) := by decide +kernel
theorem dX8_reason_37 : decode cX8_reason 37 = .ok (.if_icmp .ne 10, 3) := by decide +kernel
theorem dX8_reason_40 : decode cX8_reason 40 = .ok (.aload_n 0, 1) := by decide +kernel
theorem dX8_reason_41 : decode cX8_reason 41 = .ok (.invokevirtual 158, 3) := by decide +kernel
theorem dX8_reason_44 : decode cX8_reason 44 = .ok (.goto 4, 3) := by decide +kernel
theorem dX8_reason_47 : decode cX8_reason 47 = .ok (.iconst 0, 1) := by decide +kernel
theorem dX8_reason_48 : decode cX8_reason 48 = .ok (.istore_n 3, 1) := by decide +kernel
theorem dX8_reason_49 : decode cX8_reason 49 = .ok (.iload_n 3, 1) := by decide +kernel
theorem dX8_reason_50 : decode cX8_reason 50 = .ok (.ifCond .ne 15, 3) := by decide +kernel
theorem dX8_reason_53 : decode cX8_reason 53 = .ok (.iload_n 1, 1) := by decide +kernel
theorem dX8_reason_54 : decode cX8_reason 54 = .ok (.sipush 500, 3) := by decide +kernel
theorem dX8_reason_57 : decode cX8_reason 57 = .ok (.if_icmp .lt 8, 3) := by decide +kernel
theorem dX8_reason_60 : decode cX8_reason 60 = .ok (.bipush 7, 2) := by decide +kernel
theorem dX8_reason_62 : decode cX8_reason 62 = .ok (.goto 4, 3) := by decide +kernel
theorem dX8_reason_65 : decode cX8_reason 65 = .ok (.iload_n 3, 1) := by decide +kernel
theorem dX8_reason_66 : decode cX8_reason 66 = .ok (.ireturn, 1) := by decide +kernel
theorem dX8_doPart_0 : decode cX8_doPart 0 = .ok (.iload_n 1, 1) := by decide +kernel
theorem dX8_doPart_1 : decode cX8_doPart 1 = .ok (.bipush 120, 2) := by decide +kernel
theorem dX8_doPart_3 : decode cX8_doPart 3 = .ok (.if_icmp .ne 29, 3) := by decide +kernel
theorem dX8_doPart_6 : decode cX8_doPart 6 = .ok (.aload_n 0, 1) := by decide +kernel
theorem dX8_doPart_7 : decode cX8_doPart 7 = .ok (.invokevirtual 149, 3) := by decide +kernel
theorem dX8_doPart_10 : decode cX8_doPart 10 = .ok (.iconst 1, 1) := by decide +kernel
theorem dX8_doPart_11 : decode cX8_doPart 11 = .ok (.isub, 1) := by decide +kernel
theorem dX8_doPart_12 : decode cX8_doPart 12 = .ok (.istore_n 2, 1) := by decide +kernel
theorem dX8_doPart_13 : decode cX8_doPart 13 = .ok (.aload_n 0, 1) := by decide +kernel
theorem dX8_doPart_14 : decode cX8_doPart 14 = .ok (.iload_n 2, 1) := by decide +kernel
theorem dX8_doPart_15 : decode cX8_doPart 15 = .ok (.invokevirtual 161, 3) := by decide +kernel
theorem dX8_doPart_18 : decode cX8_doPart 18 = .ok (.aload_n 0, 1) := by decide +kernel
theorem dX8_doPart_19 : decode cX8_doPart 19 = .ok (.iconst 3, 1) := by decide +kernel
theorem dX8_doPart_20 : decode cX8_doPart 20 = .ok (.iconst 0, 1) := by decide +kernel
theorem dX8_doPart_21 : decode cX8_doPart 21 = .ok (.invokevirtual 132, 3) := by decide +kernel
theorem dX8_doPart_24 : decode cX8_doPart 24 = .ok (.aload_n 0, 1) := by decide +kernel
theorem dX8_doPart_25 : decode cX8_doPart 25 = .ok (.iconst 3, 1) := by decide +kernel
theorem dX8_doPart_26 : decode cX8_doPart 26 = .ok (.invokevirtual 136, 3) := by decide +kernel
theorem dX8_doPart_29 : decode cX8_doPart 29 = .ok (.goto 45, 3) := by decide +kernel
theorem dX8_doPart_32 : decode cX8_doPart 32 = .ok (.aload_n 0, 1) := by decide +kernel
theorem dX8_doPart_33 : decode cX8_doPart 33 = .ok (.invokevirtual 164, 3) := by decide +kernel
theorem dX8_doPart_36 : decode cX8_doPart 36 = .ok (.iload_n 1, 1) := by decide +kernel
theorem dX8_doPart_37 : decode cX8_doPart 37 = .ok (.bipush 115, 2) := by decide +kernel
theorem dX8_doPart_39 : decode cX8_doPart 39 = .ok (.if_icmp .ne 7, 3) := by decide +kernel
theorem dX8_doPart_42 : decode cX8_doPart 42 = .ok (.iconst 1, 1) := by decide +kernel
theorem dX8_doPart_43 : decode cX8_doPart 43 = .ok (.goto 4, 3) := by decide +kernel
theorem dX8_doPart_46 : decode cX8_doPart 46 = .ok (.iconst 0, 1) := by decide +kernel
theorem dX8_doPart_47 : decode cX8_doPart 47 = .ok (.if_icmp .ne 16, 3) := by decide +kernel
theorem dX8_doPart_50 : decode cX8_doPart 50 = .ok (.aload_n 0, 1) := by decide +kernel
theorem dX8_doPart_51 : decode cX8_doPart 51 = .ok (.iconst 0, 1) := by decide +kernel
theorem dX8_doPart_52 : decode cX8_doPart 52 = .ok (.invokevirtual 161, 3) := by decide +kernel
theorem dX8_doPart_55 : decode cX8_doPart 55 = .ok (.aload_n 0, 1) := by decide +kernel
theorem dX8_doPart_56 : decode cX8_doPart 56 = .ok (.iconst 2, 1) := by decide +kernel
theorem dX8_doPart_57 : decode cX8_doPart 57 = .ok (.invokevirtual 136, 3) := by decide +kernel
theorem dX8_doPart_60 : decode cX8_doPart 60 = .ok (.goto 14, 3) := by decide +kernel
theorem dX8_doPart_63 : decode cX8_doPart 63 = .ok (.aload_n 0, 1) := by decide +kernel
theorem dX8_doPart_64 : decode cX8_doPart 64 = .ok (.aload_n 0, 1) := by decide +kernel
theorem dX8_doPart_65 : decode cX8_doPart 65 = .ok (.iconst 2, 1) := by decide +kernel
theorem dX8_doPart_66 : decode cX8_doPart 66 = .ok (.invokevirtual 129, 3) := by decide +kernel
theorem dX8_doPart_69 : decode cX8_doPart 69 = .ok (.iconst 1, 1) := by decide +kernel
theorem dX8_doPart_70 : decode cX8_doPart 70 = .ok (.iadd, 1) := by decide +kernel
theorem dX8_doPart_71 : decode cX8_doPart 71 = .ok (.invokevirtual 167, 3) := by decide +kernel
theorem dX8_doPart_74 : decode cX8_doPart 74 = .ok (.return_, 1) := by decide +kernel
theorem dX8_doStep_0 : decode cX8_doStep 0 = .ok (.aload_n 0, 1) := by decide +kernel
theorem dX8_doStep_1 : decode cX8_doStep 1 = .ok (.aload_n 0, 1) := by decide +kernel
theorem dX8_doStep_2 : decode cX8_doStep 2 = .ok (.iconst 2, 1) := by decide +kernel
theorem dX8_doStep_3 : decode cX8_doStep 3 = .ok (.invokevirtual 129, 3) := by decide +kernel
theorem dX8_doStep_6 : decode cX8_doStep 6 = .ok (.invokevirtual 140, 3) := by decide +kernel
theorem dX8_doStep_9 : decode cX8_doStep 9 = .ok (.istore_n 1, 1) := by decide +kernel
theorem dX8_doStep_10 : decode cX8_doStep 10 = .ok (.iload_n 1, 1) := by decide +kernel
theorem dX8_doStep_11 : decode cX8_doStep 11 = .ok (.lookupswitch 104 #[(99, 40), (107, 67), (119, 33)], 33) := by decide +kernel
theorem dX8_doStep_44 : decode cX8_doStep 44 = .ok (.aload_n 0, 1) := by decide +kernel
theorem dX8_doStep_45 : decode cX8_doStep 45 = .ok (.invokevirtual 170, 3) := by decide +kernel
theorem dX8_doStep_48 : decode cX8_doStep 48 = .ok (.goto 72, 3) := by decide +kernel
theorem dX8_doStep_51 : decode cX8_doStep 51 = .ok (.aload_n 0, 1) := by decide +kernel
theorem dX8_doStep_52 : decode cX8_doStep 52 = .ok (.iconst 1, 1) := by decide +kernel
theorem dX8_doStep_53 : decode cX8_doStep 53 = .ok (.aload_n 0, 1) := by decide +kernel
theorem dX8_doStep_54 : decode cX8_doStep 54 = .ok (.aload_n 0, 1) := by decide +kernel
theorem dX8_doStep_55 : decode cX8_doStep 55 = .ok (.iconst 2, 1) := by decide +kernel
theorem dX8_doStep_56 : decode cX8_doStep 56 = .ok (.invokevirtual 129, 3) := by decide +kernel
theorem dX8_doStep_59 : decode cX8_doStep 59 = .ok (.iconst 1, 1) := by decide +kernel
theorem dX8_doStep_60 : decode cX8_doStep 60 = .ok (.iadd, 1) := by decide +kernel
theorem dX8_doStep_61 : decode cX8_doStep 61 = .ok (.invokevirtual 140, 3) := by decide +kernel
theorem dX8_doStep_64 : decode cX8_doStep 64 = .ok (.bipush 48, 2) := by decide +kernel
theorem dX8_doStep_66 : decode cX8_doStep 66 = .ok (.isub, 1) := by decide +kernel
theorem dX8_doStep_67 : decode cX8_doStep 67 = .ok (.invokevirtual 132, 3) := by decide +kernel
theorem dX8_doStep_70 : decode cX8_doStep 70 = .ok (.aload_n 0, 1) := by decide +kernel
theorem dX8_doStep_71 : decode cX8_doStep 71 = .ok (.iconst 2, 1) := by decide +kernel
theorem dX8_doStep_72 : decode cX8_doStep 72 = .ok (.invokevirtual 136, 3) := by decide +kernel
theorem dX8_doStep_75 : decode cX8_doStep 75 = .ok (.goto 45, 3) := by decide +kernel
theorem dX8_doStep_78 : decode cX8_doStep 78 = .ok (.aload_n 0, 1) := by decide +kernel
theorem dX8_doStep_79 : decode cX8_doStep 79 = .ok (.getfield 7, 3) := by decide +kernel
theorem dX8_doStep_82 : decode cX8_doStep 82 = .ok (.bipush 7, 2) := by decide +kernel
theorem dX8_doStep_84 : decode cX8_doStep 84 = .ok (.dup2, 1) := by decide +kernel
theorem dX8_doStep_85 : decode cX8_doStep 85 = .ok (.iaload, 1) := by decide +kernel
theorem dX8_doStep_86 : decode cX8_doStep 86 = .ok (.iconst 1, 1) := by decide +kernel
theorem dX8_doStep_87 : decode cX8_doStep 87 = .ok (.iadd, 1) := by decide +kernel
theorem dX8_doStep_88 : decode cX8_doStep 88 = .ok (.iastore, 1) := by decide +kernel
theorem dX8_doStep_89 : decode cX8_doStep 89 = .ok (.aload_n 0, 1) := by decide +kernel
theorem dX8_doStep_90 : decode cX8_doStep 90 = .ok (.aload_n 0, 1) := by decide +kernel
theorem dX8_doStep_91 : decode cX8_doStep 91 = .ok (.aload_n 0, 1) := by decide +kernel
theorem dX8_doStep_92 : decode cX8_doStep 92 = .ok (.iconst 2, 1) := by decide +kernel
theorem dX8_doStep_93 : decode cX8_doStep 93 = .ok (.invokevirtual 129, 3) := by decide +kernel
theorem dX8_doStep_96 : decode cX8_doStep 96 = .ok (.iconst 1, 1) := by decide +kernel
theorem dX8_doStep_97 : decode cX8_doStep 97 = .ok (.iadd, 1) := by decide +kernel
theorem dX8_doStep_98 : decode cX8_doStep 98 = .ok (.invokevirtual 140, 3) := by decide +kernel
theorem dX8_doStep_101 : decode cX8_doStep 101 = .ok (.bipush 48, 2) := by decide +kernel
theorem dX8_doStep_103 : decode cX8_doStep 103 = .ok (.isub, 1) := by decide +kernel
theorem dX8_doStep_104 : decode cX8_doStep 104 = .ok (.aload_n 0, 1) := by decide +kernel
theorem dX8_doStep_105 : decode cX8_doStep 105 = .ok (.iconst 1, 1) := by decide +kernel
theorem dX8_doStep_106 : decode cX8_doStep 106 = .ok (.invokevirtual 129, 3) := by decide +kernel
theorem dX8_doStep_109 : decode cX8_doStep 109 = .ok (.invokevirtual 173, 3) := by decide +kernel
theorem dX8_doStep_112 : decode cX8_doStep 112 = .ok (.goto 8, 3) := by decide +kernel
theorem dX8_doStep_115 : decode cX8_doStep 115 = .ok (.aload_n 0, 1) := by decide +kernel
theorem dX8_doStep_116 : decode cX8_doStep 116 = .ok (.iload_n 1, 1) := by decide +kernel
theorem dX8_doStep_117 : decode cX8_doStep 117 = .ok (.invokevirtual 176, 3) := by decide +kernel
theorem dX8_doStep_120 : decode cX8_doStep 120 = .ok (.aload_n 0, 1) := by decide +kernel
theorem dX8_doStep_121 : decode cX8_doStep 121 = .ok (.invokevirtual 179, 3) := by decide +kernel
theorem dX8_doStep_124 : decode cX8_doStep 124 = .ok (.iload_n 1, 1) := by decide +kernel
theorem dX8_doStep_125 : decode cX8_doStep 125 = .ok (.bipush 119, 2) := by decide +kernel
theorem dX8_doStep_127 : decode cX8_doStep 127 = .ok (.if_icmp .ne 7, 3) := by decide +kernel
theorem dX8_doStep_130 : decode cX8_doStep 130 = .ok (.iconst 1, 1) := by decide +kernel
theorem dX8_doStep_131 : decode cX8_doStep 131 = .ok (.goto 4, 3) := by decide +kernel
theorem dX8_doStep_134 : decode cX8_doStep 134 = .ok (.iconst 0, 1) := by decide +kernel
theorem dX8_doStep_135 : decode cX8_doStep 135 = .ok (.ireturn, 1) := by decide +kernel
theorem dX8_weaves_0 : decode cX8_weaves 0 = .ok (.iconst 0, 1) := by decide +kernel
theorem dX8_weaves_1 : decode cX8_weaves 1 = .ok (.istore_n 2, 1) := by decide +kernel
theorem dX8_weaves_2 : decode cX8_weaves 2 = .ok (.iconst 0, 1) := by decide +kernel
theorem dX8_weaves_3 : decode cX8_weaves 3 = .ok (.istore_n 3, 1) := by decide +kernel
theorem dX8_weaves_4 : decode cX8_weaves 4 = .ok (.iconst 0, 1) := by decide +kernel
theorem dX8_weaves_5 : decode cX8_weaves 5 = .ok (.istore 4, 2) := by decide +kernel
theorem dX8_weaves_7 : decode cX8_weaves 7 = .ok (.iload_n 2, 1) := by decide +kernel
theorem dX8_weaves_8 : decode cX8_weaves 8 = .ok (.iload_n 1, 1) := by decide +kernel
theorem dX8_weaves_9 : decode cX8_weaves 9 = .ok (.if_icmp .ge 55, 3) := by decide +kernel
theorem dX8_weaves_12 : decode cX8_weaves 12 = .ok (.iload 4, 2) := by decide +kernel
theorem dX8_weaves_14 : decode cX8_weaves 14 = .ok (.ifCond .ne 50, 3) := by decide +kernel
theorem dX8_weaves_17 : decode cX8_weaves 17 = .ok (.aload_n 0, 1) := by decide +kernel
theorem dX8_weaves_18 : decode cX8_weaves 18 = .ok (.iload_n 3, 1) := by decide +kernel
theorem dX8_weaves_19 : decode cX8_weaves 19 = .ok (.invokevirtual 182, 3) := by decide +kernel
theorem dX8_weaves_22 : decode cX8_weaves 22 = .ok (.istore 4, 2) := by decide +kernel
theorem dX8_weaves_24 : decode cX8_weaves 24 = .ok (.iload 4, 2) := by decide +kernel
theorem dX8_weaves_26 : decode cX8_weaves 26 = .ok (.ifCond .ne (-19), 3) := by decide +kernel
theorem dX8_weaves_29 : decode cX8_weaves 29 = .ok (.aload_n 0, 1) := by decide +kernel
theorem dX8_weaves_30 : decode cX8_weaves 30 = .ok (.invokevirtual 185, 3) := by decide +kernel
theorem dX8_weaves_33 : decode cX8_weaves 33 = .ok (.istore 5, 2) := by decide +kernel
theorem dX8_weaves_35 : decode cX8_weaves 35 = .ok (.iload_n 2, 1) := by decide +kernel
theorem dX8_weaves_36 : decode cX8_weaves 36 = .ok (.iload 5, 2) := by decide +kernel
theorem dX8_weaves_38 : decode cX8_weaves 38 = .ok (.ifCond .eq 7, 3) := by decide +kernel
theorem dX8_weaves_41 : decode cX8_weaves 41 = .ok (.iconst 1, 1) := by decide +kernel
theorem dX8_weaves_42 : decode cX8_weaves 42 = .ok (.goto 4, 3) := by decide +kernel
theorem dX8_weaves_45 : decode cX8_weaves 45 = .ok (.iconst 0, 1) := by decide +kernel
theorem dX8_weaves_46 : decode cX8_weaves 46 = .ok (.iadd, 1) := by decide +kernel
theorem dX8_weaves_47 : decode cX8_weaves 47 = .ok (.istore_n 2, 1) := by decide +kernel
theorem dX8_weaves_48 : decode cX8_weaves 48 = .ok (.iload 5, 2) := by decide +kernel
theorem dX8_weaves_50 : decode cX8_weaves 50 = .ok (.ifCond .eq 7, 3) := by decide +kernel
theorem dX8_weaves_53 : decode cX8_weaves 53 = .ok (.iconst 0, 1) := by decide +kernel
theorem dX8_weaves_54 : decode cX8_weaves 54 = .ok (.goto 6, 3) := by decide +kernel
theorem dX8_weaves_57 : decode cX8_weaves 57 = .ok (.iload_n 3, 1) := by decide +kernel
theorem dX8_weaves_58 : decode cX8_weaves 58 = .ok (.iconst 1, 1) := by decide +kernel
theorem dX8_weaves_59 : decode cX8_weaves 59 = .ok (.iadd, 1) := by decide +kernel
theorem dX8_weaves_60 : decode cX8_weaves 60 = .ok (.istore_n 3, 1) := by decide +kernel
theorem dX8_weaves_61 : decode cX8_weaves 61 = .ok (.goto (-54), 3) := by decide +kernel
theorem dX8_weaves_64 : decode cX8_weaves 64 = .ok (.aload_n 0, 1) := by decide +kernel
theorem dX8_weaves_65 : decode cX8_weaves 65 = .ok (.getfield 7, 3) := by decide +kernel
theorem dX8_weaves_68 : decode cX8_weaves 68 = .ok (.bipush 8, 2) := by decide +kernel
theorem dX8_weaves_70 : decode cX8_weaves 70 = .ok (.iload 4, 2) := by decide +kernel
theorem dX8_weaves_72 : decode cX8_weaves 72 = .ok (.iastore, 1) := by decide +kernel
theorem dX8_weaves_73 : decode cX8_weaves 73 = .ok (.iload_n 2, 1) := by decide +kernel
theorem dX8_weaves_74 : decode cX8_weaves 74 = .ok (.ireturn, 1) := by decide +kernel
theorem dX8_begin_0 : decode cX8_begin 0 = .ok (.iload_n 1, 1) := by decide +kernel
theorem dX8_begin_1 : decode cX8_begin 1 = .ok (.invokestatic 97, 3) := by decide +kernel
theorem dX8_begin_4 : decode cX8_begin 4 = .ok (.ifCond .ne 5, 3) := by decide +kernel
theorem dX8_begin_7 : decode cX8_begin 7 = .ok (.iconst (-1), 1) := by decide +kernel
theorem dX8_begin_8 : decode cX8_begin 8 = .ok (.ireturn, 1) := by decide +kernel
theorem dX8_begin_9 : decode cX8_begin 9 = .ok (.aload_n 0, 1) := by decide +kernel
theorem dX8_begin_10 : decode cX8_begin 10 = .ok (.iload_n 1, 1) := by decide +kernel
theorem dX8_begin_11 : decode cX8_begin 11 = .ok (.invokevirtual 100, 3) := by decide +kernel
theorem dX8_begin_14 : decode cX8_begin 14 = .ok (.ifCond .ne 6, 3) := by decide +kernel
theorem dX8_begin_17 : decode cX8_begin 17 = .ok (.bipush (-5), 2) := by decide +kernel
theorem dX8_begin_19 : decode cX8_begin 19 = .ok (.ireturn, 1) := by decide +kernel
theorem dX8_begin_20 : decode cX8_begin 20 = .ok (.aload_n 0, 1) := by decide +kernel
theorem dX8_begin_21 : decode cX8_begin 21 = .ok (.invokevirtual 58, 3) := by decide +kernel
theorem dX8_begin_24 : decode cX8_begin 24 = .ok (.aload_n 0, 1) := by decide +kernel
theorem dX8_begin_25 : decode cX8_begin 25 = .ok (.getfield 7, 3) := by decide +kernel
theorem dX8_begin_28 : decode cX8_begin 28 = .ok (.iconst 3, 1) := by decide +kernel
theorem dX8_begin_29 : decode cX8_begin 29 = .ok (.iaload, 1) := by decide +kernel
theorem dX8_begin_30 : decode cX8_begin 30 = .ok (.istore_n 2, 1) := by decide +kernel
theorem dX8_begin_31 : decode cX8_begin 31 = .ok (.aload_n 0, 1) := by decide +kernel
theorem dX8_begin_32 : decode cX8_begin 32 = .ok (.getfield 7, 3) := by decide +kernel
theorem dX8_begin_35 : decode cX8_begin 35 = .ok (.iconst 3, 1) := by decide +kernel
theorem dX8_begin_36 : decode cX8_begin 36 = .ok (.iconst 0, 1) := by decide +kernel
theorem dX8_begin_37 : decode cX8_begin 37 = .ok (.iastore, 1) := by decide +kernel
theorem dX8_begin_38 : decode cX8_begin 38 = .ok (.aload_n 0, 1) := by decide +kernel
theorem dX8_begin_39 : decode cX8_begin 39 = .ok (.iload_n 1, 1) := by decide +kernel
theorem dX8_begin_40 : decode cX8_begin 40 = .ok (.iconst 0, 1) := by decide +kernel
theorem dX8_begin_41 : decode cX8_begin 41 = .ok (.invokevirtual 173, 3) := by decide +kernel
theorem dX8_begin_44 : decode cX8_begin 44 = .ok (.iload_n 2, 1) := by decide +kernel
theorem dX8_begin_45 : decode cX8_begin 45 = .ok (.ireturn, 1) := by decide +kernel
theorem dX8_weave_0 : decode cX8_weave 0 = .ok (.iload_n 1, 1) := by decide +kernel
theorem dX8_weave_1 : decode cX8_weave 1 = .ok (.iconst 1, 1) := by decide +kernel
theorem dX8_weave_2 : decode cX8_weave 2 = .ok (.bipush 99, 2) := by decide +kernel
theorem dX8_weave_4 : decode cX8_weave 4 = .ok (.invokestatic 40, 3) := by decide +kernel
theorem dX8_weave_7 : decode cX8_weave 7 = .ok (.ifCond .ne 6, 3) := by decide +kernel
theorem dX8_weave_10 : decode cX8_weave 10 = .ok (.bipush (-2), 2) := by decide +kernel
theorem dX8_weave_12 : decode cX8_weave 12 = .ok (.ireturn, 1) := by decide +kernel
theorem dX8_weave_13 : decode cX8_weave 13 = .ok (.aload_n 0, 1) := by decide +kernel
theorem dX8_weave_14 : decode cX8_weave 14 = .ok (.invokevirtual 58, 3) := by decide +kernel
theorem dX8_weave_17 : decode cX8_weave 17 = .ok (.aload_n 0, 1) := by decide +kernel
theorem dX8_weave_18 : decode cX8_weave 18 = .ok (.iload_n 1, 1) := by decide +kernel
theorem dX8_weave_19 : decode cX8_weave 19 = .ok (.invokevirtual 188, 3) := by decide +kernel
theorem dX8_weave_22 : decode cX8_weave 22 = .ok (.ireturn, 1) := by decide +kernel
theorem dX8_skip_0 : decode cX8_skip 0 = .ok (.aload_n 0, 1) := by decide +kernel
theorem dX8_skip_1 : decode cX8_skip 1 = .ok (.getfield 7, 3) := by decide +kernel
theorem dX8_skip_4 : decode cX8_skip 4 = .ok (.iconst 3, 1) := by decide +kernel
theorem dX8_skip_5 : decode cX8_skip 5 = .ok (.iaload, 1) := by decide +kernel
theorem dX8_skip_6 : decode cX8_skip 6 = .ok (.ifCond .ne 6, 3) := by decide +kernel
theorem dX8_skip_9 : decode cX8_skip 9 = .ok (.bipush (-5), 2) := by decide +kernel
theorem dX8_skip_11 : decode cX8_skip 11 = .ok (.ireturn, 1) := by decide +kernel
theorem dX8_skip_12 : decode cX8_skip 12 = .ok (.aload_n 0, 1) := by decide +kernel
theorem dX8_skip_13 : decode cX8_skip 13 = .ok (.invokevirtual 58, 3) := by decide +kernel
theorem dX8_skip_16 : decode cX8_skip 16 = .ok (.aload_n 0, 1) := by decide +kernel
theorem dX8_skip_17 : decode cX8_skip 17 = .ok (.iconst 2, 1) := by decide +kernel
theorem dX8_skip_18 : decode cX8_skip 18 = .ok (.invokevirtual 129, 3) := by decide +kernel
theorem dX8_skip_21 : decode cX8_skip 21 = .ok (.istore_n 1, 1) := by decide +kernel
theorem dX8_skip_22 : decode cX8_skip 22 = .ok (.aload_n 0, 1) := by decide +kernel
theorem dX8_skip_23 : decode cX8_skip 23 = .ok (.iload_n 1, 1) := by decide +kernel
theorem dX8_skip_24 : decode cX8_skip 24 = .ok (.invokevirtual 140, 3) := by decide +kernel
theorem dX8_skip_27 : decode cX8_skip 27 = .ok (.lookupswitch 66 #[(99, 48), (107, 48), (119, 41), (120, 56)], 41) := by decide +kernel
theorem dX8_skip_68 : decode cX8_skip 68 = .ok (.aload_n 0, 1) := by decide +kernel
theorem dX8_skip_69 : decode cX8_skip 69 = .ok (.invokevirtual 152, 3) := by decide +kernel
theorem dX8_skip_72 : decode cX8_skip 72 = .ok (.goto 28, 3) := by decide +kernel
theorem dX8_skip_75 : decode cX8_skip 75 = .ok (.aload_n 0, 1) := by decide +kernel
theorem dX8_skip_76 : decode cX8_skip 76 = .ok (.iconst 2, 1) := by decide +kernel
theorem dX8_skip_77 : decode cX8_skip 77 = .ok (.invokevirtual 136, 3) := by decide +kernel
theorem dX8_skip_80 : decode cX8_skip 80 = .ok (.goto 20, 3) := by decide +kernel
theorem dX8_skip_83 : decode cX8_skip 83 = .ok (.aload_n 0, 1) := by decide +kernel
theorem dX8_skip_84 : decode cX8_skip 84 = .ok (.iload_n 1, 1) := by decide +kernel
theorem dX8_skip_85 : decode cX8_skip 85 = .ok (.iconst 2, 1) := by decide +kernel
theorem dX8_skip_86 : decode cX8_skip 86 = .ok (.iadd, 1) := by decide +kernel
theorem dX8_skip_87 : decode cX8_skip 87 = .ok (.invokevirtual 167, 3) := by decide +kernel
theorem dX8_skip_90 : decode cX8_skip 90 = .ok (.goto 10, 3) := by decide +kernel
theorem dX8_skip_93 : decode cX8_skip 93 = .ok (.aload_n 0, 1) := by decide +kernel
theorem dX8_skip_94 : decode cX8_skip 94 = .ok (.iload_n 1, 1) := by decide +kernel
theorem dX8_skip_95 : decode cX8_skip 95 = .ok (.iconst 1, 1) := by decide +kernel
theorem dX8_skip_96 : decode cX8_skip 96 = .ok (.iadd, 1) := by decide +kernel
theorem dX8_skip_97 : decode cX8_skip 97 = .ok (.invokevirtual 167, 3) := by decide +kernel
theorem dX8_skip_100 : decode cX8_skip 100 = .ok (.aload_n 0, 1) := by decide +kernel
theorem dX8_skip_101 : decode cX8_skip 101 = .ok (.invokevirtual 179, 3) := by decide +kernel
theorem dX8_skip_104 : decode cX8_skip 104 = .ok (.aload_n 0, 1) := by decide +kernel
theorem dX8_skip_105 : decode cX8_skip 105 = .ok (.getfield 7, 3) := by decide +kernel
theorem dX8_skip_108 : decode cX8_skip 108 = .ok (.iconst 3, 1) := by decide +kernel
theorem dX8_skip_109 : decode cX8_skip 109 = .ok (.iaload, 1) := by decide +kernel
theorem dX8_skip_110 : decode cX8_skip 110 = .ok (.ireturn, 1) := by decide +kernel
theorem dX8_tie_0 : decode cX8_tie 0 = .ok (.iload_n 1, 1) := by decide +kernel
theorem dX8_tie_1 : decode cX8_tie 1 = .ok (.invokestatic 191, 3) := by decide +kernel
theorem dX8_tie_4 : decode cX8_tie 4 = .ok (.ifCond .ne 5, 3) := by decide +kernel
theorem dX8_tie_7 : decode cX8_tie 7 = .ok (.iconst (-1), 1) := by decide +kernel
theorem dX8_tie_8 : decode cX8_tie 8 = .ok (.ireturn, 1) := by decide +kernel
theorem dX8_tie_9 : decode cX8_tie 9 = .ok (.iload_n 2, 1) := by decide +kernel
theorem dX8_tie_10 : decode cX8_tie 10 = .ok (.iconst 1, 1) := by decide +kernel
theorem dX8_tie_11 : decode cX8_tie 11 = .ok (.bipush 99, 2) := by decide +kernel
theorem dX8_tie_13 : decode cX8_tie 13 = .ok (.invokestatic 40, 3) := by decide +kernel
theorem dX8_tie_16 : decode cX8_tie 16 = .ok (.ifCond .ne 6, 3) := by decide +kernel
theorem dX8_tie_19 : decode cX8_tie 19 = .ok (.bipush (-2), 2) := by decide +kernel
theorem dX8_tie_21 : decode cX8_tie 21 = .ok (.ireturn, 1) := by decide +kernel
theorem dX8_tie_22 : decode cX8_tie 22 = .ok (.aload_n 0, 1) := by decide +kernel
theorem dX8_tie_23 : decode cX8_tie 23 = .ok (.invokevirtual 58, 3) := by decide +kernel
theorem dX8_tie_26 : decode cX8_tie 26 = .ok (.aload_n 0, 1) := by decide +kernel
theorem dX8_tie_27 : decode cX8_tie 27 = .ok (.getfield 7, 3) := by decide +kernel
theorem dX8_tie_30 : decode cX8_tie 30 = .ok (.bipush 19, 2) := by decide +kernel
theorem dX8_tie_32 : decode cX8_tie 32 = .ok (.iload_n 1, 1) := by decide +kernel
theorem dX8_tie_33 : decode cX8_tie 33 = .ok (.iadd, 1) := by decide +kernel
theorem dX8_tie_34 : decode cX8_tie 34 = .ok (.iaload, 1) := by decide +kernel
theorem dX8_tie_35 : decode cX8_tie 35 = .ok (.iload_n 2, 1) := by decide +kernel
theorem dX8_tie_36 : decode cX8_tie 36 = .ok (.iadd, 1) := by decide +kernel
theorem dX8_tie_37 : decode cX8_tie 37 = .ok (.istore_n 3, 1) := by decide +kernel
theorem dX8_tie_38 : decode cX8_tie 38 = .ok (.aload_n 0, 1) := by decide +kernel
theorem dX8_tie_39 : decode cX8_tie 39 = .ok (.getfield 7, 3) := by decide +kernel
theorem dX8_tie_42 : decode cX8_tie 42 = .ok (.bipush 19, 2) := by decide +kernel
theorem dX8_tie_44 : decode cX8_tie 44 = .ok (.iload_n 1, 1) := by decide +kernel
theorem dX8_tie_45 : decode cX8_tie 45 = .ok (.iadd, 1) := by decide +kernel
theorem dX8_tie_46 : decode cX8_tie 46 = .ok (.iload_n 3, 1) := by decide +kernel
theorem dX8_tie_47 : decode cX8_tie 47 = .ok (.sipush 999, 3) := by decide +kernel
theorem dX8_tie_50 : decode cX8_tie 50 = .ok (.if_icmp .le 9, 3) := by decide +kernel
theorem dX8_tie_53 : decode cX8_tie 53 = .ok (.sipush 999, 3) := by decide +kernel
theorem dX8_tie_56 : decode cX8_tie 56 = .ok (.goto 4, 3) := by decide +kernel
theorem dX8_tie_59 : decode cX8_tie 59 = .ok (.iload_n 3, 1) := by decide +kernel
theorem dX8_tie_60 : decode cX8_tie 60 = .ok (.iastore, 1) := by decide +kernel
theorem dX8_tie_61 : decode cX8_tie 61 = .ok (.aload_n 0, 1) := by decide +kernel
theorem dX8_tie_62 : decode cX8_tie 62 = .ok (.getfield 7, 3) := by decide +kernel
theorem dX8_tie_65 : decode cX8_tie 65 = .ok (.bipush 25, 2) := by decide +kernel
theorem dX8_tie_67 : decode cX8_tie 67 = .ok (.iload_n 1, 1) := by decide +kernel
theorem dX8_tie_68 : decode cX8_tie 68 = .ok (.iadd, 1) := by decide +kernel
theorem dX8_tie_69 : decode cX8_tie 69 = .ok (.iconst 0, 1) := by decide +kernel
theorem dX8_tie_70 : decode cX8_tie 70 = .ok (.iastore, 1) := by decide +kernel
theorem dX8_tie_71 : decode cX8_tie 71 = .ok (.aload_n 0, 1) := by decide +kernel
theorem dX8_tie_72 : decode cX8_tie 72 = .ok (.getfield 7, 3) := by decide +kernel
theorem dX8_tie_75 : decode cX8_tie 75 = .ok (.bipush 31, 2) := by decide +kernel
theorem dX8_tie_77 : decode cX8_tie 77 = .ok (.iload_n 1, 1) := by decide +kernel
theorem dX8_tie_78 : decode cX8_tie 78 = .ok (.iadd, 1) := by decide +kernel
theorem dX8_tie_79 : decode cX8_tie 79 = .ok (.dup2, 1) := by decide +kernel
theorem dX8_tie_80 : decode cX8_tie 80 = .ok (.iaload, 1) := by decide +kernel
theorem dX8_tie_81 : decode cX8_tie 81 = .ok (.iconst 1, 1) := by decide +kernel
theorem dX8_tie_82 : decode cX8_tie 82 = .ok (.iadd, 1) := by decide +kernel
theorem dX8_tie_83 : decode cX8_tie 83 = .ok (.iastore, 1) := by decide +kernel
theorem dX8_tie_84 : decode cX8_tie 84 = .ok (.aload_n 0, 1) := by decide +kernel
theorem dX8_tie_85 : decode cX8_tie 85 = .ok (.getfield 7, 3) := by decide +kernel
theorem dX8_tie_88 : decode cX8_tie 88 = .ok (.bipush 19, 2) := by decide +kernel
theorem dX8_tie_90 : decode cX8_tie 90 = .ok (.iload_n 1, 1) := by decide +kernel
theorem dX8_tie_91 : decode cX8_tie 91 = .ok (.iadd, 1) := by decide +kernel
theorem dX8_tie_92 : decode cX8_tie 92 = .ok (.iaload, 1) := by decide +kernel
theorem dX8_tie_93 : decode cX8_tie 93 = .ok (.ireturn, 1) := by decide +kernel
theorem dX8_cut_0 : decode cX8_cut 0 = .ok (.aload_n 0, 1) := by decide +kernel
theorem dX8_cut_1 : decode cX8_cut 1 = .ok (.invokevirtual 58, 3) := by decide +kernel
theorem dX8_cut_4 : decode cX8_cut 4 = .ok (.aload_n 0, 1) := by decide +kernel
theorem dX8_cut_5 : decode cX8_cut 5 = .ok (.getfield 7, 3) := by decide +kernel
theorem dX8_cut_8 : decode cX8_cut 8 = .ok (.iconst 4, 1) := by decide +kernel
theorem dX8_cut_9 : decode cX8_cut 9 = .ok (.iaload, 1) := by decide +kernel
theorem dX8_cut_10 : decode cX8_cut 10 = .ok (.istore_n 1, 1) := by decide +kernel
theorem dX8_cut_11 : decode cX8_cut 11 = .ok (.aload_n 0, 1) := by decide +kernel
theorem dX8_cut_12 : decode cX8_cut 12 = .ok (.getfield 7, 3) := by decide +kernel
theorem dX8_cut_15 : decode cX8_cut 15 = .ok (.iconst 4, 1) := by decide +kernel
theorem dX8_cut_16 : decode cX8_cut 16 = .ok (.iconst 0, 1) := by decide +kernel
theorem dX8_cut_17 : decode cX8_cut 17 = .ok (.iastore, 1) := by decide +kernel
theorem dX8_cut_18 : decode cX8_cut 18 = .ok (.iload_n 1, 1) := by decide +kernel
theorem dX8_cut_19 : decode cX8_cut 19 = .ok (.ireturn, 1) := by decide +kernel
theorem dX8_timesOnStack_0 : decode cX8_timesOnStack 0 = .ok (.iconst 0, 1) := by decide +kernel
theorem dX8_timesOnStack_1 : decode cX8_timesOnStack 1 = .ok (.istore_n 2, 1) := by decide +kernel
theorem dX8_timesOnStack_2 : decode cX8_timesOnStack 2 = .ok (.iconst 0, 1) := by decide +kernel
theorem dX8_timesOnStack_3 : decode cX8_timesOnStack 3 = .ok (.istore_n 3, 1) := by decide +kernel
theorem dX8_timesOnStack_4 : decode cX8_timesOnStack 4 = .ok (.iload_n 3, 1) := by decide +kernel
theorem dX8_timesOnStack_5 : decode cX8_timesOnStack 5 = .ok (.aload_n 0, 1) := by decide +kernel
theorem dX8_timesOnStack_6 : decode cX8_timesOnStack 6 = .ok (.getfield 7, 3) := by decide +kernel
theorem dX8_timesOnStack_9 : decode cX8_timesOnStack 9 = .ok (.iconst 3, 1) := by decide +kernel
theorem dX8_timesOnStack_10 : decode cX8_timesOnStack 10 = .ok (.iaload, 1) := by decide +kernel
theorem dX8_timesOnStack_11 : decode cX8_timesOnStack 11 = .ok (.if_icmp .ge 33, 3) := by decide +kernel
theorem dX8_timesOnStack_14 : decode cX8_timesOnStack 14 = .ok (.iload_n 2, 1) := by decide +kernel
theorem dX8_timesOnStack_15 : decode cX8_timesOnStack 15 = .ok (.aload_n 0, 1) := by decide +kernel
theorem dX8_timesOnStack_16 : decode cX8_timesOnStack 16 = .ok (.getfield 7, 3) := by decide +kernel
theorem dX8_timesOnStack_19 : decode cX8_timesOnStack 19 = .ok (.aload_n 0, 1) := by decide +kernel
theorem dX8_timesOnStack_20 : decode cX8_timesOnStack 20 = .ok (.iload_n 3, 1) := by decide +kernel
theorem dX8_timesOnStack_21 : decode cX8_timesOnStack 21 = .ok (.invokevirtual 126, 3) := by decide +kernel
theorem dX8_timesOnStack_24 : decode cX8_timesOnStack 24 = .ok (.iconst 0, 1) := by decide +kernel
theorem dX8_timesOnStack_25 : decode cX8_timesOnStack 25 = .ok (.iadd, 1) := by decide +kernel
theorem dX8_timesOnStack_26 : decode cX8_timesOnStack 26 = .ok (.iaload, 1) := by decide +kernel
theorem dX8_timesOnStack_27 : decode cX8_timesOnStack 27 = .ok (.iload_n 1, 1) := by decide +kernel
theorem dX8_timesOnStack_28 : decode cX8_timesOnStack 28 = .ok (.if_icmp .ne 7, 3) := by decide +kernel
theorem dX8_timesOnStack_31 : decode cX8_timesOnStack 31 = .ok (.iconst 1, 1) := by decide +kernel
theorem dX8_timesOnStack_32 : decode cX8_timesOnStack 32 = .ok (.goto 4, 3) := by decide +kernel
theorem dX8_timesOnStack_35 : decode cX8_timesOnStack 35 = .ok (.iconst 0, 1) := by decide +kernel
theorem dX8_timesOnStack_36 : decode cX8_timesOnStack 36 = .ok (.iadd, 1) := by decide +kernel
theorem dX8_timesOnStack_37 : decode cX8_timesOnStack 37 = .ok (.istore_n 2, 1) := by decide +kernel
theorem dX8_timesOnStack_38 : decode cX8_timesOnStack 38 = .ok (.iinc 3 1, 3) := by decide +kernel
theorem dX8_timesOnStack_41 : decode cX8_timesOnStack 41 = .ok (.goto (-37), 3) := by decide +kernel
theorem dX8_timesOnStack_44 : decode cX8_timesOnStack 44 = .ok (.iload_n 2, 1) := by decide +kernel
theorem dX8_timesOnStack_45 : decode cX8_timesOnStack 45 = .ok (.ireturn, 1) := by decide +kernel
theorem dX8_of_0 : decode cX8_of 0 = .ok (.iload_n 1, 1) := by decide +kernel
theorem dX8_of_1 : decode cX8_of 1 = .ok (.invokestatic 97, 3) := by decide +kernel
theorem dX8_of_4 : decode cX8_of 4 = .ok (.ifCond .ne 5, 3) := by decide +kernel
theorem dX8_of_7 : decode cX8_of 7 = .ok (.iconst (-1), 1) := by decide +kernel
theorem dX8_of_8 : decode cX8_of 8 = .ok (.ireturn, 1) := by decide +kernel
theorem dX8_of_9 : decode cX8_of 9 = .ok (.iload_n 2, 1) := by decide +kernel
theorem dX8_of_10 : decode cX8_of 10 = .ok (.tableswitch 92 0 6 #[42, 52, 58, 64, 70, 80, 86], 42) := by decide +kernel
theorem dX8_of_52 : decode cX8_of 52 = .ok (.aload_n 0, 1) := by decide +kernel
theorem dX8_of_53 : decode cX8_of 53 = .ok (.getfield 7, 3) := by decide +kernel
theorem dX8_of_56 : decode cX8_of 56 = .ok (.bipush 43, 2) := by decide +kernel
theorem dX8_of_58 : decode cX8_of 58 = .ok (.iload_n 1, 1) := by decide +kernel
theorem dX8_of_59 : decode cX8_of 59 = .ok (.iadd, 1) := by decide +kernel
theorem dX8_of_60 : decode cX8_of 60 = .ok (.iaload, 1) := by decide +kernel
theorem dX8_of_61 : decode cX8_of 61 = .ok (.ireturn, 1) := by decide +kernel
theorem dX8_of_62 : decode cX8_of 62 = .ok (.aload_n 0, 1) := by decide +kernel
theorem dX8_of_63 : decode cX8_of 63 = .ok (.iload_n 1, 1) := by decide +kernel
theorem dX8_of_64 : decode cX8_of 64 = .ok (.invokevirtual 117, 3) := by decide +kernel
theorem dX8_of_67 : decode cX8_of 67 = .ok (.ireturn, 1) := by decide +kernel
theorem dX8_of_68 : decode cX8_of 68 = .ok (.aload_n 0, 1) := by decide +kernel
theorem dX8_of_69 : decode cX8_of 69 = .ok (.iload_n 1, 1) := by decide +kernel
theorem dX8_of_70 : decode cX8_of 70 = .ok (.invokevirtual 110, 3) := by decide +kernel
theorem dX8_of_73 : decode cX8_of 73 = .ok (.ireturn, 1) := by decide +kernel
theorem dX8_of_74 : decode cX8_of 74 = .ok (.aload_n 0, 1) := by decide +kernel
theorem dX8_of_75 : decode cX8_of 75 = .ok (.iload_n 1, 1) := by decide +kernel
theorem dX8_of_76 : decode cX8_of 76 = .ok (.invokevirtual 120, 3) := by decide +kernel
theorem dX8_of_79 : decode cX8_of 79 = .ok (.ireturn, 1) := by decide +kernel
theorem dX8_of_80 : decode cX8_of 80 = .ok (.aload_n 0, 1) := by decide +kernel
theorem dX8_of_81 : decode cX8_of 81 = .ok (.getfield 7, 3) := by decide +kernel
theorem dX8_of_84 : decode cX8_of 84 = .ok (.bipush 9, 2) := by decide +kernel
theorem dX8_of_86 : decode cX8_of 86 = .ok (.iload_n 1, 1) := by decide +kernel
theorem dX8_of_87 : decode cX8_of 87 = .ok (.iadd, 1) := by decide +kernel
theorem dX8_of_88 : decode cX8_of 88 = .ok (.iaload, 1) := by decide +kernel
theorem dX8_of_89 : decode cX8_of 89 = .ok (.ireturn, 1) := by decide +kernel
theorem dX8_of_90 : decode cX8_of 90 = .ok (.aload_n 0, 1) := by decide +kernel
theorem dX8_of_91 : decode cX8_of 91 = .ok (.iload_n 1, 1) := by decide +kernel
theorem dX8_of_92 : decode cX8_of 92 = .ok (.invokevirtual 194, 3) := by decide +kernel
theorem dX8_of_95 : decode cX8_of 95 = .ok (.ireturn, 1) := by decide +kernel
theorem dX8_of_96 : decode cX8_of 96 = .ok (.aload_n 0, 1) := by decide +kernel
theorem dX8_of_97 : decode cX8_of 97 = .ok (.iload_n 1, 1) := by decide +kernel
theorem dX8_of_98 : decode cX8_of 98 = .ok (.invokevirtual 197, 3) := by decide +kernel
theorem dX8_of_101 : decode cX8_of 101 = .ok (.ireturn, 1) := by decide +kernel
theorem dX8_of_102 : decode cX8_of 102 = .ok (.bipush (-2), 2) := by decide +kernel
theorem dX8_of_104 : decode cX8_of 104 = .ok (.ireturn, 1) := by decide +kernel
theorem dX8_stack_0 : decode cX8_stack 0 = .ok (.iload_n 1, 1) := by decide +kernel
theorem dX8_stack_1 : decode cX8_stack 1 = .ok (.iconst 0, 1) := by decide +kernel
theorem dX8_stack_2 : decode cX8_stack 2 = .ok (.aload_n 0, 1) := by decide +kernel
theorem dX8_stack_3 : decode cX8_stack 3 = .ok (.getfield 7, 3) := by decide +kernel
theorem dX8_stack_6 : decode cX8_stack 6 = .ok (.iconst 3, 1) := by decide +kernel
theorem dX8_stack_7 : decode cX8_stack 7 = .ok (.iaload, 1) := by decide +kernel
theorem dX8_stack_8 : decode cX8_stack 8 = .ok (.iconst 1, 1) := by decide +kernel
theorem dX8_stack_9 : decode cX8_stack 9 = .ok (.isub, 1) := by decide +kernel
theorem dX8_stack_10 : decode cX8_stack 10 = .ok (.invokestatic 40, 3) := by decide +kernel
theorem dX8_stack_13 : decode cX8_stack 13 = .ok (.ifCond .ne 5, 3) := by decide +kernel
theorem dX8_stack_16 : decode cX8_stack 16 = .ok (.iconst (-1), 1) := by decide +kernel
theorem dX8_stack_17 : decode cX8_stack 17 = .ok (.ireturn, 1) := by decide +kernel
theorem dX8_stack_18 : decode cX8_stack 18 = .ok (.iload_n 2, 1) := by decide +kernel
theorem dX8_stack_19 : decode cX8_stack 19 = .ok (.tableswitch 81 0 3 #[29, 42, 55, 68], 29) := by decide +kernel
theorem dX8_stack_48 : decode cX8_stack 48 = .ok (.aload_n 0, 1) := by decide +kernel
theorem dX8_stack_49 : decode cX8_stack 49 = .ok (.getfield 7, 3) := by decide +kernel
theorem dX8_stack_52 : decode cX8_stack 52 = .ok (.aload_n 0, 1) := by decide +kernel
theorem dX8_stack_53 : decode cX8_stack 53 = .ok (.iload_n 1, 1) := by decide +kernel
theorem dX8_stack_54 : decode cX8_stack 54 = .ok (.invokevirtual 126, 3) := by decide +kernel
theorem dX8_stack_57 : decode cX8_stack 57 = .ok (.iconst 0, 1) := by decide +kernel
theorem dX8_stack_58 : decode cX8_stack 58 = .ok (.iadd, 1) := by decide +kernel
theorem dX8_stack_59 : decode cX8_stack 59 = .ok (.iaload, 1) := by decide +kernel
theorem dX8_stack_60 : decode cX8_stack 60 = .ok (.ireturn, 1) := by decide +kernel
theorem dX8_stack_61 : decode cX8_stack 61 = .ok (.aload_n 0, 1) := by decide +kernel
theorem dX8_stack_62 : decode cX8_stack 62 = .ok (.getfield 7, 3) := by decide +kernel
theorem dX8_stack_65 : decode cX8_stack 65 = .ok (.aload_n 0, 1) := by decide +kernel
theorem dX8_stack_66 : decode cX8_stack 66 = .ok (.iload_n 1, 1) := by decide +kernel
theorem dX8_stack_67 : decode cX8_stack 67 = .ok (.invokevirtual 126, 3) := by decide +kernel
theorem dX8_stack_70 : decode cX8_stack 70 = .ok (.iconst 1, 1) := by decide +kernel
theorem dX8_stack_71 : decode cX8_stack 71 = .ok (.iadd, 1) := by decide +kernel
theorem dX8_stack_72 : decode cX8_stack 72 = .ok (.iaload, 1) := by decide +kernel
theorem dX8_stack_73 : decode cX8_stack 73 = .ok (.ireturn, 1) := by decide +kernel
theorem dX8_stack_74 : decode cX8_stack 74 = .ok (.aload_n 0, 1) := by decide +kernel
theorem dX8_stack_75 : decode cX8_stack 75 = .ok (.getfield 7, 3) := by decide +kernel
theorem dX8_stack_78 : decode cX8_stack 78 = .ok (.aload_n 0, 1) := by decide +kernel
theorem dX8_stack_79 : decode cX8_stack 79 = .ok (.iload_n 1, 1) := by decide +kernel
theorem dX8_stack_80 : decode cX8_stack 80 = .ok (.invokevirtual 126, 3) := by decide +kernel
theorem dX8_stack_83 : decode cX8_stack 83 = .ok (.iconst 2, 1) := by decide +kernel
theorem dX8_stack_84 : decode cX8_stack 84 = .ok (.iadd, 1) := by decide +kernel
theorem dX8_stack_85 : decode cX8_stack 85 = .ok (.iaload, 1) := by decide +kernel
theorem dX8_stack_86 : decode cX8_stack 86 = .ok (.ireturn, 1) := by decide +kernel
theorem dX8_stack_87 : decode cX8_stack 87 = .ok (.aload_n 0, 1) := by decide +kernel
theorem dX8_stack_88 : decode cX8_stack 88 = .ok (.getfield 7, 3) := by decide +kernel
theorem dX8_stack_91 : decode cX8_stack 91 = .ok (.aload_n 0, 1) := by decide +kernel
theorem dX8_stack_92 : decode cX8_stack 92 = .ok (.iload_n 1, 1) := by decide +kernel
theorem dX8_stack_93 : decode cX8_stack 93 = .ok (.invokevirtual 126, 3) := by decide +kernel
theorem dX8_stack_96 : decode cX8_stack 96 = .ok (.iconst 4, 1) := by decide +kernel
theorem dX8_stack_97 : decode cX8_stack 97 = .ok (.iadd, 1) := by decide +kernel
theorem dX8_stack_98 : decode cX8_stack 98 = .ok (.iaload, 1) := by decide +kernel
theorem dX8_stack_99 : decode cX8_stack 99 = .ok (.ireturn, 1) := by decide +kernel
theorem dX8_stack_100 : decode cX8_stack 100 = .ok (.bipush (-2), 2) := by decide +kernel
theorem dX8_stack_102 : decode cX8_stack 102 = .ok (.ireturn, 1) := by decide +kernel
theorem dX8_inCloth_0 : decode cX8_inCloth 0 = .ok (.iconst 0, 1) := by decide +kernel
theorem dX8_inCloth_1 : decode cX8_inCloth 1 = .ok (.istore_n 2, 1) := by decide +kernel
theorem dX8_inCloth_2 : decode cX8_inCloth 2 = .ok (.iconst 0, 1) := by decide +kernel
theorem dX8_inCloth_3 : decode cX8_inCloth 3 = .ok (.istore_n 3, 1) := by decide +kernel
theorem dX8_inCloth_4 : decode cX8_inCloth 4 = .ok (.iload_n 3, 1) := by decide +kernel
theorem dX8_inCloth_5 : decode cX8_inCloth 5 = .ok (.aload_n 0, 1) := by decide +kernel
theorem dX8_inCloth_6 : decode cX8_inCloth 6 = .ok (.getfield 7, 3) := by decide +kernel
theorem dX8_inCloth_9 : decode cX8_inCloth 9 = .ok (.iconst 4, 1) := by decide +kernel
theorem dX8_inCloth_10 : decode cX8_inCloth 10 = .ok (.iaload, 1) := by decide +kernel
theorem dX8_inCloth_11 : decode cX8_inCloth 11 = .ok (.if_icmp .ge 31, 3) := by decide +kernel
theorem dX8_inCloth_14 : decode cX8_inCloth 14 = .ok (.iload_n 2, 1) := by decide +kernel
theorem dX8_inCloth_15 : decode cX8_inCloth 15 = .ok (.aload_n 0, 1) := by decide +kernel
theorem dX8_inCloth_16 : decode cX8_inCloth 16 = .ok (.getfield 7, 3) := by decide +kernel
theorem dX8_inCloth_19 : decode cX8_inCloth 19 = .ok (.sipush 853, 3) := by decide +kernel
theorem dX8_inCloth_22 : decode cX8_inCloth 22 = .ok (.iload_n 3, 1) := by decide +kernel
theorem dX8_inCloth_23 : decode cX8_inCloth 23 = .ok (.iadd, 1) := by decide +kernel
theorem dX8_inCloth_24 : decode cX8_inCloth 24 = .ok (.iaload, 1) := by decide +kernel
theorem dX8_inCloth_25 : decode cX8_inCloth 25 = .ok (.iload_n 1, 1) := by decide +kernel
theorem dX8_inCloth_26 : decode cX8_inCloth 26 = .ok (.if_icmp .ne 7, 3) := by decide +kernel
theorem dX8_inCloth_29 : decode cX8_inCloth 29 = .ok (.iconst 1, 1) := by decide +kernel
theorem dX8_inCloth_30 : decode cX8_inCloth 30 = .ok (.goto 4, 3) := by decide +kernel
theorem dX8_inCloth_33 : decode cX8_inCloth 33 = .ok (.iconst 0, 1) := by decide +kernel
theorem dX8_inCloth_34 : decode cX8_inCloth 34 = .ok (.iadd, 1) := by decide +kernel
theorem dX8_inCloth_35 : decode cX8_inCloth 35 = .ok (.istore_n 2, 1) := by decide +kernel
theorem dX8_inCloth_36 : decode cX8_inCloth 36 = .ok (.iinc 3 1, 3) := by decide +kernel
theorem dX8_inCloth_39 : decode cX8_inCloth 39 = .ok (.goto (-35), 3) := by decide +kernel
theorem dX8_inCloth_42 : decode cX8_inCloth 42 = .ok (.iload_n 2, 1) := by decide +kernel
theorem dX8_inCloth_43 : decode cX8_inCloth 43 = .ok (.ireturn, 1) := by decide +kernel
theorem dX8_longestRow_0 : decode cX8_longestRow 0 = .ok (.iconst 0, 1) := by decide +kernel
theorem dX8_longestRow_1 : decode cX8_longestRow 1 = .ok (.istore_n 2, 1) := by decide +kernel
theorem dX8_longestRow_2 : decode cX8_longestRow 2 = .ok (.iconst 0, 1) := by decide +kernel
theorem dX8_longestRow_3 : decode cX8_longestRow 3 = .ok (.istore_n 3, 1) := by decide +kernel
theorem dX8_longestRow_4 : decode cX8_longestRow 4 = .ok (.iconst 0, 1) := by decide +kernel
theorem dX8_longestRow_5 : decode cX8_longestRow 5 = .ok (.istore 4, 2) := by decide +kernel
theorem dX8_longestRow_7 : decode cX8_longestRow 7 = .ok (.iload 4, 2) := by decide +kernel
theorem dX8_longestRow_9 : decode cX8_longestRow 9 = .ok (.aload_n 0, 1) := by decide +kernel
theorem dX8_longestRow_10 : decode cX8_longestRow 10 = .ok (.getfield 7, 3) := by decide +kernel
theorem dX8_longestRow_13 : decode cX8_longestRow 13 = .ok (.iconst 4, 1) := by decide +kernel
theorem dX8_longestRow_14 : decode cX8_longestRow 14 = .ok (.iaload, 1) := by decide +kernel
theorem dX8_longestRow_15 : decode cX8_longestRow 15 = .ok (.if_icmp .ge 43, 3) := by decide +kernel
theorem dX8_longestRow_18 : decode cX8_longestRow 18 = .ok (.aload_n 0, 1) := by decide +kernel
theorem dX8_longestRow_19 : decode cX8_longestRow 19 = .ok (.getfield 7, 3) := by decide +kernel
theorem dX8_longestRow_22 : decode cX8_longestRow 22 = .ok (.sipush 853, 3) := by decide +kernel
theorem dX8_longestRow_25 : decode cX8_longestRow 25 = .ok (.iload 4, 2) := by decide +kernel
theorem dX8_longestRow_27 : decode cX8_longestRow 27 = .ok (.iadd, 1) := by decide +kernel
theorem dX8_longestRow_28 : decode cX8_longestRow 28 = .ok (.iaload, 1) := by decide +kernel
theorem dX8_longestRow_29 : decode cX8_longestRow 29 = .ok (.iload_n 1, 1) := by decide +kernel
theorem dX8_longestRow_30 : decode cX8_longestRow 30 = .ok (.if_icmp .ne 9, 3) := by decide +kernel
theorem dX8_longestRow_33 : decode cX8_longestRow 33 = .ok (.iload_n 3, 1) := by decide +kernel
theorem dX8_longestRow_34 : decode cX8_longestRow 34 = .ok (.iconst 1, 1) := by decide +kernel
theorem dX8_longestRow_35 : decode cX8_longestRow 35 = .ok (.iadd, 1) := by decide +kernel
theorem dX8_longestRow_36 : decode cX8_longestRow 36 = .ok (.goto 4, 3) := by decide +kernel
theorem dX8_longestRow_39 : decode cX8_longestRow 39 = .ok (.iconst 0, 1) := by decide +kernel
theorem dX8_longestRow_40 : decode cX8_longestRow 40 = .ok (.istore_n 3, 1) := by decide +kernel
theorem dX8_longestRow_41 : decode cX8_longestRow 41 = .ok (.iload_n 3, 1) := by decide +kernel
theorem dX8_longestRow_42 : decode cX8_longestRow 42 = .ok (.iload_n 2, 1) := by decide +kernel
theorem dX8_longestRow_43 : decode cX8_longestRow 43 = .ok (.if_icmp .le 7, 3) := by decide +kernel
theorem dX8_longestRow_46 : decode cX8_longestRow 46 = .ok (.iload_n 3, 1) := by decide +kernel
theorem dX8_longestRow_47 : decode cX8_longestRow 47 = .ok (.goto 4, 3) := by decide +kernel
theorem dX8_longestRow_50 : decode cX8_longestRow 50 = .ok (.iload_n 2, 1) := by decide +kernel
theorem dX8_longestRow_51 : decode cX8_longestRow 51 = .ok (.istore_n 2, 1) := by decide +kernel
theorem dX8_longestRow_52 : decode cX8_longestRow 52 = .ok (.iinc 4 1, 3) := by decide +kernel
theorem dX8_longestRow_55 : decode cX8_longestRow 55 = .ok (.goto (-48), 3) := by decide +kernel
theorem dX8_longestRow_58 : decode cX8_longestRow 58 = .ok (.iload_n 2, 1) := by decide +kernel
theorem dX8_longestRow_59 : decode cX8_longestRow 59 = .ok (.ireturn, 1) := by decide +kernel
theorem dX8_thread_0 : decode cX8_thread 0 = .ok (.iload_n 1, 1) := by decide +kernel
theorem dX8_thread_1 : decode cX8_thread 1 = .ok (.invokestatic 191, 3) := by decide +kernel
theorem dX8_thread_4 : decode cX8_thread 4 = .ok (.ifCond .ne 5, 3) := by decide +kernel
theorem dX8_thread_7 : decode cX8_thread 7 = .ok (.iconst (-1), 1) := by decide +kernel
theorem dX8_thread_8 : decode cX8_thread 8 = .ok (.ireturn, 1) := by decide +kernel
theorem dX8_thread_9 : decode cX8_thread 9 = .ok (.iload_n 2, 1) := by decide +kernel
theorem dX8_thread_10 : decode cX8_thread 10 = .ok (.tableswitch 65 0 5 #[38, 38, 38, 38, 53, 59], 38) := by decide +kernel
theorem dX8_thread_48 : decode cX8_thread 48 = .ok (.aload_n 0, 1) := by decide +kernel
theorem dX8_thread_49 : decode cX8_thread 49 = .ok (.getfield 7, 3) := by decide +kernel
theorem dX8_thread_52 : decode cX8_thread 52 = .ok (.bipush 19, 2) := by decide +kernel
theorem dX8_thread_54 : decode cX8_thread 54 = .ok (.bipush 6, 2) := by decide +kernel
theorem dX8_thread_56 : decode cX8_thread 56 = .ok (.iload_n 2, 1) := by decide +kernel
theorem dX8_thread_57 : decode cX8_thread 57 = .ok (.imul, 1) := by decide +kernel
theorem dX8_thread_58 : decode cX8_thread 58 = .ok (.iadd, 1) := by decide +kernel
theorem dX8_thread_59 : decode cX8_thread 59 = .ok (.iload_n 1, 1) := by decide +kernel
theorem dX8_thread_60 : decode cX8_thread 60 = .ok (.iadd, 1) := by decide +kernel
theorem dX8_thread_61 : decode cX8_thread 61 = .ok (.iaload, 1) := by decide +kernel
theorem dX8_thread_62 : decode cX8_thread 62 = .ok (.ireturn, 1) := by decide +kernel
theorem dX8_thread_63 : decode cX8_thread 63 = .ok (.aload_n 0, 1) := by decide +kernel
theorem dX8_thread_64 : decode cX8_thread 64 = .ok (.iload_n 1, 1) := by decide +kernel
theorem dX8_thread_65 : decode cX8_thread 65 = .ok (.invokevirtual 200, 3) := by decide +kernel
theorem dX8_thread_68 : decode cX8_thread 68 = .ok (.ireturn, 1) := by decide +kernel
theorem dX8_thread_69 : decode cX8_thread 69 = .ok (.aload_n 0, 1) := by decide +kernel
theorem dX8_thread_70 : decode cX8_thread 70 = .ok (.iload_n 1, 1) := by decide +kernel
theorem dX8_thread_71 : decode cX8_thread 71 = .ok (.invokevirtual 203, 3) := by decide +kernel
theorem dX8_thread_74 : decode cX8_thread 74 = .ok (.ireturn, 1) := by decide +kernel
theorem dX8_thread_75 : decode cX8_thread 75 = .ok (.bipush (-2), 2) := by decide +kernel
theorem dX8_thread_77 : decode cX8_thread 77 = .ok (.ireturn, 1) := by decide +kernel
theorem dX8_pick_0 : decode cX8_pick 0 = .ok (.iload_n 1, 1) := by decide +kernel
theorem dX8_pick_1 : decode cX8_pick 1 = .ok (.iconst 0, 1) := by decide +kernel
theorem dX8_pick_2 : decode cX8_pick 2 = .ok (.aload_n 0, 1) := by decide +kernel
theorem dX8_pick_3 : decode cX8_pick 3 = .ok (.getfield 7, 3) := by decide +kernel
theorem dX8_pick_6 : decode cX8_pick 6 = .ok (.iconst 4, 1) := by decide +kernel
theorem dX8_pick_7 : decode cX8_pick 7 = .ok (.iaload, 1) := by decide +kernel
theorem dX8_pick_8 : decode cX8_pick 8 = .ok (.iconst 1, 1) := by decide +kernel
theorem dX8_pick_9 : decode cX8_pick 9 = .ok (.isub, 1) := by decide +kernel
theorem dX8_pick_10 : decode cX8_pick 10 = .ok (.invokestatic 40, 3) := by decide +kernel
theorem dX8_pick_13 : decode cX8_pick 13 = .ok (.ifCond .eq 16, 3) := by decide +kernel
theorem dX8_pick_16 : decode cX8_pick 16 = .ok (.aload_n 0, 1) := by decide +kernel
theorem dX8_pick_17 : decode cX8_pick 17 = .ok (.getfield 7, 3) := by decide +kernel
theorem dX8_pick_20 : decode cX8_pick 20 = .ok (.sipush 853, 3) := by decide +kernel
theorem dX8_pick_23 : decode cX8_pick 23 = .ok (.iload_n 1, 1) := by decide +kernel
theorem dX8_pick_24 : decode cX8_pick 24 = .ok (.iadd, 1) := by decide +kernel
theorem dX8_pick_25 : decode cX8_pick 25 = .ok (.iaload, 1) := by decide +kernel
theorem dX8_pick_26 : decode cX8_pick 26 = .ok (.goto 4, 3) := by decide +kernel
theorem dX8_pick_29 : decode cX8_pick 29 = .ok (.iconst (-1), 1) := by decide +kernel
theorem dX8_pick_30 : decode cX8_pick 30 = .ok (.ireturn, 1) := by decide +kernel
theorem dX8_aheadByEnd_0 : decode cX8_aheadByEnd 0 = .ok (.iconst 0, 1) := by decide +kernel
theorem dX8_aheadByEnd_1 : decode cX8_aheadByEnd 1 = .ok (.istore_n 2, 1) := by decide +kernel
theorem dX8_aheadByEnd_2 : decode cX8_aheadByEnd 2 = .ok (.aload_n 0, 1) := by decide +kernel
theorem dX8_aheadByEnd_3 : decode cX8_aheadByEnd 3 = .ok (.getfield 7, 3) := by decide +kernel
theorem dX8_aheadByEnd_6 : decode cX8_aheadByEnd 6 = .ok (.bipush 19, 2) := by decide +kernel
theorem dX8_aheadByEnd_8 : decode cX8_aheadByEnd 8 = .ok (.iload_n 1, 1) := by decide +kernel
theorem dX8_aheadByEnd_9 : decode cX8_aheadByEnd 9 = .ok (.iadd, 1) := by decide +kernel
theorem dX8_aheadByEnd_10 : decode cX8_aheadByEnd 10 = .ok (.iaload, 1) := by decide +kernel
theorem dX8_aheadByEnd_11 : decode cX8_aheadByEnd 11 = .ok (.istore_n 3, 1) := by decide +kernel
theorem dX8_aheadByEnd_12 : decode cX8_aheadByEnd 12 = .ok (.iconst 0, 1) := by decide +kernel
theorem dX8_aheadByEnd_13 : decode cX8_aheadByEnd 13 = .ok (.istore 4, 2) := by decide +kernel
theorem dX8_aheadByEnd_15 : decode cX8_aheadByEnd 15 = .ok (.iload 4, 2) := by decide +kernel
theorem dX8_aheadByEnd_17 : decode cX8_aheadByEnd 17 = .ok (.bipush 6, 2) := by decide +kernel
theorem dX8_aheadByEnd_19 : decode cX8_aheadByEnd 19 = .ok (.if_icmp .ge 51, 3) := by decide +kernel
theorem dX8_aheadByEnd_22 : decode cX8_aheadByEnd 22 = .ok (.iload_n 2, 1) := by decide +kernel
theorem dX8_aheadByEnd_23 : decode cX8_aheadByEnd 23 = .ok (.aload_n 0, 1) := by decide +kernel
theorem dX8_aheadByEnd_24 : decode cX8_aheadByEnd 24 = .ok (.getfield 7, 3) := by decide +kernel
theorem dX8_aheadByEnd_27 : decode cX8_aheadByEnd 27 = .ok (.bipush 19, 2) := by decide +kernel
theorem dX8_aheadByEnd_29 : decode cX8_aheadByEnd 29 = .ok (.iload 4, 2) := by decide +kernel
theorem dX8_aheadByEnd_31 : decode cX8_aheadByEnd 31 = .ok (.iadd, 1) := by decide +kernel
theorem dX8_aheadByEnd_32 : decode cX8_aheadByEnd 32 = .ok (.iaload, 1) := by decide +kernel
theorem dX8_aheadByEnd_33 : decode cX8_aheadByEnd 33 = .ok (.iload_n 3, 1) := by decide +kernel
theorem dX8_aheadByEnd_34 : decode cX8_aheadByEnd 34 = .ok (.if_icmp .lt 23, 3) := by decide +kernel
theorem dX8_aheadByEnd_37 : decode cX8_aheadByEnd 37 = .ok (.aload_n 0, 1) := by decide +kernel
theorem dX8_aheadByEnd_38 : decode cX8_aheadByEnd 38 = .ok (.getfield 7, 3) := by decide +kernel
theorem dX8_aheadByEnd_41 : decode cX8_aheadByEnd 41 = .ok (.bipush 19, 2) := by decide +kernel
theorem dX8_aheadByEnd_43 : decode cX8_aheadByEnd 43 = .ok (.iload 4, 2) := by decide +kernel
theorem dX8_aheadByEnd_45 : decode cX8_aheadByEnd 45 = .ok (.iadd, 1) := by decide +kernel
theorem dX8_aheadByEnd_46 : decode cX8_aheadByEnd 46 = .ok (.iaload, 1) := by decide +kernel
theorem dX8_aheadByEnd_47 : decode cX8_aheadByEnd 47 = .ok (.iload_n 3, 1) := by decide +kernel
theorem dX8_aheadByEnd_48 : decode cX8_aheadByEnd 48 = .ok (.if_icmp .ne 13, 3) := by decide +kernel
theorem dX8_aheadByEnd_51 : decode cX8_aheadByEnd 51 = .ok (.iload 4, 2) := by decide +kernel
theorem dX8_aheadByEnd_53 : decode cX8_aheadByEnd 53 = .ok (.iload_n 1, 1) := by decide +kernel
theorem dX8_aheadByEnd_54 : decode cX8_aheadByEnd 54 = .ok (.if_icmp .ge 7, 3) := by decide +kernel
theorem dX8_aheadByEnd_57 : decode cX8_aheadByEnd 57 = .ok (.iconst 1, 1) := by decide +kernel
theorem dX8_aheadByEnd_58 : decode cX8_aheadByEnd 58 = .ok (.goto 4, 3) := by decide +kernel
theorem dX8_aheadByEnd_61 : decode cX8_aheadByEnd 61 = .ok (.iconst 0, 1) := by decide +kernel
theorem dX8_aheadByEnd_62 : decode cX8_aheadByEnd 62 = .ok (.iadd, 1) := by decide +kernel
theorem dX8_aheadByEnd_63 : decode cX8_aheadByEnd 63 = .ok (.istore_n 2, 1) := by decide +kernel
theorem dX8_aheadByEnd_64 : decode cX8_aheadByEnd 64 = .ok (.iinc 4 1, 3) := by decide +kernel
theorem dX8_aheadByEnd_67 : decode cX8_aheadByEnd 67 = .ok (.goto (-52), 3) := by decide +kernel
theorem dX8_aheadByEnd_70 : decode cX8_aheadByEnd 70 = .ok (.iload_n 2, 1) := by decide +kernel
theorem dX8_aheadByEnd_71 : decode cX8_aheadByEnd 71 = .ok (.ireturn, 1) := by decide +kernel
theorem dX8_byEnd_0 : decode cX8_byEnd 0 = .ok (.iconst 0, 1) := by decide +kernel
theorem dX8_byEnd_1 : decode cX8_byEnd 1 = .ok (.istore_n 2, 1) := by decide +kernel
theorem dX8_byEnd_2 : decode cX8_byEnd 2 = .ok (.iload_n 2, 1) := by decide +kernel
theorem dX8_byEnd_3 : decode cX8_byEnd 3 = .ok (.bipush 6, 2) := by decide +kernel
theorem dX8_byEnd_5 : decode cX8_byEnd 5 = .ok (.if_icmp .ge 20, 3) := by decide +kernel
theorem dX8_byEnd_8 : decode cX8_byEnd 8 = .ok (.aload_n 0, 1) := by decide +kernel
theorem dX8_byEnd_9 : decode cX8_byEnd 9 = .ok (.iload_n 2, 1) := by decide +kernel
theorem dX8_byEnd_10 : decode cX8_byEnd 10 = .ok (.invokevirtual 206, 3) := by decide +kernel
theorem dX8_byEnd_13 : decode cX8_byEnd 13 = .ok (.iload_n 1, 1) := by decide +kernel
theorem dX8_byEnd_14 : decode cX8_byEnd 14 = .ok (.if_icmp .ne 5, 3) := by decide +kernel
theorem dX8_byEnd_17 : decode cX8_byEnd 17 = .ok (.iload_n 2, 1) := by decide +kernel
theorem dX8_byEnd_18 : decode cX8_byEnd 18 = .ok (.ireturn, 1) := by decide +kernel
theorem dX8_byEnd_19 : decode cX8_byEnd 19 = .ok (.iinc 2 1, 3) := by decide +kernel
theorem dX8_byEnd_22 : decode cX8_byEnd 22 = .ok (.goto (-20), 3) := by decide +kernel
theorem dX8_byEnd_25 : decode cX8_byEnd 25 = .ok (.iconst (-1), 1) := by decide +kernel
theorem dX8_byEnd_26 : decode cX8_byEnd 26 = .ok (.ireturn, 1) := by decide +kernel
theorem dX8_aheadByCloth_0 : decode cX8_aheadByCloth 0 = .ok (.iconst 0, 1) := by decide +kernel
theorem dX8_aheadByCloth_1 : decode cX8_aheadByCloth 1 = .ok (.istore_n 2, 1) := by decide +kernel
theorem dX8_aheadByCloth_2 : decode cX8_aheadByCloth 2 = .ok (.aload_n 0, 1) := by decide +kernel
theorem dX8_aheadByCloth_3 : decode cX8_aheadByCloth 3 = .ok (.iload_n 1, 1) := by decide +kernel
theorem dX8_aheadByCloth_4 : decode cX8_aheadByCloth 4 = .ok (.invokevirtual 200, 3) := by decide +kernel
theorem dX8_aheadByCloth_7 : decode cX8_aheadByCloth 7 = .ok (.istore_n 3, 1) := by decide +kernel
theorem dX8_aheadByCloth_8 : decode cX8_aheadByCloth 8 = .ok (.iconst 0, 1) := by decide +kernel
theorem dX8_aheadByCloth_9 : decode cX8_aheadByCloth 9 = .ok (.istore 4, 2) := by decide +kernel
theorem dX8_aheadByCloth_11 : decode cX8_aheadByCloth 11 = .ok (.iload 4, 2) := by decide +kernel
theorem dX8_aheadByCloth_13 : decode cX8_aheadByCloth 13 = .ok (.bipush 6, 2) := by decide +kernel
theorem dX8_aheadByCloth_15 : decode cX8_aheadByCloth 15 = .ok (.if_icmp .ge 43, 3) := by decide +kernel
theorem dX8_aheadByCloth_18 : decode cX8_aheadByCloth 18 = .ok (.iload_n 2, 1) := by decide +kernel
theorem dX8_aheadByCloth_19 : decode cX8_aheadByCloth 19 = .ok (.aload_n 0, 1) := by decide +kernel
theorem dX8_aheadByCloth_20 : decode cX8_aheadByCloth 20 = .ok (.iload 4, 2) := by decide +kernel
theorem dX8_aheadByCloth_22 : decode cX8_aheadByCloth 22 = .ok (.invokevirtual 200, 3) := by decide +kernel
theorem dX8_aheadByCloth_25 : decode cX8_aheadByCloth 25 = .ok (.iload_n 3, 1) := by decide +kernel
theorem dX8_aheadByCloth_26 : decode cX8_aheadByCloth 26 = .ok (.if_icmp .gt 19, 3) := by decide +kernel
theorem dX8_aheadByCloth_29 : decode cX8_aheadByCloth 29 = .ok (.aload_n 0, 1) := by decide +kernel
theorem dX8_aheadByCloth_30 : decode cX8_aheadByCloth 30 = .ok (.iload 4, 2) := by decide +kernel
theorem dX8_aheadByCloth_32 : decode cX8_aheadByCloth 32 = .ok (.invokevirtual 200, 3) := by decide +kernel
theorem dX8_aheadByCloth_35 : decode cX8_aheadByCloth 35 = .ok (.iload_n 3, 1) := by decide +kernel
theorem dX8_aheadByCloth_36 : decode cX8_aheadByCloth 36 = .ok (.if_icmp .ne 13, 3) := by decide +kernel
theorem dX8_aheadByCloth_39 : decode cX8_aheadByCloth 39 = .ok (.iload 4, 2) := by decide +kernel
theorem dX8_aheadByCloth_41 : decode cX8_aheadByCloth 41 = .ok (.iload_n 1, 1) := by decide +kernel
theorem dX8_aheadByCloth_42 : decode cX8_aheadByCloth 42 = .ok (.if_icmp .ge 7, 3) := by decide +kernel
theorem dX8_aheadByCloth_45 : decode cX8_aheadByCloth 45 = .ok (.iconst 1, 1) := by decide +kernel
theorem dX8_aheadByCloth_46 : decode cX8_aheadByCloth 46 = .ok (.goto 4, 3) := by decide +kernel
theorem dX8_aheadByCloth_49 : decode cX8_aheadByCloth 49 = .ok (.iconst 0, 1) := by decide +kernel
theorem dX8_aheadByCloth_50 : decode cX8_aheadByCloth 50 = .ok (.iadd, 1) := by decide +kernel
theorem dX8_aheadByCloth_51 : decode cX8_aheadByCloth 51 = .ok (.istore_n 2, 1) := by decide +kernel
theorem dX8_aheadByCloth_52 : decode cX8_aheadByCloth 52 = .ok (.iinc 4 1, 3) := by decide +kernel
theorem dX8_aheadByCloth_55 : decode cX8_aheadByCloth 55 = .ok (.goto (-44), 3) := by decide +kernel
theorem dX8_aheadByCloth_58 : decode cX8_aheadByCloth 58 = .ok (.iload_n 2, 1) := by decide +kernel
theorem dX8_aheadByCloth_59 : decode cX8_aheadByCloth 59 = .ok (.ireturn, 1) := by decide +kernel
theorem dX8_byCloth_0 : decode cX8_byCloth 0 = .ok (.iconst 0, 1) := by decide +kernel
theorem dX8_byCloth_1 : decode cX8_byCloth 1 = .ok (.istore_n 2, 1) := by decide +kernel
theorem dX8_byCloth_2 : decode cX8_byCloth 2 = .ok (.iload_n 2, 1) := by decide +kernel
theorem dX8_byCloth_3 : decode cX8_byCloth 3 = .ok (.bipush 6, 2) := by decide +kernel
theorem dX8_byCloth_5 : decode cX8_byCloth 5 = .ok (.if_icmp .ge 28, 3) := by decide +kernel
theorem dX8_byCloth_8 : decode cX8_byCloth 8 = .ok (.aload_n 0, 1) := by decide +kernel
theorem dX8_byCloth_9 : decode cX8_byCloth 9 = .ok (.iload_n 2, 1) := by decide +kernel
theorem dX8_byCloth_10 : decode cX8_byCloth 10 = .ok (.invokevirtual 209, 3) := by decide +kernel
theorem dX8_byCloth_13 : decode cX8_byCloth 13 = .ok (.iload_n 1, 1) := by decide +kernel
theorem dX8_byCloth_14 : decode cX8_byCloth 14 = .ok (.if_icmp .ne 13, 3) := by decide +kernel
theorem dX8_byCloth_17 : decode cX8_byCloth 17 = .ok (.aload_n 0, 1) := by decide +kernel
theorem dX8_byCloth_18 : decode cX8_byCloth 18 = .ok (.iload_n 2, 1) := by decide +kernel
theorem dX8_byCloth_19 : decode cX8_byCloth 19 = .ok (.invokevirtual 200, 3) := by decide +kernel
theorem dX8_byCloth_22 : decode cX8_byCloth 22 = .ok (.ifCond .le 5, 3) := by decide +kernel
theorem dX8_byCloth_25 : decode cX8_byCloth 25 = .ok (.iload_n 2, 1) := by decide +kernel
theorem dX8_byCloth_26 : decode cX8_byCloth 26 = .ok (.ireturn, 1) := by decide +kernel
theorem dX8_byCloth_27 : decode cX8_byCloth 27 = .ok (.iinc 2 1, 3) := by decide +kernel
theorem dX8_byCloth_30 : decode cX8_byCloth 30 = .ok (.goto (-28), 3) := by decide +kernel
theorem dX8_byCloth_33 : decode cX8_byCloth 33 = .ok (.iconst (-1), 1) := by decide +kernel
theorem dX8_byCloth_34 : decode cX8_byCloth 34 = .ok (.ireturn, 1) := by decide +kernel
theorem dX8_withTexts_0 : decode cX8_withTexts 0 = .ok (.iconst 0, 1) := by decide +kernel
theorem dX8_withTexts_1 : decode cX8_withTexts 1 = .ok (.istore_n 1, 1) := by decide +kernel
theorem dX8_withTexts_2 : decode cX8_withTexts 2 = .ok (.iconst 0, 1) := by decide +kernel
theorem dX8_withTexts_3 : decode cX8_withTexts 3 = .ok (.istore_n 2, 1) := by decide +kernel
theorem dX8_withTexts_4 : decode cX8_withTexts 4 = .ok (.iload_n 2, 1) := by decide +kernel
theorem dX8_withTexts_5 : decode cX8_withTexts 5 = .ok (.bipush 10, 2) := by decide +kernel
theorem dX8_withTexts_7 : decode cX8_withTexts 7 = .ok (.if_icmp .ge 27, 3) := by decide +kernel
theorem dX8_withTexts_10 : decode cX8_withTexts 10 = .ok (.iload_n 1, 1) := by decide +kernel
theorem dX8_withTexts_11 : decode cX8_withTexts 11 = .ok (.aload_n 0, 1) := by decide +kernel
theorem dX8_withTexts_12 : decode cX8_withTexts 12 = .ok (.iload_n 2, 1) := by decide +kernel
theorem dX8_withTexts_13 : decode cX8_withTexts 13 = .ok (.invokevirtual 100, 3) := by decide +kernel
theorem dX8_withTexts_16 : decode cX8_withTexts 16 = .ok (.ifCond .eq 9, 3) := by decide +kernel
theorem dX8_withTexts_19 : decode cX8_withTexts 19 = .ok (.iconst 1, 1) := by decide +kernel
theorem dX8_withTexts_20 : decode cX8_withTexts 20 = .ok (.iload_n 2, 1) := by decide +kernel
theorem dX8_withTexts_21 : decode cX8_withTexts 21 = .ok (.ishl, 1) := by decide +kernel
theorem dX8_withTexts_22 : decode cX8_withTexts 22 = .ok (.goto 4, 3) := by decide +kernel
theorem dX8_withTexts_25 : decode cX8_withTexts 25 = .ok (.iconst 0, 1) := by decide +kernel
theorem dX8_withTexts_26 : decode cX8_withTexts 26 = .ok (.ior, 1) := by decide +kernel
theorem dX8_withTexts_27 : decode cX8_withTexts 27 = .ok (.istore_n 1, 1) := by decide +kernel
theorem dX8_withTexts_28 : decode cX8_withTexts 28 = .ok (.iinc 2 1, 3) := by decide +kernel
theorem dX8_withTexts_31 : decode cX8_withTexts 31 = .ok (.goto (-27), 3) := by decide +kernel
theorem dX8_withTexts_34 : decode cX8_withTexts 34 = .ok (.iload_n 1, 1) := by decide +kernel
theorem dX8_withTexts_35 : decode cX8_withTexts 35 = .ok (.ireturn, 1) := by decide +kernel
theorem dX8_sumOf_0 : decode cX8_sumOf 0 = .ok (.iconst 0, 1) := by decide +kernel
theorem dX8_sumOf_1 : decode cX8_sumOf 1 = .ok (.istore_n 2, 1) := by decide +kernel
theorem dX8_sumOf_2 : decode cX8_sumOf 2 = .ok (.iconst 0, 1) := by decide +kernel
theorem dX8_sumOf_3 : decode cX8_sumOf 3 = .ok (.istore_n 3, 1) := by decide +kernel
theorem dX8_sumOf_4 : decode cX8_sumOf 4 = .ok (.iload_n 3, 1) := by decide +kernel
theorem dX8_sumOf_5 : decode cX8_sumOf 5 = .ok (.bipush 6, 2) := by decide +kernel
theorem dX8_sumOf_7 : decode cX8_sumOf 7 = .ok (.if_icmp .ge 20, 3) := by decide +kernel
theorem dX8_sumOf_10 : decode cX8_sumOf 10 = .ok (.iload_n 2, 1) := by decide +kernel
theorem dX8_sumOf_11 : decode cX8_sumOf 11 = .ok (.aload_n 0, 1) := by decide +kernel
theorem dX8_sumOf_12 : decode cX8_sumOf 12 = .ok (.getfield 7, 3) := by decide +kernel
theorem dX8_sumOf_15 : decode cX8_sumOf 15 = .ok (.iload_n 1, 1) := by decide +kernel
theorem dX8_sumOf_16 : decode cX8_sumOf 16 = .ok (.iload_n 3, 1) := by decide +kernel
theorem dX8_sumOf_17 : decode cX8_sumOf 17 = .ok (.iadd, 1) := by decide +kernel
theorem dX8_sumOf_18 : decode cX8_sumOf 18 = .ok (.iaload, 1) := by decide +kernel
theorem dX8_sumOf_19 : decode cX8_sumOf 19 = .ok (.iadd, 1) := by decide +kernel
theorem dX8_sumOf_20 : decode cX8_sumOf 20 = .ok (.istore_n 2, 1) := by decide +kernel
theorem dX8_sumOf_21 : decode cX8_sumOf 21 = .ok (.iinc 3 1, 3) := by decide +kernel
theorem dX8_sumOf_24 : decode cX8_sumOf 24 = .ok (.goto (-20), 3) := by decide +kernel
theorem dX8_sumOf_27 : decode cX8_sumOf 27 = .ok (.iload_n 2, 1) := by decide +kernel
theorem dX8_sumOf_28 : decode cX8_sumOf 28 = .ok (.ireturn, 1) := by decide +kernel
theorem dX8_count_0 : decode cX8_count 0 = .ok (.iload_n 1, 1) := by decide +kernel
theorem dX8_count_1 : decode cX8_count 1 = .ok (.tableswitch 155 0 13 #[71, 76, 83, 90, 97, 105, 113, 121, 128, 135, 135, 135, 145, 150], 71) := by decide +kernel
theorem dX8_count_72 : decode cX8_count 72 = .ok (.aload_n 0, 1) := by decide +kernel
theorem dX8_count_73 : decode cX8_count 73 = .ok (.invokevirtual 212, 3) := by decide +kernel
theorem dX8_count_76 : decode cX8_count 76 = .ok (.ireturn, 1) := by decide +kernel
theorem dX8_count_77 : decode cX8_count 77 = .ok (.aload_n 0, 1) := by decide +kernel
theorem dX8_count_78 : decode cX8_count 78 = .ok (.getfield 7, 3) := by decide +kernel
theorem dX8_count_81 : decode cX8_count 81 = .ok (.iconst 3, 1) := by decide +kernel
theorem dX8_count_82 : decode cX8_count 82 = .ok (.iaload, 1) := by decide +kernel
theorem dX8_count_83 : decode cX8_count 83 = .ok (.ireturn, 1) := by decide +kernel
theorem dX8_count_84 : decode cX8_count 84 = .ok (.aload_n 0, 1) := by decide +kernel
theorem dX8_count_85 : decode cX8_count 85 = .ok (.getfield 7, 3) := by decide +kernel
theorem dX8_count_88 : decode cX8_count 88 = .ok (.iconst 4, 1) := by decide +kernel
theorem dX8_count_89 : decode cX8_count 89 = .ok (.iaload, 1) := by decide +kernel
theorem dX8_count_90 : decode cX8_count 90 = .ok (.ireturn, 1) := by decide +kernel
theorem dX8_count_91 : decode cX8_count 91 = .ok (.aload_n 0, 1) := by decide +kernel
theorem dX8_count_92 : decode cX8_count 92 = .ok (.getfield 7, 3) := by decide +kernel
theorem dX8_count_95 : decode cX8_count 95 = .ok (.iconst 5, 1) := by decide +kernel
theorem dX8_count_96 : decode cX8_count 96 = .ok (.iaload, 1) := by decide +kernel
theorem dX8_count_97 : decode cX8_count 97 = .ok (.ireturn, 1) := by decide +kernel
theorem dX8_count_98 : decode cX8_count 98 = .ok (.aload_n 0, 1) := by decide +kernel
theorem dX8_count_99 : decode cX8_count 99 = .ok (.getfield 7, 3) := by decide +kernel
theorem dX8_count_102 : decode cX8_count 102 = .ok (.bipush 6, 2) := by decide +kernel
theorem dX8_count_104 : decode cX8_count 104 = .ok (.iaload, 1) := by decide +kernel
theorem dX8_count_105 : decode cX8_count 105 = .ok (.ireturn, 1) := by decide +kernel
theorem dX8_count_106 : decode cX8_count 106 = .ok (.aload_n 0, 1) := by decide +kernel
theorem dX8_count_107 : decode cX8_count 107 = .ok (.getfield 7, 3) := by decide +kernel
theorem dX8_count_110 : decode cX8_count 110 = .ok (.bipush 7, 2) := by decide +kernel
theorem dX8_count_112 : decode cX8_count 112 = .ok (.iaload, 1) := by decide +kernel
theorem dX8_count_113 : decode cX8_count 113 = .ok (.ireturn, 1) := by decide +kernel
theorem dX8_count_114 : decode cX8_count 114 = .ok (.aload_n 0, 1) := by decide +kernel
theorem dX8_count_115 : decode cX8_count 115 = .ok (.getfield 7, 3) := by decide +kernel
theorem dX8_count_118 : decode cX8_count 118 = .ok (.bipush 8, 2) := by decide +kernel
theorem dX8_count_120 : decode cX8_count 120 = .ok (.iaload, 1) := by decide +kernel
theorem dX8_count_121 : decode cX8_count 121 = .ok (.ireturn, 1) := by decide +kernel
theorem dX8_count_122 : decode cX8_count 122 = .ok (.aload_n 0, 1) := by decide +kernel
theorem dX8_count_123 : decode cX8_count 123 = .ok (.bipush 31, 2) := by decide +kernel
theorem dX8_count_125 : decode cX8_count 125 = .ok (.invokevirtual 215, 3) := by decide +kernel
theorem dX8_count_128 : decode cX8_count 128 = .ok (.ireturn, 1) := by decide +kernel
theorem dX8_count_129 : decode cX8_count 129 = .ok (.aload_n 0, 1) := by decide +kernel
theorem dX8_count_130 : decode cX8_count 130 = .ok (.bipush 19, 2) := by decide +kernel
theorem dX8_count_132 : decode cX8_count 132 = .ok (.invokevirtual 215, 3) := by decide +kernel
theorem dX8_count_135 : decode cX8_count 135 = .ok (.ireturn, 1) := by decide +kernel
theorem dX8_count_136 : decode cX8_count 136 = .ok (.aload_n 0, 1) := by decide +kernel
theorem dX8_count_137 : decode cX8_count 137 = .ok (.getfield 7, 3) := by decide +kernel
theorem dX8_count_140 : decode cX8_count 140 = .ok (.iload_n 1, 1) := by decide +kernel
theorem dX8_count_141 : decode cX8_count 141 = .ok (.bipush 9, 2) := by decide +kernel
theorem dX8_count_143 : decode cX8_count 143 = .ok (.isub, 1) := by decide +kernel
theorem dX8_count_144 : decode cX8_count 144 = .ok (.iaload, 1) := by decide +kernel
theorem dX8_count_145 : decode cX8_count 145 = .ok (.ireturn, 1) := by decide +kernel
theorem dX8_count_146 : decode cX8_count 146 = .ok (.aload_n 0, 1) := by decide +kernel
theorem dX8_count_147 : decode cX8_count 147 = .ok (.getfield 64, 3) := by decide +kernel
theorem dX8_count_150 : decode cX8_count 150 = .ok (.ireturn, 1) := by decide +kernel
theorem dX8_count_151 : decode cX8_count 151 = .ok (.aload_n 0, 1) := by decide +kernel
theorem dX8_count_152 : decode cX8_count 152 = .ok (.getfield 44, 3) := by decide +kernel
theorem dX8_count_155 : decode cX8_count 155 = .ok (.ireturn, 1) := by decide +kernel
theorem dX8_count_156 : decode cX8_count 156 = .ok (.bipush (-2), 2) := by decide +kernel
theorem dX8_count_158 : decode cX8_count 158 = .ok (.ireturn, 1) := by decide +kernel
theorem dX8_bounded_0 : decode cX8_bounded 0 = .ok (.iload_n 0, 1) := by decide +kernel
theorem dX8_bounded_1 : decode cX8_bounded 1 = .ok (.ldc 218, 2) := by decide +kernel
theorem dX8_bounded_3 : decode cX8_bounded 3 = .ok (.if_icmp .le 8, 3) := by decide +kernel
theorem dX8_bounded_6 : decode cX8_bounded 6 = .ok (.ldc 219, 2) := by decide +kernel
theorem dX8_bounded_8 : decode cX8_bounded 8 = .ok (.goto 4, 3) := by decide +kernel
theorem dX8_bounded_11 : decode cX8_bounded 11 = .ok (.iload_n 0, 1) := by decide +kernel
theorem dX8_bounded_12 : decode cX8_bounded 12 = .ok (.ireturn, 1) := by decide +kernel
theorem dX8_countPicks_0 : decode cX8_countPicks 0 = .ok (.aload_n 0, 1) := by decide +kernel
theorem dX8_countPicks_1 : decode cX8_countPicks 1 = .ok (.getfield 28, 3) := by decide +kernel
theorem dX8_countPicks_4 : decode cX8_countPicks 4 = .ok (.iload_n 1, 1) := by decide +kernel
theorem dX8_countPicks_5 : decode cX8_countPicks 5 = .ok (.iload_n 2, 1) := by decide +kernel
theorem dX8_countPicks_6 : decode cX8_countPicks 6 = .ok (.iadd, 1) := by decide +kernel
theorem dX8_countPicks_7 : decode cX8_countPicks 7 = .ok (.aload_n 0, 1) := by decide +kernel
theorem dX8_countPicks_8 : decode cX8_countPicks 8 = .ok (.getfield 28, 3) := by decide +kernel
theorem dX8_countPicks_11 : decode cX8_countPicks 11 = .ok (.iload_n 1, 1) := by decide +kernel
theorem dX8_countPicks_12 : decode cX8_countPicks 12 = .ok (.iload_n 2, 1) := by decide +kernel
theorem dX8_countPicks_13 : decode cX8_countPicks 13 = .ok (.iadd, 1) := by decide +kernel
theorem dX8_countPicks_14 : decode cX8_countPicks 14 = .ok (.iaload, 1) := by decide +kernel
theorem dX8_countPicks_15 : decode cX8_countPicks 15 = .ok (.iload_n 3, 1) := by decide +kernel
theorem dX8_countPicks_16 : decode cX8_countPicks 16 = .ok (.iadd, 1) := by decide +kernel
theorem dX8_countPicks_17 : decode cX8_countPicks 17 = .ok (.invokestatic 220, 3) := by decide +kernel
theorem dX8_countPicks_20 : decode cX8_countPicks 20 = .ok (.iastore, 1) := by decide +kernel
theorem dX8_countPicks_21 : decode cX8_countPicks 21 = .ok (.return_, 1) := by decide +kernel
theorem dX8_behindPart_0 : decode cX8_behindPart 0 = .ok (.iconst 1, 1) := by decide +kernel
theorem dX8_behindPart_1 : decode cX8_behindPart 1 = .ok (.istore_n 3, 1) := by decide +kernel
theorem dX8_behindPart_2 : decode cX8_behindPart 2 = .ok (.iload_n 2, 1) := by decide +kernel
theorem dX8_behindPart_3 : decode cX8_behindPart 3 = .ok (.iconst 1, 1) := by decide +kernel
theorem dX8_behindPart_4 : decode cX8_behindPart 4 = .ok (.iadd, 1) := by decide +kernel
theorem dX8_behindPart_5 : decode cX8_behindPart 5 = .ok (.istore 4, 2) := by decide +kernel
theorem dX8_behindPart_7 : decode cX8_behindPart 7 = .ok (.iload_n 3, 1) := by decide +kernel
theorem dX8_behindPart_8 : decode cX8_behindPart 8 = .ok (.ifCond .le 45, 3) := by decide +kernel
theorem dX8_behindPart_11 : decode cX8_behindPart 11 = .ok (.iload_n 3, 1) := by decide +kernel
theorem dX8_behindPart_12 : decode cX8_behindPart 12 = .ok (.aload_n 0, 1) := by decide +kernel
theorem dX8_behindPart_13 : decode cX8_behindPart 13 = .ok (.iload_n 1, 1) := by decide +kernel
theorem dX8_behindPart_14 : decode cX8_behindPart 14 = .ok (.iload 4, 2) := by decide +kernel
theorem dX8_behindPart_16 : decode cX8_behindPart 16 = .ok (.invokevirtual 103, 3) := by decide +kernel
theorem dX8_behindPart_19 : decode cX8_behindPart 19 = .ok (.bipush 40, 2) := by decide +kernel
theorem dX8_behindPart_21 : decode cX8_behindPart 21 = .ok (.if_icmp .ne 7, 3) := by decide +kernel
theorem dX8_behindPart_24 : decode cX8_behindPart 24 = .ok (.iconst 1, 1) := by decide +kernel
theorem dX8_behindPart_25 : decode cX8_behindPart 25 = .ok (.goto 20, 3) := by decide +kernel
theorem dX8_behindPart_28 : decode cX8_behindPart 28 = .ok (.aload_n 0, 1) := by decide +kernel
theorem dX8_behindPart_29 : decode cX8_behindPart 29 = .ok (.iload_n 1, 1) := by decide +kernel
theorem dX8_behindPart_30 : decode cX8_behindPart 30 = .ok (.iload 4, 2) := by decide +kernel
theorem dX8_behindPart_32 : decode cX8_behindPart 32 = .ok (.invokevirtual 103, 3) := by decide +kernel
theorem dX8_behindPart_35 : decode cX8_behindPart 35 = .ok (.bipush 41, 2) := by decide +kernel
theorem dX8_behindPart_37 : decode cX8_behindPart 37 = .ok (.if_icmp .ne 7, 3) := by decide +kernel
theorem dX8_behindPart_40 : decode cX8_behindPart 40 = .ok (.iconst (-1), 1) := by decide +kernel
theorem dX8_behindPart_41 : decode cX8_behindPart 41 = .ok (.goto 4, 3) := by decide +kernel
theorem dX8_behindPart_44 : decode cX8_behindPart 44 = .ok (.iconst 0, 1) := by decide +kernel
theorem dX8_behindPart_45 : decode cX8_behindPart 45 = .ok (.iadd, 1) := by decide +kernel
theorem dX8_behindPart_46 : decode cX8_behindPart 46 = .ok (.istore_n 3, 1) := by decide +kernel
theorem dX8_behindPart_47 : decode cX8_behindPart 47 = .ok (.iinc 4 1, 3) := by decide +kernel
theorem dX8_behindPart_50 : decode cX8_behindPart 50 = .ok (.goto (-43), 3) := by decide +kernel
theorem dX8_behindPart_53 : decode cX8_behindPart 53 = .ok (.iload 4, 2) := by decide +kernel
theorem dX8_behindPart_55 : decode cX8_behindPart 55 = .ok (.ireturn, 1) := by decide +kernel
theorem dX8_digitAt_0 : decode cX8_digitAt 0 = .ok (.iload_n 2, 1) := by decide +kernel
theorem dX8_digitAt_1 : decode cX8_digitAt 1 = .ok (.aload_n 0, 1) := by decide +kernel
theorem dX8_digitAt_2 : decode cX8_digitAt 2 = .ok (.getfield 7, 3) := by decide +kernel
theorem dX8_digitAt_5 : decode cX8_digitAt 5 = .ok (.bipush 43, 2) := by decide +kernel
theorem dX8_digitAt_7 : decode cX8_digitAt 7 = .ok (.iload_n 1, 1) := by decide +kernel
theorem dX8_digitAt_8 : decode cX8_digitAt 8 = .ok (.iadd, 1) := by decide +kernel
theorem dX8_digitAt_9 : decode cX8_digitAt 9 = .ok (.iaload, 1) := by decide +kernel
theorem dX8_digitAt_10 : decode cX8_digitAt 10 = .ok (.if_icmp .ge 15, 3) := by decide +kernel
theorem dX8_digitAt_13 : decode cX8_digitAt 13 = .ok (.aload_n 0, 1) := by decide +kernel
theorem dX8_digitAt_14 : decode cX8_digitAt 14 = .ok (.iload_n 1, 1) := by decide +kernel
theorem dX8_digitAt_15 : decode cX8_digitAt 15 = .ok (.iload_n 2, 1) := by decide +kernel
theorem dX8_digitAt_16 : decode cX8_digitAt 16 = .ok (.invokevirtual 103, 3) := by decide +kernel
theorem dX8_digitAt_19 : decode cX8_digitAt 19 = .ok (.bipush 48, 2) := by decide +kernel
theorem dX8_digitAt_21 : decode cX8_digitAt 21 = .ok (.isub, 1) := by decide +kernel
theorem dX8_digitAt_22 : decode cX8_digitAt 22 = .ok (.goto 4, 3) := by decide +kernel
theorem dX8_digitAt_25 : decode cX8_digitAt 25 = .ok (.iconst 0, 1) := by decide +kernel
theorem dX8_digitAt_26 : decode cX8_digitAt 26 = .ok (.ireturn, 1) := by decide +kernel
theorem dX8_countCard_0 : decode cX8_countCard 0 = .ok (.bipush 36, 2) := by decide +kernel
theorem dX8_countCard_2 : decode cX8_countCard 2 = .ok (.iload_n 1, 1) := by decide +kernel
theorem dX8_countCard_3 : decode cX8_countCard 3 = .ok (.imul, 1) := by decide +kernel
theorem dX8_countCard_4 : decode cX8_countCard 4 = .ok (.bipush 6, 2) := by decide +kernel
theorem dX8_countCard_6 : decode cX8_countCard 6 = .ok (.iload_n 2, 1) := by decide +kernel
theorem dX8_countCard_7 : decode cX8_countCard 7 = .ok (.imul, 1) := by decide +kernel
theorem dX8_countCard_8 : decode cX8_countCard 8 = .ok (.iadd, 1) := by decide +kernel
theorem dX8_countCard_9 : decode cX8_countCard 9 = .ok (.istore_n 3, 1) := by decide +kernel
theorem dX8_countCard_10 : decode cX8_countCard 10 = .ok (.iload_n 2, 1) := by decide +kernel
theorem dX8_countCard_11 : decode cX8_countCard 11 = .ok (.istore 4, 2) := by decide +kernel
theorem dX8_countCard_13 : decode cX8_countCard 13 = .ok (.iconst 0, 1) := by decide +kernel
theorem dX8_countCard_14 : decode cX8_countCard 14 = .ok (.istore 5, 2) := by decide +kernel
theorem dX8_countCard_16 : decode cX8_countCard 16 = .ok (.iconst 0, 1) := by decide +kernel
theorem dX8_countCard_17 : decode cX8_countCard 17 = .ok (.istore 6, 2) := by decide +kernel
theorem dX8_countCard_19 : decode cX8_countCard 19 = .ok (.iload 6, 2) := by decide +kernel
theorem dX8_countCard_21 : decode cX8_countCard 21 = .ok (.aload_n 0, 1) := by decide +kernel
theorem dX8_countCard_22 : decode cX8_countCard 22 = .ok (.getfield 7, 3) := by decide +kernel
theorem dX8_countCard_25 : decode cX8_countCard 25 = .ok (.bipush 43, 2) := by decide +kernel
theorem dX8_countCard_27 : decode cX8_countCard 27 = .ok (.iload_n 1, 1) := by decide +kernel
theorem dX8_countCard_28 : decode cX8_countCard 28 = .ok (.iadd, 1) := by decide +kernel
theorem dX8_countCard_29 : decode cX8_countCard 29 = .ok (.iaload, 1) := by decide +kernel
theorem dX8_countCard_30 : decode cX8_countCard 30 = .ok (.if_icmp .ge 297, 3) := by decide +kernel
theorem dX8_countCard_33 : decode cX8_countCard 33 = .ok (.aload_n 0, 1) := by decide +kernel
theorem dX8_countCard_34 : decode cX8_countCard 34 = .ok (.iload_n 1, 1) := by decide +kernel
theorem dX8_countCard_35 : decode cX8_countCard 35 = .ok (.iload 6, 2) := by decide +kernel
theorem dX8_countCard_37 : decode cX8_countCard 37 = .ok (.iconst 1, 1) := by decide +kernel
theorem dX8_countCard_38 : decode cX8_countCard 38 = .ok (.iadd, 1) := by decide +kernel
theorem dX8_countCard_39 : decode cX8_countCard 39 = .ok (.invokevirtual 223, 3) := by decide +kernel
theorem dX8_countCard_42 : decode cX8_countCard 42 = .ok (.istore 7, 2) := by decide +kernel
theorem dX8_countCard_44 : decode cX8_countCard 44 = .ok (.aload_n 0, 1) := by decide +kernel
theorem dX8_countCard_45 : decode cX8_countCard 45 = .ok (.iload_n 1, 1) := by decide +kernel
theorem dX8_countCard_46 : decode cX8_countCard 46 = .ok (.iload 6, 2) := by decide +kernel
theorem dX8_countCard_48 : decode cX8_countCard 48 = .ok (.invokevirtual 103, 3) := by decide +kernel
theorem dX8_countCard_51 : decode cX8_countCard 51 = .ok (.lookupswitch 209 #[(41, 141), (99, 95), (107, 105), (115, 127), (119, 49)], 49) := by decide +kernel
theorem dX8_countCard_100 : decode cX8_countCard 100 = .ok (.iload 7, 2) := by decide +kernel
theorem dX8_countCard_102 : decode cX8_countCard 102 = .ok (.iconst 2, 1) := by decide +kernel
theorem dX8_countCard_103 : decode cX8_countCard 103 = .ok (.bipush 9, 2) := by decide +kernel
theorem dX8_countCard_105 : decode cX8_countCard 105 = .ok (.invokestatic 40, 3) := by decide +kernel
theorem dX8_countCard_108 : decode cX8_countCard 108 = .ok (.istore 8, 2) := by decide +kernel
theorem dX8_countCard_110 : decode cX8_countCard 110 = .ok (.aload_n 0, 1) := by decide +kernel
theorem dX8_countCard_111 : decode cX8_countCard 111 = .ok (.iload_n 3, 1) := by decide +kernel
theorem dX8_countCard_112 : decode cX8_countCard 112 = .ok (.iload 4, 2) := by decide +kernel
theorem dX8_countCard_114 : decode cX8_countCard 114 = .ok (.iload 8, 2) := by decide +kernel
theorem dX8_countCard_116 : decode cX8_countCard 116 = .ok (.ifCond .eq 8, 3) := by decide +kernel
theorem dX8_countCard_119 : decode cX8_countCard 119 = .ok (.iload 7, 2) := by decide +kernel
theorem dX8_countCard_121 : decode cX8_countCard 121 = .ok (.goto 4, 3) := by decide +kernel
theorem dX8_countCard_124 : decode cX8_countCard 124 = .ok (.iconst 1, 1) := by decide +kernel
theorem dX8_countCard_125 : decode cX8_countCard 125 = .ok (.invokevirtual 226, 3) := by decide +kernel
theorem dX8_countCard_128 : decode cX8_countCard 128 = .ok (.iload 6, 2) := by decide +kernel
theorem dX8_countCard_130 : decode cX8_countCard 130 = .ok (.iload 8, 2) := by decide +kernel
theorem dX8_countCard_132 : decode cX8_countCard 132 = .ok (.ifCond .eq 7, 3) := by decide +kernel
theorem dX8_countCard_135 : decode cX8_countCard 135 = .ok (.iconst 2, 1) := by decide +kernel
theorem dX8_countCard_136 : decode cX8_countCard 136 = .ok (.goto 4, 3) := by decide +kernel
theorem dX8_countCard_139 : decode cX8_countCard 139 = .ok (.iconst 1, 1) := by decide +kernel
theorem dX8_countCard_140 : decode cX8_countCard 140 = .ok (.iadd, 1) := by decide +kernel
theorem dX8_countCard_141 : decode cX8_countCard 141 = .ok (.istore 6, 2) := by decide +kernel
theorem dX8_countCard_143 : decode cX8_countCard 143 = .ok (.goto 181, 3) := by decide +kernel
theorem dX8_countCard_146 : decode cX8_countCard 146 = .ok (.iload 7, 2) := by decide +kernel
theorem dX8_countCard_148 : decode cX8_countCard 148 = .ok (.istore 4, 2) := by decide +kernel
theorem dX8_countCard_150 : decode cX8_countCard 150 = .ok (.iinc 6 2, 3) := by decide +kernel
theorem dX8_countCard_153 : decode cX8_countCard 153 = .ok (.goto 171, 3) := by decide +kernel
theorem dX8_countCard_156 : decode cX8_countCard 156 = .ok (.aload_n 0, 1) := by decide +kernel
theorem dX8_countCard_157 : decode cX8_countCard 157 = .ok (.iload_n 3, 1) := by decide +kernel
theorem dX8_countCard_158 : decode cX8_countCard 158 = .ok (.bipush 36, 2) := by decide +kernel
theorem dX8_countCard_160 : decode cX8_countCard 160 = .ok (.iload 7, 2) := by decide +kernel
theorem dX8_countCard_162 : decode cX8_countCard 162 = .ok (.imul, 1) := by decide +kernel
theorem dX8_countCard_163 : decode cX8_countCard 163 = .ok (.bipush 6, 2) := by decide +kernel
theorem dX8_countCard_165 : decode cX8_countCard 165 = .ok (.iload 4, 2) := by decide +kernel
theorem dX8_countCard_167 : decode cX8_countCard 167 = .ok (.imul, 1) := by decide +kernel
theorem dX8_countCard_168 : decode cX8_countCard 168 = .ok (.iadd, 1) := by decide +kernel
theorem dX8_countCard_169 : decode cX8_countCard 169 = .ok (.invokevirtual 230, 3) := by decide +kernel
theorem dX8_countCard_172 : decode cX8_countCard 172 = .ok (.iinc 6 2, 3) := by decide +kernel
theorem dX8_countCard_175 : decode cX8_countCard 175 = .ok (.goto 149, 3) := by decide +kernel
theorem dX8_countCard_178 : decode cX8_countCard 178 = .ok (.aload_n 0, 1) := by decide +kernel
theorem dX8_countCard_179 : decode cX8_countCard 179 = .ok (.iload_n 1, 1) := by decide +kernel
theorem dX8_countCard_180 : decode cX8_countCard 180 = .ok (.iload 6, 2) := by decide +kernel
theorem dX8_countCard_182 : decode cX8_countCard 182 = .ok (.iconst 1, 1) := by decide +kernel
theorem dX8_countCard_183 : decode cX8_countCard 183 = .ok (.iadd, 1) := by decide +kernel
theorem dX8_countCard_184 : decode cX8_countCard 184 = .ok (.invokevirtual 233, 3) := by decide +kernel
theorem dX8_countCard_187 : decode cX8_countCard 187 = .ok (.istore 6, 2) := by decide +kernel
theorem dX8_countCard_189 : decode cX8_countCard 189 = .ok (.goto 135, 3) := by decide +kernel
theorem dX8_countCard_192 : decode cX8_countCard 192 = .ok (.aload_n 0, 1) := by decide +kernel
theorem dX8_countCard_193 : decode cX8_countCard 193 = .ok (.getfield 37, 3) := by decide +kernel
theorem dX8_countCard_196 : decode cX8_countCard 196 = .ok (.iload 5, 2) := by decide +kernel
theorem dX8_countCard_198 : decode cX8_countCard 198 = .ok (.iconst 1, 1) := by decide +kernel
theorem dX8_countCard_199 : decode cX8_countCard 199 = .ok (.isub, 1) := by decide +kernel
theorem dX8_countCard_200 : decode cX8_countCard 200 = .ok (.dup2, 1) := by decide +kernel
theorem dX8_countCard_201 : decode cX8_countCard 201 = .ok (.iaload, 1) := by decide +kernel
theorem dX8_countCard_202 : decode cX8_countCard 202 = .ok (.iconst 1, 1) := by decide +kernel
theorem dX8_countCard_203 : decode cX8_countCard 203 = .ok (.isub, 1) := by decide +kernel
theorem dX8_countCard_204 : decode cX8_countCard 204 = .ok (.iastore, 1) := by decide +kernel
theorem dX8_countCard_205 : decode cX8_countCard 205 = .ok (.aload_n 0, 1) := by decide +kernel
theorem dX8_countCard_206 : decode cX8_countCard 206 = .ok (.getfield 37, 3) := by decide +kernel
theorem dX8_countCard_209 : decode cX8_countCard 209 = .ok (.iload 5, 2) := by decide +kernel
theorem dX8_countCard_211 : decode cX8_countCard 211 = .ok (.iconst 1, 1) := by decide +kernel
theorem dX8_countCard_212 : decode cX8_countCard 212 = .ok (.isub, 1) := by decide +kernel
theorem dX8_countCard_213 : decode cX8_countCard 213 = .ok (.iaload, 1) := by decide +kernel
theorem dX8_countCard_214 : decode cX8_countCard 214 = .ok (.ifCond .le 15, 3) := by decide +kernel
theorem dX8_countCard_217 : decode cX8_countCard 217 = .ok (.aload_n 0, 1) := by decide +kernel
theorem dX8_countCard_218 : decode cX8_countCard 218 = .ok (.getfield 34, 3) := by decide +kernel
theorem dX8_countCard_221 : decode cX8_countCard 221 = .ok (.iload 5, 2) := by decide +kernel
theorem dX8_countCard_223 : decode cX8_countCard 223 = .ok (.iconst 1, 1) := by decide +kernel
theorem dX8_countCard_224 : decode cX8_countCard 224 = .ok (.isub, 1) := by decide +kernel
theorem dX8_countCard_225 : decode cX8_countCard 225 = .ok (.iaload, 1) := by decide +kernel
theorem dX8_countCard_226 : decode cX8_countCard 226 = .ok (.goto 7, 3) := by decide +kernel
theorem dX8_countCard_229 : decode cX8_countCard 229 = .ok (.iload 6, 2) := by decide +kernel
theorem dX8_countCard_231 : decode cX8_countCard 231 = .ok (.iconst 1, 1) := by decide +kernel
theorem dX8_countCard_232 : decode cX8_countCard 232 = .ok (.iadd, 1) := by decide +kernel
theorem dX8_countCard_233 : decode cX8_countCard 233 = .ok (.istore 6, 2) := by decide +kernel
theorem dX8_countCard_235 : decode cX8_countCard 235 = .ok (.iload 5, 2) := by decide +kernel
theorem dX8_countCard_237 : decode cX8_countCard 237 = .ok (.aload_n 0, 1) := by decide +kernel
theorem dX8_countCard_238 : decode cX8_countCard 238 = .ok (.getfield 37, 3) := by decide +kernel
theorem dX8_countCard_241 : decode cX8_countCard 241 = .ok (.iload 5, 2) := by decide +kernel
theorem dX8_countCard_243 : decode cX8_countCard 243 = .ok (.iconst 1, 1) := by decide +kernel
theorem dX8_countCard_244 : decode cX8_countCard 244 = .ok (.isub, 1) := by decide +kernel
theorem dX8_countCard_245 : decode cX8_countCard 245 = .ok (.iaload, 1) := by decide +kernel
theorem dX8_countCard_246 : decode cX8_countCard 246 = .ok (.ifCond .le 7, 3) := by decide +kernel
theorem dX8_countCard_249 : decode cX8_countCard 249 = .ok (.iconst 0, 1) := by decide +kernel
theorem dX8_countCard_250 : decode cX8_countCard 250 = .ok (.goto 4, 3) := by decide +kernel
theorem dX8_countCard_253 : decode cX8_countCard 253 = .ok (.iconst 1, 1) := by decide +kernel
theorem dX8_countCard_254 : decode cX8_countCard 254 = .ok (.isub, 1) := by decide +kernel
theorem dX8_countCard_255 : decode cX8_countCard 255 = .ok (.istore 5, 2) := by decide +kernel
theorem dX8_countCard_257 : decode cX8_countCard 257 = .ok (.goto 67, 3) := by decide +kernel
theorem dX8_countCard_260 : decode cX8_countCard 260 = .ok (.aload_n 0, 1) := by decide +kernel
theorem dX8_countCard_261 : decode cX8_countCard 261 = .ok (.iload_n 1, 1) := by decide +kernel
theorem dX8_countCard_262 : decode cX8_countCard 262 = .ok (.iload 6, 2) := by decide +kernel
theorem dX8_countCard_264 : decode cX8_countCard 264 = .ok (.invokevirtual 103, 3) := by decide +kernel
theorem dX8_countCard_267 : decode cX8_countCard 267 = .ok (.bipush 120, 2) := by decide +kernel
theorem dX8_countCard_269 : decode cX8_countCard 269 = .ok (.if_icmp .ne 7, 3) := by decide +kernel
theorem dX8_countCard_272 : decode cX8_countCard 272 = .ok (.iconst 1, 1) := by decide +kernel
theorem dX8_countCard_273 : decode cX8_countCard 273 = .ok (.goto 4, 3) := by decide +kernel
theorem dX8_countCard_276 : decode cX8_countCard 276 = .ok (.iconst 0, 1) := by decide +kernel
theorem dX8_countCard_277 : decode cX8_countCard 277 = .ok (.istore 9, 2) := by decide +kernel
theorem dX8_countCard_279 : decode cX8_countCard 279 = .ok (.aload_n 0, 1) := by decide +kernel
theorem dX8_countCard_280 : decode cX8_countCard 280 = .ok (.getfield 37, 3) := by decide +kernel
theorem dX8_countCard_283 : decode cX8_countCard 283 = .ok (.iload 5, 2) := by decide +kernel
theorem dX8_countCard_285 : decode cX8_countCard 285 = .ok (.iload 9, 2) := by decide +kernel
theorem dX8_countCard_287 : decode cX8_countCard 287 = .ok (.ifCond .eq 8, 3) := by decide +kernel
theorem dX8_countCard_290 : decode cX8_countCard 290 = .ok (.iload 7, 2) := by decide +kernel
theorem dX8_countCard_292 : decode cX8_countCard 292 = .ok (.goto 4, 3) := by decide +kernel
theorem dX8_countCard_295 : decode cX8_countCard 295 = .ok (.iconst 1, 1) := by decide +kernel
theorem dX8_countCard_296 : decode cX8_countCard 296 = .ok (.iastore, 1) := by decide +kernel
theorem dX8_countCard_297 : decode cX8_countCard 297 = .ok (.iload 6, 2) := by decide +kernel
theorem dX8_countCard_299 : decode cX8_countCard 299 = .ok (.iload 9, 2) := by decide +kernel
theorem dX8_countCard_301 : decode cX8_countCard 301 = .ok (.ifCond .eq 7, 3) := by decide +kernel
theorem dX8_countCard_304 : decode cX8_countCard 304 = .ok (.iconst 3, 1) := by decide +kernel
theorem dX8_countCard_305 : decode cX8_countCard 305 = .ok (.goto 4, 3) := by decide +kernel
theorem dX8_countCard_308 : decode cX8_countCard 308 = .ok (.iconst 2, 1) := by decide +kernel
theorem dX8_countCard_309 : decode cX8_countCard 309 = .ok (.iadd, 1) := by decide +kernel
theorem dX8_countCard_310 : decode cX8_countCard 310 = .ok (.istore 6, 2) := by decide +kernel
theorem dX8_countCard_312 : decode cX8_countCard 312 = .ok (.aload_n 0, 1) := by decide +kernel
theorem dX8_countCard_313 : decode cX8_countCard 313 = .ok (.getfield 34, 3) := by decide +kernel
theorem dX8_countCard_316 : decode cX8_countCard 316 = .ok (.iload 5, 2) := by decide +kernel
theorem dX8_countCard_318 : decode cX8_countCard 318 = .ok (.iload 6, 2) := by decide +kernel
theorem dX8_countCard_320 : decode cX8_countCard 320 = .ok (.iastore, 1) := by decide +kernel
theorem dX8_countCard_321 : decode cX8_countCard 321 = .ok (.iinc 5 1, 3) := by decide +kernel
theorem dX8_countCard_324 : decode cX8_countCard 324 = .ok (.goto (-305), 3) := by decide +kernel
theorem dX8_countCard_327 : decode cX8_countCard 327 = .ok (.return_, 1) := by decide +kernel
theorem dX8_addCalled_0 : decode cX8_addCalled 0 = .ok (.iconst 0, 1) := by decide +kernel
theorem dX8_addCalled_1 : decode cX8_addCalled 1 = .ok (.istore_n 3, 1) := by decide +kernel
theorem dX8_addCalled_2 : decode cX8_addCalled 2 = .ok (.iload_n 3, 1) := by decide +kernel
theorem dX8_addCalled_3 : decode cX8_addCalled 3 = .ok (.bipush 6, 2) := by decide +kernel
theorem dX8_addCalled_5 : decode cX8_addCalled 5 = .ok (.if_icmp .ge 23, 3) := by decide +kernel
theorem dX8_addCalled_8 : decode cX8_addCalled 8 = .ok (.aload_n 0, 1) := by decide +kernel
theorem dX8_addCalled_9 : decode cX8_addCalled 9 = .ok (.iload_n 1, 1) := by decide +kernel
theorem dX8_addCalled_10 : decode cX8_addCalled 10 = .ok (.iload_n 3, 1) := by decide +kernel
theorem dX8_addCalled_11 : decode cX8_addCalled 11 = .ok (.aload_n 0, 1) := by decide +kernel
theorem dX8_addCalled_12 : decode cX8_addCalled 12 = .ok (.getfield 28, 3) := by decide +kernel
theorem dX8_addCalled_15 : decode cX8_addCalled 15 = .ok (.iload_n 2, 1) := by decide +kernel
theorem dX8_addCalled_16 : decode cX8_addCalled 16 = .ok (.iload_n 3, 1) := by decide +kernel
theorem dX8_addCalled_17 : decode cX8_addCalled 17 = .ok (.iadd, 1) := by decide +kernel
theorem dX8_addCalled_18 : decode cX8_addCalled 18 = .ok (.iaload, 1) := by decide +kernel
theorem dX8_addCalled_19 : decode cX8_addCalled 19 = .ok (.invokevirtual 226, 3) := by decide +kernel
theorem dX8_addCalled_22 : decode cX8_addCalled 22 = .ok (.iinc 3 1, 3) := by decide +kernel
theorem dX8_addCalled_25 : decode cX8_addCalled 25 = .ok (.goto (-23), 3) := by decide +kernel
theorem dX8_addCalled_28 : decode cX8_addCalled 28 = .ok (.return_, 1) := by decide +kernel
theorem dX8_areKnown_0 : decode cX8_areKnown 0 = .ok (.iconst 1, 1) := by decide +kernel
theorem dX8_areKnown_1 : decode cX8_areKnown 1 = .ok (.istore_n 2, 1) := by decide +kernel
theorem dX8_areKnown_2 : decode cX8_areKnown 2 = .ok (.iconst 0, 1) := by decide +kernel
theorem dX8_areKnown_3 : decode cX8_areKnown 3 = .ok (.istore_n 3, 1) := by decide +kernel
theorem dX8_areKnown_4 : decode cX8_areKnown 4 = .ok (.iload_n 3, 1) := by decide +kernel
theorem dX8_areKnown_5 : decode cX8_areKnown 5 = .ok (.bipush 10, 2) := by decide +kernel
theorem dX8_areKnown_7 : decode cX8_areKnown 7 = .ok (.if_icmp .ge 36, 3) := by decide +kernel
theorem dX8_areKnown_10 : decode cX8_areKnown 10 = .ok (.iload_n 2, 1) := by decide +kernel
theorem dX8_areKnown_11 : decode cX8_areKnown 11 = .ok (.ifCond .eq 24, 3) := by decide +kernel
theorem dX8_areKnown_14 : decode cX8_areKnown 14 = .ok (.iload_n 1, 1) := by decide +kernel
theorem dX8_areKnown_15 : decode cX8_areKnown 15 = .ok (.iload_n 3, 1) := by decide +kernel
theorem dX8_areKnown_16 : decode cX8_areKnown 16 = .ok (.ishr, 1) := by decide +kernel
theorem dX8_areKnown_17 : decode cX8_areKnown 17 = .ok (.iconst 1, 1) := by decide +kernel
theorem dX8_areKnown_18 : decode cX8_areKnown 18 = .ok (.iand, 1) := by decide +kernel
theorem dX8_areKnown_19 : decode cX8_areKnown 19 = .ok (.ifCond .eq 12, 3) := by decide +kernel
theorem dX8_areKnown_22 : decode cX8_areKnown 22 = .ok (.aload_n 0, 1) := by decide +kernel
theorem dX8_areKnown_23 : decode cX8_areKnown 23 = .ok (.getfield 31, 3) := by decide +kernel
theorem dX8_areKnown_26 : decode cX8_areKnown 26 = .ok (.iload_n 3, 1) := by decide +kernel
theorem dX8_areKnown_27 : decode cX8_areKnown 27 = .ok (.iaload, 1) := by decide +kernel
theorem dX8_areKnown_28 : decode cX8_areKnown 28 = .ok (.ifCond .le 7, 3) := by decide +kernel
theorem dX8_areKnown_31 : decode cX8_areKnown 31 = .ok (.iconst 1, 1) := by decide +kernel
theorem dX8_areKnown_32 : decode cX8_areKnown 32 = .ok (.goto 4, 3) := by decide +kernel
theorem dX8_areKnown_35 : decode cX8_areKnown 35 = .ok (.iconst 0, 1) := by decide +kernel
theorem dX8_areKnown_36 : decode cX8_areKnown 36 = .ok (.istore_n 2, 1) := by decide +kernel
theorem dX8_areKnown_37 : decode cX8_areKnown 37 = .ok (.iinc 3 1, 3) := by decide +kernel
theorem dX8_areKnown_40 : decode cX8_areKnown 40 = .ok (.goto (-36), 3) := by decide +kernel
theorem dX8_areKnown_43 : decode cX8_areKnown 43 = .ok (.iload_n 2, 1) := by decide +kernel
theorem dX8_areKnown_44 : decode cX8_areKnown 44 = .ok (.ireturn, 1) := by decide +kernel
theorem dX8_deepest_0 : decode cX8_deepest 0 = .ok (.iconst 0, 1) := by decide +kernel
theorem dX8_deepest_1 : decode cX8_deepest 1 = .ok (.istore_n 2, 1) := by decide +kernel
theorem dX8_deepest_2 : decode cX8_deepest 2 = .ok (.iconst 0, 1) := by decide +kernel
theorem dX8_deepest_3 : decode cX8_deepest 3 = .ok (.istore_n 3, 1) := by decide +kernel
theorem dX8_deepest_4 : decode cX8_deepest 4 = .ok (.iload_n 3, 1) := by decide +kernel
theorem dX8_deepest_5 : decode cX8_deepest 5 = .ok (.bipush 10, 2) := by decide +kernel
theorem dX8_deepest_7 : decode cX8_deepest 7 = .ok (.if_icmp .ge 39, 3) := by decide +kernel
theorem dX8_deepest_10 : decode cX8_deepest 10 = .ok (.iload_n 1, 1) := by decide +kernel
theorem dX8_deepest_11 : decode cX8_deepest 11 = .ok (.iload_n 3, 1) := by decide +kernel
theorem dX8_deepest_12 : decode cX8_deepest 12 = .ok (.ishr, 1) := by decide +kernel
theorem dX8_deepest_13 : decode cX8_deepest 13 = .ok (.iconst 1, 1) := by decide +kernel
theorem dX8_deepest_14 : decode cX8_deepest 14 = .ok (.iand, 1) := by decide +kernel
theorem dX8_deepest_15 : decode cX8_deepest 15 = .ok (.iconst 1, 1) := by decide +kernel
theorem dX8_deepest_16 : decode cX8_deepest 16 = .ok (.if_icmp .ne 22, 3) := by decide +kernel
theorem dX8_deepest_19 : decode cX8_deepest 19 = .ok (.aload_n 0, 1) := by decide +kernel
theorem dX8_deepest_20 : decode cX8_deepest 20 = .ok (.getfield 31, 3) := by decide +kernel
theorem dX8_deepest_23 : decode cX8_deepest 23 = .ok (.iload_n 3, 1) := by decide +kernel
theorem dX8_deepest_24 : decode cX8_deepest 24 = .ok (.iaload, 1) := by decide +kernel
theorem dX8_deepest_25 : decode cX8_deepest 25 = .ok (.iload_n 2, 1) := by decide +kernel
theorem dX8_deepest_26 : decode cX8_deepest 26 = .ok (.if_icmp .le 12, 3) := by decide +kernel
theorem dX8_deepest_29 : decode cX8_deepest 29 = .ok (.aload_n 0, 1) := by decide +kernel
theorem dX8_deepest_30 : decode cX8_deepest 30 = .ok (.getfield 31, 3) := by decide +kernel
theorem dX8_deepest_33 : decode cX8_deepest 33 = .ok (.iload_n 3, 1) := by decide +kernel
theorem dX8_deepest_34 : decode cX8_deepest 34 = .ok (.iaload, 1) := by decide +kernel
theorem dX8_deepest_35 : decode cX8_deepest 35 = .ok (.goto 4, 3) := by decide +kernel
theorem dX8_deepest_38 : decode cX8_deepest 38 = .ok (.iload_n 2, 1) := by decide +kernel
theorem dX8_deepest_39 : decode cX8_deepest 39 = .ok (.istore_n 2, 1) := by decide +kernel
theorem dX8_deepest_40 : decode cX8_deepest 40 = .ok (.iinc 3 1, 3) := by decide +kernel
theorem dX8_deepest_43 : decode cX8_deepest 43 = .ok (.goto (-39), 3) := by decide +kernel
theorem dX8_deepest_46 : decode cX8_deepest 46 = .ok (.iload_n 2, 1) := by decide +kernel
theorem dX8_deepest_47 : decode cX8_deepest 47 = .ok (.ireturn, 1) := by decide +kernel
theorem dX8_countAll_0 : decode cX8_countAll 0 = .ok (.iconst 0, 1) := by decide +kernel
theorem dX8_countAll_1 : decode cX8_countAll 1 = .ok (.istore_n 1, 1) := by decide +kernel
theorem dX8_countAll_2 : decode cX8_countAll 2 = .ok (.iload_n 1, 1) := by decide +kernel
theorem dX8_countAll_3 : decode cX8_countAll 3 = .ok (.sipush 360, 3) := by decide +kernel
theorem dX8_countAll_6 : decode cX8_countAll 6 = .ok (.if_icmp .ge 16, 3) := by decide +kernel
theorem dX8_countAll_9 : decode cX8_countAll 9 = .ok (.aload_n 0, 1) := by decide +kernel
theorem dX8_countAll_10 : decode cX8_countAll 10 = .ok (.getfield 28, 3) := by decide +kernel
theorem dX8_countAll_13 : decode cX8_countAll 13 = .ok (.iload_n 1, 1) := by decide +kernel
theorem dX8_countAll_14 : decode cX8_countAll 14 = .ok (.iconst 0, 1) := by decide +kernel
theorem dX8_countAll_15 : decode cX8_countAll 15 = .ok (.iastore, 1) := by decide +kernel
theorem dX8_countAll_16 : decode cX8_countAll 16 = .ok (.iinc 1 1, 3) := by decide +kernel
theorem dX8_countAll_19 : decode cX8_countAll 19 = .ok (.goto (-17), 3) := by decide +kernel
theorem dX8_countAll_22 : decode cX8_countAll 22 = .ok (.iconst 0, 1) := by decide +kernel
theorem dX8_countAll_23 : decode cX8_countAll 23 = .ok (.istore_n 1, 1) := by decide +kernel
theorem dX8_countAll_24 : decode cX8_countAll 24 = .ok (.iload_n 1, 1) := by decide +kernel
theorem dX8_countAll_25 : decode cX8_countAll 25 = .ok (.bipush 10, 2) := by decide +kernel
theorem dX8_countAll_27 : decode cX8_countAll 27 = .ok (.if_icmp .ge 16, 3) := by decide +kernel
theorem dX8_countAll_30 : decode cX8_countAll 30 = .ok (.aload_n 0, 1) := by decide +kernel
theorem dX8_countAll_31 : decode cX8_countAll 31 = .ok (.getfield 31, 3) := by decide +kernel
theorem dX8_countAll_34 : decode cX8_countAll 34 = .ok (.iload_n 1, 1) := by decide +kernel
theorem dX8_countAll_35 : decode cX8_countAll 35 = .ok (.iconst 0, 1) := by decide +kernel
theorem dX8_countAll_36 : decode cX8_countAll 36 = .ok (.iastore, 1) := by decide +kernel
theorem dX8_countAll_37 : decode cX8_countAll 37 = .ok (.iinc 1 1, 3) := by decide +kernel
theorem dX8_countAll_40 : decode cX8_countAll 40 = .ok (.goto (-16), 3) := by decide +kernel
theorem dX8_countAll_43 : decode cX8_countAll 43 = .ok (.iconst 0, 1) := by decide +kernel
theorem dX8_countAll_44 : decode cX8_countAll 44 = .ok (.istore_n 1, 1) := by decide +kernel
theorem dX8_countAll_45 : decode cX8_countAll 45 = .ok (.iload_n 1, 1) := by decide +kernel
theorem dX8_countAll_46 : decode cX8_countAll 46 = .ok (.bipush 10, 2) := by decide +kernel
theorem dX8_countAll_48 : decode cX8_countAll 48 = .ok (.if_icmp .ge 89, 3) := by decide +kernel
theorem dX8_countAll_51 : decode cX8_countAll 51 = .ok (.iconst 0, 1) := by decide +kernel
theorem dX8_countAll_52 : decode cX8_countAll 52 = .ok (.istore_n 2, 1) := by decide +kernel
theorem dX8_countAll_53 : decode cX8_countAll 53 = .ok (.iload_n 2, 1) := by decide +kernel
theorem dX8_countAll_54 : decode cX8_countAll 54 = .ok (.bipush 10, 2) := by decide +kernel
theorem dX8_countAll_56 : decode cX8_countAll 56 = .ok (.if_icmp .ge 75, 3) := by decide +kernel
theorem dX8_countAll_59 : decode cX8_countAll 59 = .ok (.aload_n 0, 1) := by decide +kernel
theorem dX8_countAll_60 : decode cX8_countAll 60 = .ok (.getfield 31, 3) := by decide +kernel
theorem dX8_countAll_63 : decode cX8_countAll 63 = .ok (.iload_n 2, 1) := by decide +kernel
theorem dX8_countAll_64 : decode cX8_countAll 64 = .ok (.iaload, 1) := by decide +kernel
theorem dX8_countAll_65 : decode cX8_countAll 65 = .ok (.ifCond .ne 60, 3) := by decide +kernel
theorem dX8_countAll_68 : decode cX8_countAll 68 = .ok (.aload_n 0, 1) := by decide +kernel
theorem dX8_countAll_69 : decode cX8_countAll 69 = .ok (.iload_n 2, 1) := by decide +kernel
theorem dX8_countAll_70 : decode cX8_countAll 70 = .ok (.invokevirtual 100, 3) := by decide +kernel
theorem dX8_countAll_73 : decode cX8_countAll 73 = .ok (.ifCond .eq 52, 3) := by decide +kernel
theorem dX8_countAll_76 : decode cX8_countAll 76 = .ok (.aload_n 0, 1) := by decide +kernel
theorem dX8_countAll_77 : decode cX8_countAll 77 = .ok (.aload_n 0, 1) := by decide +kernel
theorem dX8_countAll_78 : decode cX8_countAll 78 = .ok (.iload_n 2, 1) := by decide +kernel
theorem dX8_countAll_79 : decode cX8_countAll 79 = .ok (.invokevirtual 110, 3) := by decide +kernel
theorem dX8_countAll_82 : decode cX8_countAll 82 = .ok (.invokevirtual 236, 3) := by decide +kernel
theorem dX8_countAll_85 : decode cX8_countAll 85 = .ok (.ifCond .eq 40, 3) := by decide +kernel
theorem dX8_countAll_88 : decode cX8_countAll 88 = .ok (.iconst 0, 1) := by decide +kernel
theorem dX8_countAll_89 : decode cX8_countAll 89 = .ok (.istore_n 3, 1) := by decide +kernel
theorem dX8_countAll_90 : decode cX8_countAll 90 = .ok (.iload_n 3, 1) := by decide +kernel
theorem dX8_countAll_91 : decode cX8_countAll 91 = .ok (.bipush 6, 2) := by decide +kernel
theorem dX8_countAll_93 : decode cX8_countAll 93 = .ok (.if_icmp .ge 15, 3) := by decide +kernel
theorem dX8_countAll_96 : decode cX8_countAll 96 = .ok (.aload_n 0, 1) := by decide +kernel
theorem dX8_countAll_97 : decode cX8_countAll 97 = .ok (.iload_n 2, 1) := by decide +kernel
theorem dX8_countAll_98 : decode cX8_countAll 98 = .ok (.iload_n 3, 1) := by decide +kernel
theorem dX8_countAll_99 : decode cX8_countAll 99 = .ok (.invokevirtual 239, 3) := by decide +kernel
theorem dX8_countAll_102 : decode cX8_countAll 102 = .ok (.iinc 3 1, 3) := by decide +kernel
theorem dX8_countAll_105 : decode cX8_countAll 105 = .ok (.goto (-15), 3) := by decide +kernel
theorem dX8_countAll_108 : decode cX8_countAll 108 = .ok (.aload_n 0, 1) := by decide +kernel
theorem dX8_countAll_109 : decode cX8_countAll 109 = .ok (.getfield 31, 3) := by decide +kernel
theorem dX8_countAll_112 : decode cX8_countAll 112 = .ok (.iload_n 2, 1) := by decide +kernel
theorem dX8_countAll_113 : decode cX8_countAll 113 = .ok (.iconst 1, 1) := by decide +kernel
theorem dX8_countAll_114 : decode cX8_countAll 114 = .ok (.aload_n 0, 1) := by decide +kernel
theorem dX8_countAll_115 : decode cX8_countAll 115 = .ok (.aload_n 0, 1) := by decide +kernel
theorem dX8_countAll_116 : decode cX8_countAll 116 = .ok (.iload_n 2, 1) := by decide +kernel
theorem dX8_countAll_117 : decode cX8_countAll 117 = .ok (.invokevirtual 110, 3) := by decide +kernel
theorem dX8_countAll_120 : decode cX8_countAll 120 = .ok (.invokevirtual 242, 3) := by decide +kernel
theorem dX8_countAll_123 : decode cX8_countAll 123 = .ok (.iadd, 1) := by decide +kernel
theorem dX8_countAll_124 : decode cX8_countAll 124 = .ok (.iastore, 1) := by decide +kernel
theorem dX8_countAll_125 : decode cX8_countAll 125 = .ok (.iinc 2 1, 3) := by decide +kernel
theorem dX8_countAll_128 : decode cX8_countAll 128 = .ok (.goto (-75), 3) := by decide +kernel
theorem dX8_countAll_131 : decode cX8_countAll 131 = .ok (.iinc 1 1, 3) := by decide +kernel
theorem dX8_countAll_134 : decode cX8_countAll 134 = .ok (.goto (-89), 3) := by decide +kernel
theorem dX8_countAll_137 : decode cX8_countAll 137 = .ok (.return_, 1) := by decide +kernel
theorem dX8_whyNot_0 : decode cX8_whyNot 0 = .ok (.aload_n 0, 1) := by decide +kernel
theorem dX8_whyNot_1 : decode cX8_whyNot 1 = .ok (.iload_n 1, 1) := by decide +kernel
theorem dX8_whyNot_2 : decode cX8_whyNot 2 = .ok (.invokevirtual 114, 3) := by decide +kernel
theorem dX8_whyNot_5 : decode cX8_whyNot 5 = .ok (.iconst 1, 1) := by decide +kernel
theorem dX8_whyNot_6 : decode cX8_whyNot 6 = .ok (.iload_n 1, 1) := by decide +kernel
theorem dX8_whyNot_7 : decode cX8_whyNot 7 = .ok (.ishl, 1) := by decide +kernel
theorem dX8_whyNot_8 : decode cX8_whyNot 8 = .ok (.ior, 1) := by decide +kernel
theorem dX8_whyNot_9 : decode cX8_whyNot 9 = .ok (.istore_n 2, 1) := by decide +kernel
theorem dX8_whyNot_10 : decode cX8_whyNot 10 = .ok (.iconst 0, 1) := by decide +kernel
theorem dX8_whyNot_11 : decode cX8_whyNot 11 = .ok (.istore_n 3, 1) := by decide +kernel
theorem dX8_whyNot_12 : decode cX8_whyNot 12 = .ok (.iconst 0, 1) := by decide +kernel
theorem dX8_whyNot_13 : decode cX8_whyNot 13 = .ok (.istore 4, 2) := by decide +kernel
theorem dX8_whyNot_15 : decode cX8_whyNot 15 = .ok (.iload 4, 2) := by decide +kernel
theorem dX8_whyNot_17 : decode cX8_whyNot 17 = .ok (.bipush 10, 2) := by decide +kernel
theorem dX8_whyNot_19 : decode cX8_whyNot 19 = .ok (.if_icmp .ge 66, 3) := by decide +kernel
theorem dX8_whyNot_22 : decode cX8_whyNot 22 = .ok (.iload_n 2, 1) := by decide +kernel
theorem dX8_whyNot_23 : decode cX8_whyNot 23 = .ok (.iload 4, 2) := by decide +kernel
theorem dX8_whyNot_25 : decode cX8_whyNot 25 = .ok (.ishr, 1) := by decide +kernel
theorem dX8_whyNot_26 : decode cX8_whyNot 26 = .ok (.iconst 1, 1) := by decide +kernel
theorem dX8_whyNot_27 : decode cX8_whyNot 27 = .ok (.iand, 1) := by decide +kernel
theorem dX8_whyNot_28 : decode cX8_whyNot 28 = .ok (.iconst 1, 1) := by decide +kernel
theorem dX8_whyNot_29 : decode cX8_whyNot 29 = .ok (.if_icmp .ne 15, 3) := by decide +kernel
theorem dX8_whyNot_32 : decode cX8_whyNot 32 = .ok (.aload_n 0, 1) := by decide +kernel
theorem dX8_whyNot_33 : decode cX8_whyNot 33 = .ok (.iload 4, 2) := by decide +kernel
theorem dX8_whyNot_35 : decode cX8_whyNot 35 = .ok (.invokevirtual 100, 3) := by decide +kernel
theorem dX8_whyNot_38 : decode cX8_whyNot 38 = .ok (.ifCond .ne 6, 3) := by decide +kernel
theorem dX8_whyNot_41 : decode cX8_whyNot 41 = .ok (.bipush (-5), 2) := by decide +kernel
theorem dX8_whyNot_43 : decode cX8_whyNot 43 = .ok (.ireturn, 1) := by decide +kernel
theorem dX8_whyNot_44 : decode cX8_whyNot 44 = .ok (.iload_n 3, 1) := by decide +kernel
theorem dX8_whyNot_45 : decode cX8_whyNot 45 = .ok (.ifCond .ne 28, 3) := by decide +kernel
theorem dX8_whyNot_48 : decode cX8_whyNot 48 = .ok (.iload_n 2, 1) := by decide +kernel
theorem dX8_whyNot_49 : decode cX8_whyNot 49 = .ok (.iload 4, 2) := by decide +kernel
theorem dX8_whyNot_51 : decode cX8_whyNot 51 = .ok (.ishr, 1) := by decide +kernel
theorem dX8_whyNot_52 : decode cX8_whyNot 52 = .ok (.iconst 1, 1) := by decide +kernel
theorem dX8_whyNot_53 : decode cX8_whyNot 53 = .ok (.iand, 1) := by decide +kernel
theorem dX8_whyNot_54 : decode cX8_whyNot 54 = .ok (.iconst 1, 1) := by decide +kernel
theorem dX8_whyNot_55 : decode cX8_whyNot 55 = .ok (.if_icmp .ne 22, 3) := by decide +kernel
theorem dX8_whyNot_58 : decode cX8_whyNot 58 = .ok (.aload_n 0, 1) := by decide +kernel
theorem dX8_whyNot_59 : decode cX8_whyNot 59 = .ok (.iload 4, 2) := by decide +kernel
theorem dX8_whyNot_61 : decode cX8_whyNot 61 = .ok (.invokevirtual 114, 3) := by decide +kernel
theorem dX8_whyNot_64 : decode cX8_whyNot 64 = .ok (.iload 4, 2) := by decide +kernel
theorem dX8_whyNot_66 : decode cX8_whyNot 66 = .ok (.ishr, 1) := by decide +kernel
theorem dX8_whyNot_67 : decode cX8_whyNot 67 = .ok (.iconst 1, 1) := by decide +kernel
theorem dX8_whyNot_68 : decode cX8_whyNot 68 = .ok (.iand, 1) := by decide +kernel
theorem dX8_whyNot_69 : decode cX8_whyNot 69 = .ok (.iconst 1, 1) := by decide +kernel
theorem dX8_whyNot_70 : decode cX8_whyNot 70 = .ok (.if_icmp .ne 7, 3) := by decide +kernel
theorem dX8_whyNot_73 : decode cX8_whyNot 73 = .ok (.iconst 1, 1) := by decide +kernel
theorem dX8_whyNot_74 : decode cX8_whyNot 74 = .ok (.goto 4, 3) := by decide +kernel
theorem dX8_whyNot_77 : decode cX8_whyNot 77 = .ok (.iconst 0, 1) := by decide +kernel
theorem dX8_whyNot_78 : decode cX8_whyNot 78 = .ok (.istore_n 3, 1) := by decide +kernel
theorem dX8_whyNot_79 : decode cX8_whyNot 79 = .ok (.iinc 4 1, 3) := by decide +kernel
theorem dX8_whyNot_82 : decode cX8_whyNot 82 = .ok (.goto (-67), 3) := by decide +kernel
theorem dX8_whyNot_85 : decode cX8_whyNot 85 = .ok (.iload_n 3, 1) := by decide +kernel
theorem dX8_whyNot_86 : decode cX8_whyNot 86 = .ok (.ifCond .eq 8, 3) := by decide +kernel
theorem dX8_whyNot_89 : decode cX8_whyNot 89 = .ok (.bipush (-6), 2) := by decide +kernel
theorem dX8_whyNot_91 : decode cX8_whyNot 91 = .ok (.goto 4, 3) := by decide +kernel
theorem dX8_whyNot_94 : decode cX8_whyNot 94 = .ok (.iconst 0, 1) := by decide +kernel
theorem dX8_whyNot_95 : decode cX8_whyNot 95 = .ok (.ireturn, 1) := by decide +kernel
theorem dX8_tellsPicks_0 : decode cX8_tellsPicks 0 = .ok (.aload_n 0, 1) := by decide +kernel
theorem dX8_tellsPicks_1 : decode cX8_tellsPicks 1 = .ok (.invokevirtual 245, 3) := by decide +kernel
theorem dX8_tellsPicks_4 : decode cX8_tellsPicks 4 = .ok (.iconst 0, 1) := by decide +kernel
theorem dX8_tellsPicks_5 : decode cX8_tellsPicks 5 = .ok (.istore_n 3, 1) := by decide +kernel
theorem dX8_tellsPicks_6 : decode cX8_tellsPicks 6 = .ok (.iconst 0, 1) := by decide +kernel
theorem dX8_tellsPicks_7 : decode cX8_tellsPicks 7 = .ok (.istore 4, 2) := by decide +kernel
theorem dX8_tellsPicks_9 : decode cX8_tellsPicks 9 = .ok (.iload 4, 2) := by decide +kernel
theorem dX8_tellsPicks_11 : decode cX8_tellsPicks 11 = .ok (.bipush 6, 2) := by decide +kernel
theorem dX8_tellsPicks_13 : decode cX8_tellsPicks 13 = .ok (.if_icmp .ge 40, 3) := by decide +kernel
theorem dX8_tellsPicks_16 : decode cX8_tellsPicks 16 = .ok (.iload_n 3, 1) := by decide +kernel
theorem dX8_tellsPicks_17 : decode cX8_tellsPicks 17 = .ok (.iload_n 2, 1) := by decide +kernel
theorem dX8_tellsPicks_18 : decode cX8_tellsPicks 18 = .ok (.bipush (-6), 2) := by decide +kernel
theorem dX8_tellsPicks_20 : decode cX8_tellsPicks 20 = .ok (.if_icmp .eq 9, 3) := by decide +kernel
theorem dX8_tellsPicks_23 : decode cX8_tellsPicks 23 = .ok (.iload_n 2, 1) := by decide +kernel
theorem dX8_tellsPicks_24 : decode cX8_tellsPicks 24 = .ok (.iload 4, 2) := by decide +kernel
theorem dX8_tellsPicks_26 : decode cX8_tellsPicks 26 = .ok (.if_icmp .ne 18, 3) := by decide +kernel
theorem dX8_tellsPicks_29 : decode cX8_tellsPicks 29 = .ok (.aload_n 0, 1) := by decide +kernel
theorem dX8_tellsPicks_30 : decode cX8_tellsPicks 30 = .ok (.getfield 28, 3) := by decide +kernel
theorem dX8_tellsPicks_33 : decode cX8_tellsPicks 33 = .ok (.bipush 36, 2) := by decide +kernel
theorem dX8_tellsPicks_35 : decode cX8_tellsPicks 35 = .ok (.iload_n 1, 1) := by decide +kernel
theorem dX8_tellsPicks_36 : decode cX8_tellsPicks 36 = .ok (.imul, 1) := by decide +kernel
theorem dX8_tellsPicks_37 : decode cX8_tellsPicks 37 = .ok (.iload 4, 2) := by decide +kernel
theorem dX8_tellsPicks_39 : decode cX8_tellsPicks 39 = .ok (.iadd, 1) := by decide +kernel
theorem dX8_tellsPicks_40 : decode cX8_tellsPicks 40 = .ok (.iaload, 1) := by decide +kernel
theorem dX8_tellsPicks_41 : decode cX8_tellsPicks 41 = .ok (.goto 4, 3) := by decide +kernel
theorem dX8_tellsPicks_44 : decode cX8_tellsPicks 44 = .ok (.iconst 0, 1) := by decide +kernel
theorem dX8_tellsPicks_45 : decode cX8_tellsPicks 45 = .ok (.iadd, 1) := by decide +kernel
theorem dX8_tellsPicks_46 : decode cX8_tellsPicks 46 = .ok (.istore_n 3, 1) := by decide +kernel
theorem dX8_tellsPicks_47 : decode cX8_tellsPicks 47 = .ok (.iinc 4 1, 3) := by decide +kernel
theorem dX8_tellsPicks_50 : decode cX8_tellsPicks 50 = .ok (.goto (-41), 3) := by decide +kernel
theorem dX8_tellsPicks_53 : decode cX8_tellsPicks 53 = .ok (.iload_n 3, 1) := by decide +kernel
theorem dX8_tellsPicks_54 : decode cX8_tellsPicks 54 = .ok (.ldc 218, 2) := by decide +kernel
theorem dX8_tellsPicks_56 : decode cX8_tellsPicks 56 = .ok (.if_icmp .le 8, 3) := by decide +kernel
theorem dX8_tellsPicks_59 : decode cX8_tellsPicks 59 = .ok (.ldc 218, 2) := by decide +kernel
theorem dX8_tellsPicks_61 : decode cX8_tellsPicks 61 = .ok (.goto 4, 3) := by decide +kernel
theorem dX8_tellsPicks_64 : decode cX8_tellsPicks 64 = .ok (.iload_n 3, 1) := by decide +kernel
theorem dX8_tellsPicks_65 : decode cX8_tellsPicks 65 = .ok (.ireturn, 1) := by decide +kernel
theorem dX8_picks_0 : decode cX8_picks 0 = .ok (.iload_n 1, 1) := by decide +kernel
theorem dX8_picks_1 : decode cX8_picks 1 = .ok (.invokestatic 97, 3) := by decide +kernel
theorem dX8_picks_4 : decode cX8_picks 4 = .ok (.ifCond .ne 5, 3) := by decide +kernel
theorem dX8_picks_7 : decode cX8_picks 7 = .ok (.iconst (-1), 1) := by decide +kernel
theorem dX8_picks_8 : decode cX8_picks 8 = .ok (.ireturn, 1) := by decide +kernel
theorem dX8_picks_9 : decode cX8_picks 9 = .ok (.iload_n 2, 1) := by decide +kernel
theorem dX8_picks_10 : decode cX8_picks 10 = .ok (.invokestatic 191, 3) := by decide +kernel
theorem dX8_picks_13 : decode cX8_picks 13 = .ok (.ifCond .ne 12, 3) := by decide +kernel
theorem dX8_picks_16 : decode cX8_picks 16 = .ok (.iload_n 2, 1) := by decide +kernel
theorem dX8_picks_17 : decode cX8_picks 17 = .ok (.bipush (-6), 2) := by decide +kernel
theorem dX8_picks_19 : decode cX8_picks 19 = .ok (.if_icmp .eq 6, 3) := by decide +kernel
theorem dX8_picks_22 : decode cX8_picks 22 = .ok (.bipush (-2), 2) := by decide +kernel
theorem dX8_picks_24 : decode cX8_picks 24 = .ok (.ireturn, 1) := by decide +kernel
theorem dX8_picks_25 : decode cX8_picks 25 = .ok (.aload_n 0, 1) := by decide +kernel
theorem dX8_picks_26 : decode cX8_picks 26 = .ok (.iload_n 1, 1) := by decide +kernel
theorem dX8_picks_27 : decode cX8_picks 27 = .ok (.invokevirtual 248, 3) := by decide +kernel
theorem dX8_picks_30 : decode cX8_picks 30 = .ok (.istore_n 3, 1) := by decide +kernel
theorem dX8_picks_31 : decode cX8_picks 31 = .ok (.iload_n 3, 1) := by decide +kernel
theorem dX8_picks_32 : decode cX8_picks 32 = .ok (.ifCond .eq 7, 3) := by decide +kernel
theorem dX8_picks_35 : decode cX8_picks 35 = .ok (.iload_n 3, 1) := by decide +kernel
theorem dX8_picks_36 : decode cX8_picks 36 = .ok (.goto 9, 3) := by decide +kernel
theorem dX8_picks_39 : decode cX8_picks 39 = .ok (.aload_n 0, 1) := by decide +kernel
theorem dX8_picks_40 : decode cX8_picks 40 = .ok (.iload_n 1, 1) := by decide +kernel
theorem dX8_picks_41 : decode cX8_picks 41 = .ok (.iload_n 2, 1) := by decide +kernel
theorem dX8_picks_42 : decode cX8_picks 42 = .ok (.invokevirtual 251, 3) := by decide +kernel
theorem dX8_picks_45 : decode cX8_picks 45 = .ok (.ireturn, 1) := by decide +kernel
theorem dX8_tellsDepth_0 : decode cX8_tellsDepth 0 = .ok (.aload_n 0, 1) := by decide +kernel
theorem dX8_tellsDepth_1 : decode cX8_tellsDepth 1 = .ok (.invokevirtual 245, 3) := by decide +kernel
theorem dX8_tellsDepth_4 : decode cX8_tellsDepth 4 = .ok (.aload_n 0, 1) := by decide +kernel
theorem dX8_tellsDepth_5 : decode cX8_tellsDepth 5 = .ok (.getfield 31, 3) := by decide +kernel
theorem dX8_tellsDepth_8 : decode cX8_tellsDepth 8 = .ok (.iload_n 1, 1) := by decide +kernel
theorem dX8_tellsDepth_9 : decode cX8_tellsDepth 9 = .ok (.iaload, 1) := by decide +kernel
theorem dX8_tellsDepth_10 : decode cX8_tellsDepth 10 = .ok (.ireturn, 1) := by decide +kernel
theorem dX8_depth_0 : decode cX8_depth 0 = .ok (.iload_n 1, 1) := by decide +kernel
theorem dX8_depth_1 : decode cX8_depth 1 = .ok (.invokestatic 97, 3) := by decide +kernel
theorem dX8_depth_4 : decode cX8_depth 4 = .ok (.ifCond .ne 5, 3) := by decide +kernel
theorem dX8_depth_7 : decode cX8_depth 7 = .ok (.iconst (-1), 1) := by decide +kernel
theorem dX8_depth_8 : decode cX8_depth 8 = .ok (.ireturn, 1) := by decide +kernel
theorem dX8_depth_9 : decode cX8_depth 9 = .ok (.aload_n 0, 1) := by decide +kernel
theorem dX8_depth_10 : decode cX8_depth 10 = .ok (.iload_n 1, 1) := by decide +kernel
theorem dX8_depth_11 : decode cX8_depth 11 = .ok (.invokevirtual 248, 3) := by decide +kernel
theorem dX8_depth_14 : decode cX8_depth 14 = .ok (.istore_n 2, 1) := by decide +kernel
theorem dX8_depth_15 : decode cX8_depth 15 = .ok (.iload_n 2, 1) := by decide +kernel
theorem dX8_depth_16 : decode cX8_depth 16 = .ok (.ifCond .eq 7, 3) := by decide +kernel
theorem dX8_depth_19 : decode cX8_depth 19 = .ok (.iload_n 2, 1) := by decide +kernel
theorem dX8_depth_20 : decode cX8_depth 20 = .ok (.goto 8, 3) := by decide +kernel
theorem dX8_depth_23 : decode cX8_depth 23 = .ok (.aload_n 0, 1) := by decide +kernel
theorem dX8_depth_24 : decode cX8_depth 24 = .ok (.iload_n 1, 1) := by decide +kernel
theorem dX8_depth_25 : decode cX8_depth 25 = .ok (.invokevirtual 254, 3) := by decide +kernel
theorem dX8_depth_28 : decode cX8_depth 28 = .ok (.ireturn, 1) := by decide +kernel
theorem dX8_tellsStop_0 : decode cX8_tellsStop 0 = .ok (.aload_n 0, 1) := by decide +kernel
theorem dX8_tellsStop_1 : decode cX8_tellsStop 1 = .ok (.invokevirtual 48, 3) := by decide +kernel
theorem dX8_tellsStop_4 : decode cX8_tellsStop 4 = .ok (.aload_n 0, 1) := by decide +kernel
theorem dX8_tellsStop_5 : decode cX8_tellsStop 5 = .ok (.sipush 999, 3) := by decide +kernel
theorem dX8_tellsStop_8 : decode cX8_tellsStop 8 = .ok (.invokevirtual 188, 3) := by decide +kernel
theorem dX8_tellsStop_11 : decode cX8_tellsStop 11 = .ok (.istore_n 2, 1) := by decide +kernel
theorem dX8_tellsStop_12 : decode cX8_tellsStop 12 = .ok (.aload_n 0, 1) := by decide +kernel
theorem dX8_tellsStop_13 : decode cX8_tellsStop 13 = .ok (.getfield 7, 3) := by decide +kernel
theorem dX8_tellsStop_16 : decode cX8_tellsStop 16 = .ok (.bipush 8, 2) := by decide +kernel
theorem dX8_tellsStop_18 : decode cX8_tellsStop 18 = .ok (.iaload, 1) := by decide +kernel
theorem dX8_tellsStop_19 : decode cX8_tellsStop 19 = .ok (.istore_n 3, 1) := by decide +kernel
theorem dX8_tellsStop_20 : decode cX8_tellsStop 20 = .ok (.aload_n 0, 1) := by decide +kernel
theorem dX8_tellsStop_21 : decode cX8_tellsStop 21 = .ok (.getfield 7, 3) := by decide +kernel
theorem dX8_tellsStop_24 : decode cX8_tellsStop 24 = .ok (.iconst 3, 1) := by decide +kernel
theorem dX8_tellsStop_25 : decode cX8_tellsStop 25 = .ok (.iaload, 1) := by decide +kernel
theorem dX8_tellsStop_26 : decode cX8_tellsStop 26 = .ok (.ifCond .ne 8, 3) := by decide +kernel
theorem dX8_tellsStop_29 : decode cX8_tellsStop 29 = .ok (.bipush (-6), 2) := by decide +kernel
theorem dX8_tellsStop_31 : decode cX8_tellsStop 31 = .ok (.goto 8, 3) := by decide +kernel
theorem dX8_tellsStop_34 : decode cX8_tellsStop 34 = .ok (.aload_n 0, 1) := by decide +kernel
theorem dX8_tellsStop_35 : decode cX8_tellsStop 35 = .ok (.iconst 0, 1) := by decide +kernel
theorem dX8_tellsStop_36 : decode cX8_tellsStop 36 = .ok (.invokevirtual 129, 3) := by decide +kernel
theorem dX8_tellsStop_39 : decode cX8_tellsStop 39 = .ok (.istore 4, 2) := by decide +kernel
theorem dX8_tellsStop_41 : decode cX8_tellsStop 41 = .ok (.aload_n 0, 1) := by decide +kernel
theorem dX8_tellsStop_42 : decode cX8_tellsStop 42 = .ok (.invokevirtual 257, 3) := by decide +kernel
theorem dX8_tellsStop_45 : decode cX8_tellsStop 45 = .ok (.iload_n 3, 1) := by decide +kernel
theorem dX8_tellsStop_46 : decode cX8_tellsStop 46 = .ok (.ifCond .ne 8, 3) := by decide +kernel
theorem dX8_tellsStop_49 : decode cX8_tellsStop 49 = .ok (.bipush (-6), 2) := by decide +kernel
theorem dX8_tellsStop_51 : decode cX8_tellsStop 51 = .ok (.goto 22, 3) := by decide +kernel
theorem dX8_tellsStop_54 : decode cX8_tellsStop 54 = .ok (.iload_n 1, 1) := by decide +kernel
theorem dX8_tellsStop_55 : decode cX8_tellsStop 55 = .ok (.ifCond .ne 7, 3) := by decide +kernel
theorem dX8_tellsStop_58 : decode cX8_tellsStop 58 = .ok (.iload_n 2, 1) := by decide +kernel
theorem dX8_tellsStop_59 : decode cX8_tellsStop 59 = .ok (.goto 14, 3) := by decide +kernel
theorem dX8_tellsStop_62 : decode cX8_tellsStop 62 = .ok (.iload_n 1, 1) := by decide +kernel
theorem dX8_tellsStop_63 : decode cX8_tellsStop 63 = .ok (.iconst 1, 1) := by decide +kernel
theorem dX8_tellsStop_64 : decode cX8_tellsStop 64 = .ok (.if_icmp .ne 7, 3) := by decide +kernel
theorem dX8_tellsStop_67 : decode cX8_tellsStop 67 = .ok (.iload_n 3, 1) := by decide +kernel
theorem dX8_tellsStop_68 : decode cX8_tellsStop 68 = .ok (.goto 5, 3) := by decide +kernel
theorem dX8_tellsStop_71 : decode cX8_tellsStop 71 = .ok (.iload 4, 2) := by decide +kernel
theorem dX8_tellsStop_73 : decode cX8_tellsStop 73 = .ok (.ireturn, 1) := by decide +kernel
theorem dX8_stop_0 : decode cX8_stop 0 = .ok (.iload_n 1, 1) := by decide +kernel
theorem dX8_stop_1 : decode cX8_stop 1 = .ok (.iconst 0, 1) := by decide +kernel
theorem dX8_stop_2 : decode cX8_stop 2 = .ok (.iconst 2, 1) := by decide +kernel
theorem dX8_stop_3 : decode cX8_stop 3 = .ok (.invokestatic 40, 3) := by decide +kernel
theorem dX8_stop_6 : decode cX8_stop 6 = .ok (.ifCond .eq 11, 3) := by decide +kernel
theorem dX8_stop_9 : decode cX8_stop 9 = .ok (.aload_n 0, 1) := by decide +kernel
theorem dX8_stop_10 : decode cX8_stop 10 = .ok (.iload_n 1, 1) := by decide +kernel
theorem dX8_stop_11 : decode cX8_stop 11 = .ok (.invokevirtual 260, 3) := by decide +kernel
theorem dX8_stop_14 : decode cX8_stop 14 = .ok (.goto 5, 3) := by decide +kernel
theorem dX8_stop_17 : decode cX8_stop 17 = .ok (.bipush (-2), 2) := by decide +kernel
theorem dX8_stop_19 : decode cX8_stop 19 = .ok (.ireturn, 1) := by decide +kernel
theorem dX8_tellsAhead_0 : decode cX8_tellsAhead 0 = .ok (.aload_n 0, 1) := by decide +kernel
theorem dX8_tellsAhead_1 : decode cX8_tellsAhead 1 = .ok (.invokevirtual 48, 3) := by decide +kernel
theorem dX8_tellsAhead_4 : decode cX8_tellsAhead 4 = .ok (.aload_n 0, 1) := by decide +kernel
theorem dX8_tellsAhead_5 : decode cX8_tellsAhead 5 = .ok (.iload_n 1, 1) := by decide +kernel
theorem dX8_tellsAhead_6 : decode cX8_tellsAhead 6 = .ok (.invokevirtual 188, 3) := by decide +kernel
theorem dX8_tellsAhead_9 : decode cX8_tellsAhead 9 = .ok (.istore_n 2, 1) := by decide +kernel
theorem dX8_tellsAhead_10 : decode cX8_tellsAhead 10 = .ok (.iload_n 2, 1) := by decide +kernel
theorem dX8_tellsAhead_11 : decode cX8_tellsAhead 11 = .ok (.iload_n 1, 1) := by decide +kernel
theorem dX8_tellsAhead_12 : decode cX8_tellsAhead 12 = .ok (.if_icmp .ne 23, 3) := by decide +kernel
theorem dX8_tellsAhead_15 : decode cX8_tellsAhead 15 = .ok (.aload_n 0, 1) := by decide +kernel
theorem dX8_tellsAhead_16 : decode cX8_tellsAhead 16 = .ok (.getfield 7, 3) := by decide +kernel
theorem dX8_tellsAhead_19 : decode cX8_tellsAhead 19 = .ok (.sipush 853, 3) := by decide +kernel
theorem dX8_tellsAhead_22 : decode cX8_tellsAhead 22 = .ok (.aload_n 0, 1) := by decide +kernel
theorem dX8_tellsAhead_23 : decode cX8_tellsAhead 23 = .ok (.getfield 7, 3) := by decide +kernel
theorem dX8_tellsAhead_26 : decode cX8_tellsAhead 26 = .ok (.iconst 4, 1) := by decide +kernel
theorem dX8_tellsAhead_27 : decode cX8_tellsAhead 27 = .ok (.iaload, 1) := by decide +kernel
theorem dX8_tellsAhead_28 : decode cX8_tellsAhead 28 = .ok (.iadd, 1) := by decide +kernel
theorem dX8_tellsAhead_29 : decode cX8_tellsAhead 29 = .ok (.iconst 1, 1) := by decide +kernel
theorem dX8_tellsAhead_30 : decode cX8_tellsAhead 30 = .ok (.isub, 1) := by decide +kernel
theorem dX8_tellsAhead_31 : decode cX8_tellsAhead 31 = .ok (.iaload, 1) := by decide +kernel
theorem dX8_tellsAhead_32 : decode cX8_tellsAhead 32 = .ok (.goto 5, 3) := by decide +kernel
theorem dX8_tellsAhead_35 : decode cX8_tellsAhead 35 = .ok (.bipush (-6), 2) := by decide +kernel
theorem dX8_tellsAhead_37 : decode cX8_tellsAhead 37 = .ok (.istore_n 3, 1) := by decide +kernel
theorem dX8_tellsAhead_38 : decode cX8_tellsAhead 38 = .ok (.aload_n 0, 1) := by decide +kernel
theorem dX8_tellsAhead_39 : decode cX8_tellsAhead 39 = .ok (.invokevirtual 257, 3) := by decide +kernel
theorem dX8_tellsAhead_42 : decode cX8_tellsAhead 42 = .ok (.iload_n 3, 1) := by decide +kernel
theorem dX8_tellsAhead_43 : decode cX8_tellsAhead 43 = .ok (.ireturn, 1) := by decide +kernel
theorem dX8_ahead_0 : decode cX8_ahead 0 = .ok (.iload_n 1, 1) := by decide +kernel
theorem dX8_ahead_1 : decode cX8_ahead 1 = .ok (.iconst 1, 1) := by decide +kernel
theorem dX8_ahead_2 : decode cX8_ahead 2 = .ok (.bipush 99, 2) := by decide +kernel
theorem dX8_ahead_4 : decode cX8_ahead 4 = .ok (.invokestatic 40, 3) := by decide +kernel
theorem dX8_ahead_7 : decode cX8_ahead 7 = .ok (.ifCond .eq 11, 3) := by decide +kernel
theorem dX8_ahead_10 : decode cX8_ahead 10 = .ok (.aload_n 0, 1) := by decide +kernel
theorem dX8_ahead_11 : decode cX8_ahead 11 = .ok (.iload_n 1, 1) := by decide +kernel
theorem dX8_ahead_12 : decode cX8_ahead 12 = .ok (.invokevirtual 263, 3) := by decide +kernel
theorem dX8_ahead_15 : decode cX8_ahead 15 = .ok (.goto 5, 3) := by decide +kernel
theorem dX8_ahead_18 : decode cX8_ahead 18 = .ok (.bipush (-2), 2) := by decide +kernel
theorem dX8_ahead_20 : decode cX8_ahead 20 = .ok (.ireturn, 1) := by decide +kernel
