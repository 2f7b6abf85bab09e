theorem dX8_init_0 : decode cX8_init 0 = .ok (.aload_n 0, 1) := by decide +kernel
theorem dX8_init_1 : decode cX8_init 1 = .ok (.invokespecial 3, 3) := by decide +kernel
theorem dX8_init_4 : decode cX8_init 4 = .ok (.aload_n 0, 1) := by decide +kernel
theorem dX8_init_5 : decode cX8_init 5 = .ok (.iload_n 1, 1) := by decide +kernel
theorem dX8_init_6 : decode cX8_init 6 = .ok (.putfield 9, 3) := by decide +kernel
theorem dX8_init_9 : decode cX8_init 9 = .ok (.aload_n 0, 1) := by decide +kernel
theorem dX8_init_10 : decode cX8_init 10 = .ok (.iload_n 2, 1) := by decide +kernel
theorem dX8_init_11 : decode cX8_init 11 = .ok (.putfield 15, 3) := by decide +kernel
theorem dX8_init_14 : decode cX8_init 14 = .ok (.aload_n 0, 1) := by decide +kernel
theorem dX8_init_15 : decode cX8_init 15 = .ok (.iload_n 3, 1) := by decide +kernel
theorem dX8_init_16 : decode cX8_init 16 = .ok (.putfield 18, 3) := by decide +kernel
theorem dX8_init_19 : decode cX8_init 19 = .ok (.aload_n 0, 1) := by decide +kernel
theorem dX8_init_20 : decode cX8_init 20 = .ok (.iload 4, 2) := by decide +kernel
theorem dX8_init_22 : decode cX8_init 22 = .ok (.putfield 21, 3) := by decide +kernel
theorem dX8_init_25 : decode cX8_init 25 = .ok (.aload_n 0, 1) := by decide +kernel
theorem dX8_init_26 : decode cX8_init 26 = .ok (.iload 5, 2) := by decide +kernel
theorem dX8_init_28 : decode cX8_init 28 = .ok (.putfield 24, 3) := by decide +kernel
theorem dX8_init_31 : decode cX8_init 31 = .ok (.aload_n 0, 1) := by decide +kernel
theorem dX8_init_32 : decode cX8_init 32 = .ok (.aload 6, 2) := by decide +kernel
theorem dX8_init_34 : decode cX8_init 34 = .ok (.putfield 27, 3) := by decide +kernel
theorem dX8_init_37 : decode cX8_init 37 = .ok (.aload_n 0, 1) := by decide +kernel
theorem dX8_init_38 : decode cX8_init 38 = .ok (.aload 7, 2) := by decide +kernel
theorem dX8_init_40 : decode cX8_init 40 = .ok (.putfield 31, 3) := by decide +kernel
theorem dX8_init_43 : decode cX8_init 43 = .ok (.aload_n 0, 1) := by decide +kernel
theorem dX8_init_44 : decode cX8_init 44 = .ok (.iload 5, 2) := by decide +kernel
theorem dX8_init_46 : decode cX8_init 46 = .ok (.putfield 35, 3) := by decide +kernel
theorem dX8_init_49 : decode cX8_init 49 = .ok (.aload_n 0, 1) := by decide +kernel
theorem dX8_init_50 : decode cX8_init 50 = .ok (.aload 6, 2) := by decide +kernel
theorem dX8_init_52 : decode cX8_init 52 = .ok (.invokestatic 38, 3) := by decide +kernel
theorem dX8_init_55 : decode cX8_init 55 = .ok (.putfield 42, 3) := by decide +kernel
theorem dX8_init_58 : decode cX8_init 58 = .ok (.aload_n 0, 1) := by decide +kernel
theorem dX8_init_59 : decode cX8_init 59 = .ok (.aload_n 0, 1) := by decide +kernel
theorem dX8_init_60 : decode cX8_init 60 = .ok (.getfield 42, 3) := by decide +kernel
theorem dX8_init_63 : decode cX8_init 63 = .ok (.invokestatic 46, 3) := by decide +kernel
theorem dX8_init_66 : decode cX8_init 66 = .ok (.putfield 50, 3) := by decide +kernel
theorem dX8_init_69 : decode cX8_init 69 = .ok (.aload_n 0, 1) := by decide +kernel
theorem dX8_init_70 : decode cX8_init 70 = .ok (.iload_n 2, 1) := by decide +kernel
theorem dX8_init_71 : decode cX8_init 71 = .ok (.iconst 3, 1) := by decide +kernel
theorem dX8_init_72 : decode cX8_init 72 = .ok (.if_icmp .ne 9, 3) := by decide +kernel
theorem dX8_init_75 : decode cX8_init 75 = .ok (.iconst 4, 1) := by decide +kernel
theorem dX8_init_76 : decode cX8_init 76 = .ok (.newarray .int, 2) := by decide +kernel
theorem dX8_init_78 : decode cX8_init 78 = .ok (.goto 6, 3) := by decide +kernel
theorem dX8_init_81 : decode cX8_init 81 = .ok (.getstatic 53, 3) := by decide +kernel
theorem dX8_init_84 : decode cX8_init 84 = .ok (.putfield 56, 3) := by decide +kernel
theorem dX8_init_87 : decode cX8_init 87 = .ok (.aload_n 0, 1) := by decide +kernel
theorem dX8_init_88 : decode cX8_init 88 = .ok (.iload_n 2, 1) := by decide +kernel
theorem dX8_init_89 : decode cX8_init 89 = .ok (.iconst 3, 1) := by decide +kernel
theorem dX8_init_90 : decode cX8_init 90 = .ok (.if_icmp .ne 9, 3) := by decide +kernel
theorem dX8_init_93 : decode cX8_init 93 = .ok (.iconst 4, 1) := by decide +kernel
theorem dX8_init_94 : decode cX8_init 94 = .ok (.newarray .int, 2) := by decide +kernel
theorem dX8_init_96 : decode cX8_init 96 = .ok (.goto 6, 3) := by decide +kernel
theorem dX8_init_99 : decode cX8_init 99 = .ok (.getstatic 53, 3) := by decide +kernel
theorem dX8_init_102 : decode cX8_init 102 = .ok (.putfield 59, 3) := by decide +kernel
theorem dX8_init_105 : decode cX8_init 105 = .ok (.aload_n 0, 1) := by decide +kernel
theorem dX8_init_106 : decode cX8_init 106 = .ok (.iload_n 2, 1) := by decide +kernel
theorem dX8_init_107 : decode cX8_init 107 = .ok (.iconst 3, 1) := by decide +kernel
theorem dX8_init_108 : decode cX8_init 108 = .ok (.if_icmp .ne 10, 3) := by decide +kernel
theorem dX8_init_111 : decode cX8_init 111 = .ok (.bipush 30, 2) := by decide +kernel
theorem dX8_init_113 : decode cX8_init 113 = .ok (.newarray .int, 2) := by decide +kernel
theorem dX8_init_115 : decode cX8_init 115 = .ok (.goto 6, 3) := by decide +kernel
theorem dX8_init_118 : decode cX8_init 118 = .ok (.getstatic 53, 3) := by decide +kernel
theorem dX8_init_121 : decode cX8_init 121 = .ok (.putfield 62, 3) := by decide +kernel
theorem dX8_init_124 : decode cX8_init 124 = .ok (.aload_n 0, 1) := by decide +kernel
theorem dX8_init_125 : decode cX8_init 125 = .ok (.iload_n 2, 1) := by decide +kernel
theorem dX8_init_126 : decode cX8_init 126 = .ok (.iconst 3, 1) := by decide +kernel
theorem dX8_init_127 : decode cX8_init 127 = .ok (.if_icmp .ne 10, 3) := by decide +kernel
theorem dX8_init_130 : decode cX8_init 130 = .ok (.bipush 20, 2) := by decide +kernel
theorem dX8_init_132 : decode cX8_init 132 = .ok (.newarray .int, 2) := by decide +kernel
theorem dX8_init_134 : decode cX8_init 134 = .ok (.goto 6, 3) := by decide +kernel
theorem dX8_init_137 : decode cX8_init 137 = .ok (.getstatic 53, 3) := by decide +kernel
theorem dX8_init_140 : decode cX8_init 140 = .ok (.putfield 65, 3) := by decide +kernel
theorem dX8_init_143 : decode cX8_init 143 = .ok (.return_, 1) := by decide +kernel
theorem dX8_countWords_0 : decode cX8_countWords 0 = .ok (.iconst 0, 1) := by decide +kernel
theorem dX8_countWords_1 : decode cX8_countWords 1 = .ok (.istore_n 1, 1) := by decide +kernel
theorem dX8_countWords_2 : decode cX8_countWords 2 = .ok (.iconst 0, 1) := by decide +kernel
theorem dX8_countWords_3 : decode cX8_countWords 3 = .ok (.istore_n 2, 1) := by decide +kernel
theorem dX8_countWords_4 : decode cX8_countWords 4 = .ok (.iload_n 2, 1) := by decide +kernel
theorem dX8_countWords_5 : decode cX8_countWords 5 = .ok (.aload_n 0, 1) := by decide +kernel
theorem dX8_countWords_6 : decode cX8_countWords 6 = .ok (.arraylength, 1) := by decide +kernel
theorem dX8_countWords_7 : decode cX8_countWords 7 = .ok (.if_icmp .ge 20, 3) := by decide +kernel
theorem dX8_countWords_10 : decode cX8_countWords 10 = .ok (.aload_n 0, 1) := by decide +kernel
theorem dX8_countWords_11 : decode cX8_countWords 11 = .ok (.iload_n 2, 1) := by decide +kernel
theorem dX8_countWords_12 : decode cX8_countWords 12 = .ok (.laload, 1) := by decide +kernel
theorem dX8_countWords_13 : decode cX8_countWords 13 = .ok (.lconst 0, 1) := by decide +kernel
theorem dX8_countWords_14 : decode cX8_countWords 14 = .ok (.lcmp, 1) := by decide +kernel
theorem dX8_countWords_15 : decode cX8_countWords 15 = .ok (.ifCond .eq 6, 3) := by decide +kernel
theorem dX8_countWords_18 : decode cX8_countWords 18 = .ok (.iinc 1 1, 3) := by decide +kernel
theorem dX8_countWords_21 : decode cX8_countWords 21 = .ok (.iinc 2 1, 3) := by decide +kernel
theorem dX8_countWords_24 : decode cX8_countWords 24 = .ok (.goto (-20), 3) := by decide +kernel
theorem dX8_countWords_27 : decode cX8_countWords 27 = .ok (.iload_n 1, 1) := by decide +kernel
theorem dX8_countWords_28 : decode cX8_countWords 28 = .ok (.ireturn, 1) := by decide +kernel
theorem dX8_shardIn_0 : decode cX8_shardIn 0 = .ok (.aload_n 0, 1) := by decide +kernel
theorem dX8_shardIn_1 : decode cX8_shardIn 1 = .ok (.getfield 15, 3) := by decide +kernel
theorem dX8_shardIn_4 : decode cX8_shardIn 4 = .ok (.iconst 2, 1) := by decide +kernel
theorem dX8_shardIn_5 : decode cX8_shardIn 5 = .ok (.if_icmp .ne 10, 3) := by decide +kernel
theorem dX8_shardIn_8 : decode cX8_shardIn 8 = .ok (.aload_n 0, 1) := by decide +kernel
theorem dX8_shardIn_9 : decode cX8_shardIn 9 = .ok (.getfield 21, 3) := by decide +kernel
theorem dX8_shardIn_12 : decode cX8_shardIn 12 = .ok (.goto 11, 3) := by decide +kernel
theorem dX8_shardIn_15 : decode cX8_shardIn 15 = .ok (.aload_n 1, 1) := by decide +kernel
theorem dX8_shardIn_16 : decode cX8_shardIn 16 = .ok (.aload_n 0, 1) := by decide +kernel
theorem dX8_shardIn_17 : decode cX8_shardIn 17 = .ok (.getfield 21, 3) := by decide +kernel
theorem dX8_shardIn_20 : decode cX8_shardIn 20 = .ok (.invokevirtual 68, 3) := by decide +kernel
theorem dX8_shardIn_23 : decode cX8_shardIn 23 = .ok (.ireturn, 1) := by decide +kernel
theorem dX8_toldHits_0 : decode cX8_toldHits 0 = .ok (.aload_n 0, 1) := by decide +kernel
theorem dX8_toldHits_1 : decode cX8_toldHits 1 = .ok (.getfield 15, 3) := by decide +kernel
theorem dX8_toldHits_4 : decode cX8_toldHits 4 = .ok (.iconst 3, 1) := by decide +kernel
theorem dX8_toldHits_5 : decode cX8_toldHits 5 = .ok (.if_icmp .ne 18, 3) := by decide +kernel
theorem dX8_toldHits_8 : decode cX8_toldHits 8 = .ok (.aload_n 0, 1) := by decide +kernel
theorem dX8_toldHits_9 : decode cX8_toldHits 9 = .ok (.getfield 74, 3) := by decide +kernel
theorem dX8_toldHits_12 : decode cX8_toldHits 12 = .ok (.iconst 1, 1) := by decide +kernel
theorem dX8_toldHits_13 : decode cX8_toldHits 13 = .ok (.if_icmp .ne 10, 3) := by decide +kernel
theorem dX8_toldHits_16 : decode cX8_toldHits 16 = .ok (.aload_n 0, 1) := by decide +kernel
theorem dX8_toldHits_17 : decode cX8_toldHits 17 = .ok (.getfield 77, 3) := by decide +kernel
theorem dX8_toldHits_20 : decode cX8_toldHits 20 = .ok (.goto 4, 3) := by decide +kernel
theorem dX8_toldHits_23 : decode cX8_toldHits 23 = .ok (.iconst 0, 1) := by decide +kernel
theorem dX8_toldHits_24 : decode cX8_toldHits 24 = .ok (.ireturn, 1) := by decide +kernel
theorem dX8_age_0 : decode cX8_age 0 = .ok (.aload_n 1, 1) := by decide +kernel
theorem dX8_age_1 : decode cX8_age 1 = .ok (.getfield 80, 3) := by decide +kernel
theorem dX8_age_4 : decode cX8_age 4 = .ok (.aload_n 0, 1) := by decide +kernel
theorem dX8_age_5 : decode cX8_age 5 = .ok (.getfield 24, 3) := by decide +kernel
theorem dX8_age_8 : decode cX8_age 8 = .ok (.isub, 1) := by decide +kernel
theorem dX8_age_9 : decode cX8_age 9 = .ok (.bipush 40, 2) := by decide +kernel
theorem dX8_age_11 : decode cX8_age 11 = .ok (.if_icmp .lt 11, 3) := by decide +kernel
theorem dX8_age_14 : decode cX8_age 14 = .ok (.aload_n 0, 1) := by decide +kernel
theorem dX8_age_15 : decode cX8_age 15 = .ok (.iconst 2, 1) := by decide +kernel
theorem dX8_age_16 : decode cX8_age 16 = .ok (.putfield 74, 3) := by decide +kernel
theorem dX8_age_19 : decode cX8_age 19 = .ok (.goto 63, 3) := by decide +kernel
theorem dX8_age_22 : decode cX8_age 22 = .ok (.aload_n 1, 1) := by decide +kernel
theorem dX8_age_23 : decode cX8_age 23 = .ok (.getfield 80, 3) := by decide +kernel
theorem dX8_age_26 : decode cX8_age 26 = .ok (.aload_n 0, 1) := by decide +kernel
theorem dX8_age_27 : decode cX8_age 27 = .ok (.getfield 35, 3) := by decide +kernel
theorem dX8_age_30 : decode cX8_age 30 = .ok (.isub, 1) := by decide +kernel
theorem dX8_age_31 : decode cX8_age 31 = .ok (.bipush 8, 2) := by decide +kernel
theorem dX8_age_33 : decode cX8_age 33 = .ok (.if_icmp .lt 49, 3) := by decide +kernel
theorem dX8_age_36 : decode cX8_age 36 = .ok (.aload_n 0, 1) := by decide +kernel
theorem dX8_age_37 : decode cX8_age 37 = .ok (.dup, 1) := by decide +kernel
theorem dX8_age_38 : decode cX8_age 38 = .ok (.getfield 83, 3) := by decide +kernel
theorem dX8_age_41 : decode cX8_age 41 = .ok (.iconst 1, 1) := by decide +kernel
theorem dX8_age_42 : decode cX8_age 42 = .ok (.iadd, 1) := by decide +kernel
theorem dX8_age_43 : decode cX8_age 43 = .ok (.putfield 83, 3) := by decide +kernel
theorem dX8_age_46 : decode cX8_age 46 = .ok (.aload_n 0, 1) := by decide +kernel
theorem dX8_age_47 : decode cX8_age 47 = .ok (.aload_n 1, 1) := by decide +kernel
theorem dX8_age_48 : decode cX8_age 48 = .ok (.getfield 80, 3) := by decide +kernel
theorem dX8_age_51 : decode cX8_age 51 = .ok (.putfield 35, 3) := by decide +kernel
theorem dX8_age_54 : decode cX8_age 54 = .ok (.aload_n 1, 1) := by decide +kernel
theorem dX8_age_55 : decode cX8_age 55 = .ok (.aload_n 0, 1) := by decide +kernel
theorem dX8_age_56 : decode cX8_age 56 = .ok (.getfield 18, 3) := by decide +kernel
theorem dX8_age_59 : decode cX8_age 59 = .ok (.aload_n 1, 1) := by decide +kernel
theorem dX8_age_60 : decode cX8_age 60 = .ok (.getfield 86, 3) := by decide +kernel
theorem dX8_age_63 : decode cX8_age 63 = .ok (.iconst 1, 1) := by decide +kernel
theorem dX8_age_64 : decode cX8_age 64 = .ok (.invokevirtual 89, 3) := by decide +kernel
theorem dX8_age_67 : decode cX8_age 67 = .ok (.aload_n 0, 1) := by decide +kernel
theorem dX8_age_68 : decode cX8_age 68 = .ok (.getfield 9, 3) := by decide +kernel
theorem dX8_age_71 : decode cX8_age 71 = .ok (.aload_n 0, 1) := by decide +kernel
theorem dX8_age_72 : decode cX8_age 72 = .ok (.getfield 83, 3) := by decide +kernel
theorem dX8_age_75 : decode cX8_age 75 = .ok (.iconst 0, 1) := by decide +kernel
theorem dX8_age_76 : decode cX8_age 76 = .ok (.iconst 0, 1) := by decide +kernel
theorem dX8_age_77 : decode cX8_age 77 = .ok (.iconst 0, 1) := by decide +kernel
theorem dX8_age_78 : decode cX8_age 78 = .ok (.invokevirtual 93, 3) := by decide +kernel
theorem dX8_age_81 : decode cX8_age 81 = .ok (.pop, 1) := by decide +kernel
theorem dX8_age_82 : decode cX8_age 82 = .ok (.return_, 1) := by decide +kernel
theorem dX8_onAnswer_0 : decode cX8_onAnswer 0 = .ok (.aload_n 3, 1) := by decide +kernel
theorem dX8_onAnswer_1 : decode cX8_onAnswer 1 = .ok (.getfield 99, 3) := by decide +kernel
theorem dX8_onAnswer_4 : decode cX8_onAnswer 4 = .ok (.iconst 2, 1) := by decide +kernel
theorem dX8_onAnswer_5 : decode cX8_onAnswer 5 = .ok (.if_icmp .ne 20, 3) := by decide +kernel
theorem dX8_onAnswer_8 : decode cX8_onAnswer 8 = .ok (.aload_n 0, 1) := by decide +kernel
theorem dX8_onAnswer_9 : decode cX8_onAnswer 9 = .ok (.getfield 15, 3) := by decide +kernel
theorem dX8_onAnswer_12 : decode cX8_onAnswer 12 = .ok (.iconst 3, 1) := by decide +kernel
theorem dX8_onAnswer_13 : decode cX8_onAnswer 13 = .ok (.if_icmp .ne 12, 3) := by decide +kernel
theorem dX8_onAnswer_16 : decode cX8_onAnswer 16 = .ok (.aload_n 0, 1) := by decide +kernel
theorem dX8_onAnswer_17 : decode cX8_onAnswer 17 = .ok (.aload_n 1, 1) := by decide +kernel
theorem dX8_onAnswer_18 : decode cX8_onAnswer 18 = .ok (.aload_n 3, 1) := by decide +kernel
theorem dX8_onAnswer_19 : decode cX8_onAnswer 19 = .ok (.invokevirtual 100, 3) := by decide +kernel
theorem dX8_onAnswer_22 : decode cX8_onAnswer 22 = .ok (.goto 109, 3) := by decide +kernel
theorem dX8_onAnswer_25 : decode cX8_onAnswer 25 = .ok (.aload_n 3, 1) := by decide +kernel
theorem dX8_onAnswer_26 : decode cX8_onAnswer 26 = .ok (.getfield 99, 3) := by decide +kernel
theorem dX8_onAnswer_29 : decode cX8_onAnswer 29 = .ok (.iconst 2, 1) := by decide +kernel
theorem dX8_onAnswer_30 : decode cX8_onAnswer 30 = .ok (.if_icmp .ne 63, 3) := by decide +kernel
theorem dX8_onAnswer_33 : decode cX8_onAnswer 33 = .ok (.aload_n 3, 1) := by decide +kernel
theorem dX8_onAnswer_34 : decode cX8_onAnswer 34 = .ok (.getfield 104, 3) := by decide +kernel
theorem dX8_onAnswer_37 : decode cX8_onAnswer 37 = .ok (.iconst 5, 1) := by decide +kernel
theorem dX8_onAnswer_38 : decode cX8_onAnswer 38 = .ok (.iconst 3, 1) := by decide +kernel
theorem dX8_onAnswer_39 : decode cX8_onAnswer 39 = .ok (.aload_n 0, 1) := by decide +kernel
theorem dX8_onAnswer_40 : decode cX8_onAnswer 40 = .ok (.aload_n 1, 1) := by decide +kernel
theorem dX8_onAnswer_41 : decode cX8_onAnswer 41 = .ok (.invokevirtual 107, 3) := by decide +kernel
theorem dX8_onAnswer_44 : decode cX8_onAnswer 44 = .ok (.imul, 1) := by decide +kernel
theorem dX8_onAnswer_45 : decode cX8_onAnswer 45 = .ok (.iadd, 1) := by decide +kernel
theorem dX8_onAnswer_46 : decode cX8_onAnswer 46 = .ok (.iconst 1, 1) := by decide +kernel
theorem dX8_onAnswer_47 : decode cX8_onAnswer 47 = .ok (.iadd, 1) := by decide +kernel
theorem dX8_onAnswer_48 : decode cX8_onAnswer 48 = .ok (.iaload, 1) := by decide +kernel
theorem dX8_onAnswer_49 : decode cX8_onAnswer 49 = .ok (.istore 4, 2) := by decide +kernel
theorem dX8_onAnswer_51 : decode cX8_onAnswer 51 = .ok (.aload_n 1, 1) := by decide +kernel
theorem dX8_onAnswer_52 : decode cX8_onAnswer 52 = .ok (.aload_n 0, 1) := by decide +kernel
theorem dX8_onAnswer_53 : decode cX8_onAnswer 53 = .ok (.getfield 18, 3) := by decide +kernel
theorem dX8_onAnswer_56 : decode cX8_onAnswer 56 = .ok (.iload 4, 2) := by decide +kernel
theorem dX8_onAnswer_58 : decode cX8_onAnswer 58 = .ok (.aload_n 0, 1) := by decide +kernel
theorem dX8_onAnswer_59 : decode cX8_onAnswer 59 = .ok (.getfield 15, 3) := by decide +kernel
theorem dX8_onAnswer_62 : decode cX8_onAnswer 62 = .ok (.iconst 2, 1) := by decide +kernel
theorem dX8_onAnswer_63 : decode cX8_onAnswer 63 = .ok (.if_icmp .ne 8, 3) := by decide +kernel
theorem dX8_onAnswer_66 : decode cX8_onAnswer 66 = .ok (.bipush 17, 2) := by decide +kernel
theorem dX8_onAnswer_68 : decode cX8_onAnswer 68 = .ok (.goto 4, 3) := by decide +kernel
theorem dX8_onAnswer_71 : decode cX8_onAnswer 71 = .ok (.iconst 3, 1) := by decide +kernel
theorem dX8_onAnswer_72 : decode cX8_onAnswer 72 = .ok (.invokevirtual 89, 3) := by decide +kernel
theorem dX8_onAnswer_75 : decode cX8_onAnswer 75 = .ok (.aload_n 0, 1) := by decide +kernel
theorem dX8_onAnswer_76 : decode cX8_onAnswer 76 = .ok (.getfield 9, 3) := by decide +kernel
theorem dX8_onAnswer_79 : decode cX8_onAnswer 79 = .ok (.aload_n 0, 1) := by decide +kernel
theorem dX8_onAnswer_80 : decode cX8_onAnswer 80 = .ok (.getfield 83, 3) := by decide +kernel
theorem dX8_onAnswer_83 : decode cX8_onAnswer 83 = .ok (.iconst 0, 1) := by decide +kernel
theorem dX8_onAnswer_84 : decode cX8_onAnswer 84 = .ok (.iconst 0, 1) := by decide +kernel
theorem dX8_onAnswer_85 : decode cX8_onAnswer 85 = .ok (.iconst 0, 1) := by decide +kernel
theorem dX8_onAnswer_86 : decode cX8_onAnswer 86 = .ok (.invokevirtual 93, 3) := by decide +kernel
theorem dX8_onAnswer_89 : decode cX8_onAnswer 89 = .ok (.pop, 1) := by decide +kernel
theorem dX8_onAnswer_90 : decode cX8_onAnswer 90 = .ok (.goto 41, 3) := by decide +kernel
theorem dX8_onAnswer_93 : decode cX8_onAnswer 93 = .ok (.aload_n 3, 1) := by decide +kernel
theorem dX8_onAnswer_94 : decode cX8_onAnswer 94 = .ok (.getfield 99, 3) := by decide +kernel
theorem dX8_onAnswer_97 : decode cX8_onAnswer 97 = .ok (.iconst 4, 1) := by decide +kernel
theorem dX8_onAnswer_98 : decode cX8_onAnswer 98 = .ok (.if_icmp .ne 11, 3) := by decide +kernel
theorem dX8_onAnswer_101 : decode cX8_onAnswer 101 = .ok (.aload_n 0, 1) := by decide +kernel
theorem dX8_onAnswer_102 : decode cX8_onAnswer 102 = .ok (.iconst 1, 1) := by decide +kernel
theorem dX8_onAnswer_103 : decode cX8_onAnswer 103 = .ok (.putfield 111, 3) := by decide +kernel
theorem dX8_onAnswer_106 : decode cX8_onAnswer 106 = .ok (.goto 25, 3) := by decide +kernel
theorem dX8_onAnswer_109 : decode cX8_onAnswer 109 = .ok (.aload_n 0, 1) := by decide +kernel
theorem dX8_onAnswer_110 : decode cX8_onAnswer 110 = .ok (.getfield 15, 3) := by decide +kernel
theorem dX8_onAnswer_113 : decode cX8_onAnswer 113 = .ok (.iconst 3, 1) := by decide +kernel
theorem dX8_onAnswer_114 : decode cX8_onAnswer 114 = .ok (.if_icmp .ne 17, 3) := by decide +kernel
theorem dX8_onAnswer_117 : decode cX8_onAnswer 117 = .ok (.aload_n 0, 1) := by decide +kernel
theorem dX8_onAnswer_118 : decode cX8_onAnswer 118 = .ok (.getfield 111, 3) := by decide +kernel
theorem dX8_onAnswer_121 : decode cX8_onAnswer 121 = .ok (.ifCond .ne 10, 3) := by decide +kernel
theorem dX8_onAnswer_124 : decode cX8_onAnswer 124 = .ok (.aload_n 0, 1) := by decide +kernel
theorem dX8_onAnswer_125 : decode cX8_onAnswer 125 = .ok (.aload_n 1, 1) := by decide +kernel
theorem dX8_onAnswer_126 : decode cX8_onAnswer 126 = .ok (.iload_n 2, 1) := by decide +kernel
theorem dX8_onAnswer_127 : decode cX8_onAnswer 127 = .ok (.aload_n 3, 1) := by decide +kernel
theorem dX8_onAnswer_128 : decode cX8_onAnswer 128 = .ok (.invokevirtual 115, 3) := by decide +kernel
theorem dX8_onAnswer_131 : decode cX8_onAnswer 131 = .ok (.return_, 1) := by decide +kernel
theorem dX8_openAll_0 : decode cX8_openAll 0 = .ok (.aload_n 0, 1) := by decide +kernel
theorem dX8_openAll_1 : decode cX8_openAll 1 = .ok (.iconst 0, 1) := by decide +kernel
theorem dX8_openAll_2 : decode cX8_openAll 2 = .ok (.putfield 111, 3) := by decide +kernel
theorem dX8_openAll_5 : decode cX8_openAll 5 = .ok (.aload_n 0, 1) := by decide +kernel
theorem dX8_openAll_6 : decode cX8_openAll 6 = .ok (.iconst 0, 1) := by decide +kernel
theorem dX8_openAll_7 : decode cX8_openAll 7 = .ok (.putfield 119, 3) := by decide +kernel
theorem dX8_openAll_10 : decode cX8_openAll 10 = .ok (.aload_n 0, 1) := by decide +kernel
theorem dX8_openAll_11 : decode cX8_openAll 11 = .ok (.iconst 0, 1) := by decide +kernel
theorem dX8_openAll_12 : decode cX8_openAll 12 = .ok (.putfield 122, 3) := by decide +kernel
theorem dX8_openAll_15 : decode cX8_openAll 15 = .ok (.aload_n 0, 1) := by decide +kernel
theorem dX8_openAll_16 : decode cX8_openAll 16 = .ok (.iconst 0, 1) := by decide +kernel
theorem dX8_openAll_17 : decode cX8_openAll 17 = .ok (.putfield 77, 3) := by decide +kernel
theorem dX8_openAll_20 : decode cX8_openAll 20 = .ok (.aload_n 0, 1) := by decide +kernel
theorem dX8_openAll_21 : decode cX8_openAll 21 = .ok (.getfield 62, 3) := by decide +kernel
theorem dX8_openAll_24 : decode cX8_openAll 24 = .ok (.iconst 0, 1) := by decide +kernel
theorem dX8_openAll_25 : decode cX8_openAll 25 = .ok (.invokestatic 125, 3) := by decide +kernel
theorem dX8_openAll_28 : decode cX8_openAll 28 = .ok (.iconst 0, 1) := by decide +kernel
theorem dX8_openAll_29 : decode cX8_openAll 29 = .ok (.istore_n 3, 1) := by decide +kernel
theorem dX8_openAll_30 : decode cX8_openAll 30 = .ok (.iload_n 3, 1) := by decide +kernel
theorem dX8_openAll_31 : decode cX8_openAll 31 = .ok (.aload_n 1, 1) := by decide +kernel
theorem dX8_openAll_32 : decode cX8_openAll 32 = .ok (.getfield 131, 3) := by decide +kernel
theorem dX8_openAll_35 : decode cX8_openAll 35 = .ok (.if_icmp .ge 62, 3) := by decide +kernel
theorem dX8_openAll_38 : decode cX8_openAll 38 = .ok (.aload_n 2, 1) := by decide +kernel
theorem dX8_openAll_39 : decode cX8_openAll 39 = .ok (.getfield 104, 3) := by decide +kernel
theorem dX8_openAll_42 : decode cX8_openAll 42 = .ok (.iconst 5, 1) := by decide +kernel
theorem dX8_openAll_43 : decode cX8_openAll 43 = .ok (.iconst 3, 1) := by decide +kernel
theorem dX8_openAll_44 : decode cX8_openAll 44 = .ok (.iload_n 3, 1) := by decide +kernel
theorem dX8_openAll_45 : decode cX8_openAll 45 = .ok (.imul, 1) := by decide +kernel
theorem dX8_openAll_46 : decode cX8_openAll 46 = .ok (.iadd, 1) := by decide +kernel
theorem dX8_openAll_47 : decode cX8_openAll 47 = .ok (.iconst 2, 1) := by decide +kernel
theorem dX8_openAll_48 : decode cX8_openAll 48 = .ok (.iadd, 1) := by decide +kernel
theorem dX8_openAll_49 : decode cX8_openAll 49 = .ok (.iaload, 1) := by decide +kernel
theorem dX8_openAll_50 : decode cX8_openAll 50 = .ok (.istore 4, 2) := by decide +kernel
theorem dX8_openAll_52 : decode cX8_openAll 52 = .ok (.aload_n 0, 1) := by decide +kernel
theorem dX8_openAll_53 : decode cX8_openAll 53 = .ok (.aload_n 1, 1) := by decide +kernel
theorem dX8_openAll_54 : decode cX8_openAll 54 = .ok (.getfield 86, 3) := by decide +kernel
theorem dX8_openAll_57 : decode cX8_openAll 57 = .ok (.iload 4, 2) := by decide +kernel
theorem dX8_openAll_59 : decode cX8_openAll 59 = .ok (.invokevirtual 134, 3) := by decide +kernel
theorem dX8_openAll_62 : decode cX8_openAll 62 = .ok (.istore 5, 2) := by decide +kernel
theorem dX8_openAll_64 : decode cX8_openAll 64 = .ok (.aload_n 1, 1) := by decide +kernel
theorem dX8_openAll_65 : decode cX8_openAll 65 = .ok (.aload_n 0, 1) := by decide +kernel
theorem dX8_openAll_66 : decode cX8_openAll 66 = .ok (.getfield 18, 3) := by decide +kernel
theorem dX8_openAll_69 : decode cX8_openAll 69 = .ok (.iload 5, 2) := by decide +kernel
theorem dX8_openAll_71 : decode cX8_openAll 71 = .ok (.bipush 19, 2) := by decide +kernel
theorem dX8_openAll_73 : decode cX8_openAll 73 = .ok (.invokevirtual 89, 3) := by decide +kernel
theorem dX8_openAll_76 : decode cX8_openAll 76 = .ok (.aload_n 0, 1) := by decide +kernel
theorem dX8_openAll_77 : decode cX8_openAll 77 = .ok (.getfield 9, 3) := by decide +kernel
theorem dX8_openAll_80 : decode cX8_openAll 80 = .ok (.aload_n 0, 1) := by decide +kernel
theorem dX8_openAll_81 : decode cX8_openAll 81 = .ok (.getfield 83, 3) := by decide +kernel
theorem dX8_openAll_84 : decode cX8_openAll 84 = .ok (.iload_n 3, 1) := by decide +kernel
theorem dX8_openAll_85 : decode cX8_openAll 85 = .ok (.iconst 0, 1) := by decide +kernel
theorem dX8_openAll_86 : decode cX8_openAll 86 = .ok (.iconst 0, 1) := by decide +kernel
theorem dX8_openAll_87 : decode cX8_openAll 87 = .ok (.invokevirtual 93, 3) := by decide +kernel
theorem dX8_openAll_90 : decode cX8_openAll 90 = .ok (.pop, 1) := by decide +kernel
theorem dX8_openAll_91 : decode cX8_openAll 91 = .ok (.iinc 3 1, 3) := by decide +kernel
theorem dX8_openAll_94 : decode cX8_openAll 94 = .ok (.goto (-64), 3) := by decide +kernel
theorem dX8_openAll_97 : decode cX8_openAll 97 = .ok (.return_, 1) := by decide +kernel
theorem dX8_chosen_0 : decode cX8_chosen 0 = .ok (.iload_n 2, 1) := by decide +kernel
theorem dX8_chosen_1 : decode cX8_chosen 1 = .ok (.invokestatic 138, 3) := by decide +kernel
theorem dX8_chosen_4 : decode cX8_chosen 4 = .ok (.istore_n 3, 1) := by decide +kernel
theorem dX8_chosen_5 : decode cX8_chosen 5 = .ok (.iload_n 3, 1) := by decide +kernel
theorem dX8_chosen_6 : decode cX8_chosen 6 = .ok (.ifCond .le 17, 3) := by decide +kernel
theorem dX8_chosen_9 : decode cX8_chosen 9 = .ok (.aload_n 0, 1) := by decide +kernel
theorem dX8_chosen_10 : decode cX8_chosen 10 = .ok (.getfield 9, 3) := by decide +kernel
theorem dX8_chosen_13 : decode cX8_chosen 13 = .ok (.aload_n 0, 1) := by decide +kernel
theorem dX8_chosen_14 : decode cX8_chosen 14 = .ok (.getfield 83, 3) := by decide +kernel
theorem dX8_chosen_17 : decode cX8_chosen 17 = .ok (.iadd, 1) := by decide +kernel
theorem dX8_chosen_18 : decode cX8_chosen 18 = .ok (.iload_n 3, 1) := by decide +kernel
theorem dX8_chosen_19 : decode cX8_chosen 19 = .ok (.irem, 1) := by decide +kernel
theorem dX8_chosen_20 : decode cX8_chosen 20 = .ok (.goto 4, 3) := by decide +kernel
theorem dX8_chosen_23 : decode cX8_chosen 23 = .ok (.iconst 0, 1) := by decide +kernel
theorem dX8_chosen_24 : decode cX8_chosen 24 = .ok (.istore 4, 2) := by decide +kernel
theorem dX8_chosen_26 : decode cX8_chosen 26 = .ok (.iconst 0, 1) := by decide +kernel
theorem dX8_chosen_27 : decode cX8_chosen 27 = .ok (.istore 5, 2) := by decide +kernel
theorem dX8_chosen_29 : decode cX8_chosen 29 = .ok (.iload 5, 2) := by decide +kernel
theorem dX8_chosen_31 : decode cX8_chosen 31 = .ok (.iload_n 1, 1) := by decide +kernel
theorem dX8_chosen_32 : decode cX8_chosen 32 = .ok (.if_icmp .ge 30, 3) := by decide +kernel
theorem dX8_chosen_35 : decode cX8_chosen 35 = .ok (.iload_n 2, 1) := by decide +kernel
theorem dX8_chosen_36 : decode cX8_chosen 36 = .ok (.iload 5, 2) := by decide +kernel
theorem dX8_chosen_38 : decode cX8_chosen 38 = .ok (.ishr, 1) := by decide +kernel
theorem dX8_chosen_39 : decode cX8_chosen 39 = .ok (.iconst 1, 1) := by decide +kernel
theorem dX8_chosen_40 : decode cX8_chosen 40 = .ok (.iand, 1) := by decide +kernel
theorem dX8_chosen_41 : decode cX8_chosen 41 = .ok (.iconst 1, 1) := by decide +kernel
theorem dX8_chosen_42 : decode cX8_chosen 42 = .ok (.if_icmp .ne 14, 3) := by decide +kernel
theorem dX8_chosen_45 : decode cX8_chosen 45 = .ok (.iload 4, 2) := by decide +kernel
theorem dX8_chosen_47 : decode cX8_chosen 47 = .ok (.ifCond .ne 6, 3) := by decide +kernel
theorem dX8_chosen_50 : decode cX8_chosen 50 = .ok (.iload 5, 2) := by decide +kernel
theorem dX8_chosen_52 : decode cX8_chosen 52 = .ok (.ireturn, 1) := by decide +kernel
theorem dX8_chosen_53 : decode cX8_chosen 53 = .ok (.iinc 4 (-1), 3) := by decide +kernel
theorem dX8_chosen_56 : decode cX8_chosen 56 = .ok (.iinc 5 1, 3) := by decide +kernel
theorem dX8_chosen_59 : decode cX8_chosen 59 = .ok (.goto (-30), 3) := by decide +kernel
theorem dX8_chosen_62 : decode cX8_chosen 62 = .ok (.iconst (-1), 1) := by decide +kernel
theorem dX8_chosen_63 : decode cX8_chosen 63 = .ok (.ireturn, 1) := by decide +kernel
theorem dX8_gather_0 : decode cX8_gather 0 = .ok (.aload_n 3, 1) := by decide +kernel
theorem dX8_gather_1 : decode cX8_gather 1 = .ok (.getfield 104, 3) := by decide +kernel
theorem dX8_gather_4 : decode cX8_gather 4 = .ok (.iconst 2, 1) := by decide +kernel
theorem dX8_gather_5 : decode cX8_gather 5 = .ok (.iaload, 1) := by decide +kernel
theorem dX8_gather_6 : decode cX8_gather 6 = .ok (.istore 4, 2) := by decide +kernel
theorem dX8_gather_8 : decode cX8_gather 8 = .ok (.iload 4, 2) := by decide +kernel
theorem dX8_gather_10 : decode cX8_gather 10 = .ok (.ifCond .lt 22, 3) := by decide +kernel
theorem dX8_gather_13 : decode cX8_gather 13 = .ok (.iload 4, 2) := by decide +kernel
theorem dX8_gather_15 : decode cX8_gather 15 = .ok (.aload_n 1, 1) := by decide +kernel
theorem dX8_gather_16 : decode cX8_gather 16 = .ok (.getfield 131, 3) := by decide +kernel
theorem dX8_gather_19 : decode cX8_gather 19 = .ok (.if_icmp .ge 13, 3) := by decide +kernel
theorem dX8_gather_22 : decode cX8_gather 22 = .ok (.iload 4, 2) := by decide +kernel
theorem dX8_gather_24 : decode cX8_gather 24 = .ok (.aload_n 0, 1) := by decide +kernel
theorem dX8_gather_25 : decode cX8_gather 25 = .ok (.getfield 56, 3) := by decide +kernel
theorem dX8_gather_28 : decode cX8_gather 28 = .ok (.arraylength, 1) := by decide +kernel
theorem dX8_gather_29 : decode cX8_gather 29 = .ok (.if_icmp .lt 4, 3) := by decide +kernel
theorem dX8_gather_32 : decode cX8_gather 32 = .ok (.return_, 1) := by decide +kernel
theorem dX8_gather_33 : decode cX8_gather 33 = .ok (.iconst 1, 1) := by decide +kernel
theorem dX8_gather_34 : decode cX8_gather 34 = .ok (.aload_n 1, 1) := by decide +kernel
theorem dX8_gather_35 : decode cX8_gather 35 = .ok (.getfield 131, 3) := by decide +kernel
theorem dX8_gather_38 : decode cX8_gather 38 = .ok (.ishl, 1) := by decide +kernel
theorem dX8_gather_39 : decode cX8_gather 39 = .ok (.iconst 1, 1) := by decide +kernel
theorem dX8_gather_40 : decode cX8_gather 40 = .ok (.isub, 1) := by decide +kernel
theorem dX8_gather_41 : decode cX8_gather 41 = .ok (.istore 5, 2) := by decide +kernel
theorem dX8_gather_43 : decode cX8_gather 43 = .ok (.aload_n 3, 1) := by decide +kernel
theorem dX8_gather_44 : decode cX8_gather 44 = .ok (.getfield 99, 3) := by decide +kernel
theorem dX8_gather_47 : decode cX8_gather 47 = .ok (.bipush 20, 2) := by decide +kernel
theorem dX8_gather_49 : decode cX8_gather 49 = .ok (.if_icmp .ne 99, 3) := by decide +kernel
theorem dX8_gather_52 : decode cX8_gather 52 = .ok (.aload_n 0, 1) := by decide +kernel
theorem dX8_gather_53 : decode cX8_gather 53 = .ok (.getfield 119, 3) := by decide +kernel
theorem dX8_gather_56 : decode cX8_gather 56 = .ok (.iload 4, 2) := by decide +kernel
theorem dX8_gather_58 : decode cX8_gather 58 = .ok (.ishr, 1) := by decide +kernel
theorem dX8_gather_59 : decode cX8_gather 59 = .ok (.iconst 1, 1) := by decide +kernel
theorem dX8_gather_60 : decode cX8_gather 60 = .ok (.iand, 1) := by decide +kernel
theorem dX8_gather_61 : decode cX8_gather 61 = .ok (.ifCond .ne 87, 3) := by decide +kernel
theorem dX8_gather_64 : decode cX8_gather 64 = .ok (.aload_n 0, 1) := by decide +kernel
theorem dX8_gather_65 : decode cX8_gather 65 = .ok (.dup, 1) := by decide +kernel
theorem dX8_gather_66 : decode cX8_gather 66 = .ok (.getfield 119, 3) := by decide +kernel
theorem dX8_gather_69 : decode cX8_gather 69 = .ok (.iconst 1, 1) := by decide +kernel
theorem dX8_gather_70 : decode cX8_gather 70 = .ok (.iload 4, 2) := by decide +kernel
theorem dX8_gather_72 : decode cX8_gather 72 = .ok (.ishl, 1) := by decide +kernel
theorem dX8_gather_73 : decode cX8_gather 73 = .ok (.ior, 1) := by decide +kernel
theorem dX8_gather_74 : decode cX8_gather 74 = .ok (.putfield 119, 3) := by decide +kernel
theorem dX8_gather_77 : decode cX8_gather 77 = .ok (.aload_n 0, 1) := by decide +kernel
theorem dX8_gather_78 : decode cX8_gather 78 = .ok (.getfield 56, 3) := by decide +kernel
theorem dX8_gather_81 : decode cX8_gather 81 = .ok (.iload 4, 2) := by decide +kernel
theorem dX8_gather_83 : decode cX8_gather 83 = .ok (.iload_n 2, 1) := by decide +kernel
theorem dX8_gather_84 : decode cX8_gather 84 = .ok (.iastore, 1) := by decide +kernel
theorem dX8_gather_85 : decode cX8_gather 85 = .ok (.aload_n 0, 1) := by decide +kernel
theorem dX8_gather_86 : decode cX8_gather 86 = .ok (.getfield 59, 3) := by decide +kernel
theorem dX8_gather_89 : decode cX8_gather 89 = .ok (.iload 4, 2) := by decide +kernel
theorem dX8_gather_91 : decode cX8_gather 91 = .ok (.aload_n 3, 1) := by decide +kernel
theorem dX8_gather_92 : decode cX8_gather 92 = .ok (.getfield 104, 3) := by decide +kernel
theorem dX8_gather_95 : decode cX8_gather 95 = .ok (.iconst 3, 1) := by decide +kernel
theorem dX8_gather_96 : decode cX8_gather 96 = .ok (.iaload, 1) := by decide +kernel
theorem dX8_gather_97 : decode cX8_gather 97 = .ok (.iastore, 1) := by decide +kernel
theorem dX8_gather_98 : decode cX8_gather 98 = .ok (.iconst 4, 1) := by decide +kernel
theorem dX8_gather_99 : decode cX8_gather 99 = .ok (.istore 6, 2) := by decide +kernel
theorem dX8_gather_101 : decode cX8_gather 101 = .ok (.iload 6, 2) := by decide +kernel
theorem dX8_gather_103 : decode cX8_gather 103 = .ok (.bipush 30, 2) := by decide +kernel
theorem dX8_gather_105 : decode cX8_gather 105 = .ok (.if_icmp .ge 26, 3) := by decide +kernel
theorem dX8_gather_108 : decode cX8_gather 108 = .ok (.aload_n 0, 1) := by decide +kernel
theorem dX8_gather_109 : decode cX8_gather 109 = .ok (.getfield 62, 3) := by decide +kernel
theorem dX8_gather_112 : decode cX8_gather 112 = .ok (.iload 6, 2) := by decide +kernel
theorem dX8_gather_114 : decode cX8_gather 114 = .ok (.dup2, 1) := by decide +kernel
theorem dX8_gather_115 : decode cX8_gather 115 = .ok (.iaload, 1) := by decide +kernel
theorem dX8_gather_116 : decode cX8_gather 116 = .ok (.aload_n 3, 1) := by decide +kernel
theorem dX8_gather_117 : decode cX8_gather 117 = .ok (.getfield 104, 3) := by decide +kernel
theorem dX8_gather_120 : decode cX8_gather 120 = .ok (.iload 6, 2) := by decide +kernel
theorem dX8_gather_122 : decode cX8_gather 122 = .ok (.iaload, 1) := by decide +kernel
theorem dX8_gather_123 : decode cX8_gather 123 = .ok (.iadd, 1) := by decide +kernel
theorem dX8_gather_124 : decode cX8_gather 124 = .ok (.iastore, 1) := by decide +kernel
theorem dX8_gather_125 : decode cX8_gather 125 = .ok (.iinc 6 1, 3) := by decide +kernel
theorem dX8_gather_128 : decode cX8_gather 128 = .ok (.goto (-27), 3) := by decide +kernel
theorem dX8_gather_131 : decode cX8_gather 131 = .ok (.aload_n 0, 1) := by decide +kernel
theorem dX8_gather_132 : decode cX8_gather 132 = .ok (.getfield 119, 3) := by decide +kernel
theorem dX8_gather_135 : decode cX8_gather 135 = .ok (.iload 5, 2) := by decide +kernel
theorem dX8_gather_137 : decode cX8_gather 137 = .ok (.if_icmp .ne 64, 3) := by decide +kernel
theorem dX8_gather_140 : decode cX8_gather 140 = .ok (.aload_n 0, 1) := by decide +kernel
theorem dX8_gather_141 : decode cX8_gather 141 = .ok (.aload_n 1, 1) := by decide +kernel
theorem dX8_gather_142 : decode cX8_gather 142 = .ok (.invokevirtual 143, 3) := by decide +kernel
theorem dX8_gather_145 : decode cX8_gather 145 = .ok (.goto 56, 3) := by decide +kernel
theorem dX8_gather_148 : decode cX8_gather 148 = .ok (.aload_n 3, 1) := by decide +kernel
theorem dX8_gather_149 : decode cX8_gather 149 = .ok (.getfield 99, 3) := by decide +kernel
theorem dX8_gather_152 : decode cX8_gather 152 = .ok (.bipush 22, 2) := by decide +kernel
theorem dX8_gather_154 : decode cX8_gather 154 = .ok (.if_icmp .ne 47, 3) := by decide +kernel
theorem dX8_gather_157 : decode cX8_gather 157 = .ok (.aload_n 0, 1) := by decide +kernel
theorem dX8_gather_158 : decode cX8_gather 158 = .ok (.getfield 122, 3) := by decide +kernel
theorem dX8_gather_161 : decode cX8_gather 161 = .ok (.iload 4, 2) := by decide +kernel
theorem dX8_gather_163 : decode cX8_gather 163 = .ok (.ishr, 1) := by decide +kernel
theorem dX8_gather_164 : decode cX8_gather 164 = .ok (.iconst 1, 1) := by decide +kernel
theorem dX8_gather_165 : decode cX8_gather 165 = .ok (.iand, 1) := by decide +kernel
theorem dX8_gather_166 : decode cX8_gather 166 = .ok (.ifCond .ne 35, 3) := by decide +kernel
theorem dX8_gather_169 : decode cX8_gather 169 = .ok (.aload_n 0, 1) := by decide +kernel
theorem dX8_gather_170 : decode cX8_gather 170 = .ok (.dup, 1) := by decide +kernel
theorem dX8_gather_171 : decode cX8_gather 171 = .ok (.getfield 122, 3) := by decide +kernel
theorem dX8_gather_174 : decode cX8_gather 174 = .ok (.iconst 1, 1) := by decide +kernel
theorem dX8_gather_175 : decode cX8_gather 175 = .ok (.iload 4, 2) := by decide +kernel
theorem dX8_gather_177 : decode cX8_gather 177 = .ok (.ishl, 1) := by decide +kernel
theorem dX8_gather_178 : decode cX8_gather 178 = .ok (.ior, 1) := by decide +kernel
theorem dX8_gather_179 : decode cX8_gather 179 = .ok (.putfield 122, 3) := by decide +kernel
theorem dX8_gather_182 : decode cX8_gather 182 = .ok (.aload_n 0, 1) := by decide +kernel
theorem dX8_gather_183 : decode cX8_gather 183 = .ok (.aload_n 3, 1) := by decide +kernel
theorem dX8_gather_184 : decode cX8_gather 184 = .ok (.invokevirtual 147, 3) := by decide +kernel
theorem dX8_gather_187 : decode cX8_gather 187 = .ok (.aload_n 0, 1) := by decide +kernel
theorem dX8_gather_188 : decode cX8_gather 188 = .ok (.getfield 122, 3) := by decide +kernel
theorem dX8_gather_191 : decode cX8_gather 191 = .ok (.iload 5, 2) := by decide +kernel
theorem dX8_gather_193 : decode cX8_gather 193 = .ok (.if_icmp .ne 8, 3) := by decide +kernel
theorem dX8_gather_196 : decode cX8_gather 196 = .ok (.aload_n 0, 1) := by decide +kernel
theorem dX8_gather_197 : decode cX8_gather 197 = .ok (.iconst 1, 1) := by decide +kernel
theorem dX8_gather_198 : decode cX8_gather 198 = .ok (.putfield 74, 3) := by decide +kernel
theorem dX8_gather_201 : decode cX8_gather 201 = .ok (.return_, 1) := by decide +kernel
theorem dX8_scoreAll_0 : decode cX8_scoreAll 0 = .ok (.iconst 0, 1) := by decide +kernel
theorem dX8_scoreAll_1 : decode cX8_scoreAll 1 = .ok (.istore_n 2, 1) := by decide +kernel
theorem dX8_scoreAll_2 : decode cX8_scoreAll 2 = .ok (.iload_n 2, 1) := by decide +kernel
theorem dX8_scoreAll_3 : decode cX8_scoreAll 3 = .ok (.aload_n 1, 1) := by decide +kernel
theorem dX8_scoreAll_4 : decode cX8_scoreAll 4 = .ok (.getfield 131, 3) := by decide +kernel
theorem dX8_scoreAll_7 : decode cX8_scoreAll 7 = .ok (.if_icmp .ge 62, 3) := by decide +kernel
theorem dX8_scoreAll_10 : decode cX8_scoreAll 10 = .ok (.aload_n 1, 1) := by decide +kernel
theorem dX8_scoreAll_11 : decode cX8_scoreAll 11 = .ok (.aload_n 0, 1) := by decide +kernel
theorem dX8_scoreAll_12 : decode cX8_scoreAll 12 = .ok (.getfield 18, 3) := by decide +kernel
theorem dX8_scoreAll_15 : decode cX8_scoreAll 15 = .ok (.aload_n 0, 1) := by decide +kernel
theorem dX8_scoreAll_16 : decode cX8_scoreAll 16 = .ok (.getfield 56, 3) := by decide +kernel
theorem dX8_scoreAll_19 : decode cX8_scoreAll 19 = .ok (.iload_n 2, 1) := by decide +kernel
theorem dX8_scoreAll_20 : decode cX8_scoreAll 20 = .ok (.iaload, 1) := by decide +kernel
theorem dX8_scoreAll_21 : decode cX8_scoreAll 21 = .ok (.bipush 21, 2) := by decide +kernel
theorem dX8_scoreAll_23 : decode cX8_scoreAll 23 = .ok (.invokevirtual 89, 3) := by decide +kernel
theorem dX8_scoreAll_26 : decode cX8_scoreAll 26 = .ok (.astore_n 3, 1) := by decide +kernel
theorem dX8_scoreAll_27 : decode cX8_scoreAll 27 = .ok (.aload_n 3, 1) := by decide +kernel
theorem dX8_scoreAll_28 : decode cX8_scoreAll 28 = .ok (.aload_n 0, 1) := by decide +kernel
theorem dX8_scoreAll_29 : decode cX8_scoreAll 29 = .ok (.getfield 9, 3) := by decide +kernel
theorem dX8_scoreAll_32 : decode cX8_scoreAll 32 = .ok (.aload_n 0, 1) := by decide +kernel
theorem dX8_scoreAll_33 : decode cX8_scoreAll 33 = .ok (.getfield 83, 3) := by decide +kernel
theorem dX8_scoreAll_36 : decode cX8_scoreAll 36 = .ok (.iload_n 2, 1) := by decide +kernel
theorem dX8_scoreAll_37 : decode cX8_scoreAll 37 = .ok (.aload_n 0, 1) := by decide +kernel
theorem dX8_scoreAll_38 : decode cX8_scoreAll 38 = .ok (.getfield 59, 3) := by decide +kernel
theorem dX8_scoreAll_41 : decode cX8_scoreAll 41 = .ok (.iload_n 2, 1) := by decide +kernel
theorem dX8_scoreAll_42 : decode cX8_scoreAll 42 = .ok (.iaload, 1) := by decide +kernel
theorem dX8_scoreAll_43 : decode cX8_scoreAll 43 = .ok (.iconst 0, 1) := by decide +kernel
theorem dX8_scoreAll_44 : decode cX8_scoreAll 44 = .ok (.invokevirtual 93, 3) := by decide +kernel
theorem dX8_scoreAll_47 : decode cX8_scoreAll 47 = .ok (.pop, 1) := by decide +kernel
theorem dX8_scoreAll_48 : decode cX8_scoreAll 48 = .ok (.aload_n 0, 1) := by decide +kernel
theorem dX8_scoreAll_49 : decode cX8_scoreAll 49 = .ok (.getfield 62, 3) := by decide +kernel
theorem dX8_scoreAll_52 : decode cX8_scoreAll 52 = .ok (.iconst 4, 1) := by decide +kernel
theorem dX8_scoreAll_53 : decode cX8_scoreAll 53 = .ok (.aload_n 3, 1) := by decide +kernel
theorem dX8_scoreAll_54 : decode cX8_scoreAll 54 = .ok (.getfield 104, 3) := by decide +kernel
theorem dX8_scoreAll_57 : decode cX8_scoreAll 57 = .ok (.iconst 4, 1) := by decide +kernel
theorem dX8_scoreAll_58 : decode cX8_scoreAll 58 = .ok (.bipush 26, 2) := by decide +kernel
theorem dX8_scoreAll_60 : decode cX8_scoreAll 60 = .ok (.invokestatic 151, 3) := by decide +kernel
theorem dX8_scoreAll_63 : decode cX8_scoreAll 63 = .ok (.iinc 2 1, 3) := by decide +kernel
theorem dX8_scoreAll_66 : decode cX8_scoreAll 66 = .ok (.goto (-64), 3) := by decide +kernel
theorem dX8_scoreAll_69 : decode cX8_scoreAll 69 = .ok (.return_, 1) := by decide +kernel
theorem dX8_takeTop_0 : decode cX8_takeTop 0 = .ok (.aload_n 1, 1) := by decide +kernel
theorem dX8_takeTop_1 : decode cX8_takeTop 1 = .ok (.getfield 104, 3) := by decide +kernel
theorem dX8_takeTop_4 : decode cX8_takeTop 4 = .ok (.iconst 3, 1) := by decide +kernel
theorem dX8_takeTop_5 : decode cX8_takeTop 5 = .ok (.iaload, 1) := by decide +kernel
theorem dX8_takeTop_6 : decode cX8_takeTop 6 = .ok (.bipush 10, 2) := by decide +kernel
theorem dX8_takeTop_8 : decode cX8_takeTop 8 = .ok (.invokestatic 157, 3) := by decide +kernel
theorem dX8_takeTop_11 : decode cX8_takeTop 11 = .ok (.istore_n 2, 1) := by decide +kernel
theorem dX8_takeTop_12 : decode cX8_takeTop 12 = .ok (.iconst 0, 1) := by decide +kernel
theorem dX8_takeTop_13 : decode cX8_takeTop 13 = .ok (.istore_n 3, 1) := by decide +kernel
theorem dX8_takeTop_14 : decode cX8_takeTop 14 = .ok (.iload_n 3, 1) := by decide +kernel
theorem dX8_takeTop_15 : decode cX8_takeTop 15 = .ok (.iload_n 2, 1) := by decide +kernel
theorem dX8_takeTop_16 : decode cX8_takeTop 16 = .ok (.if_icmp .ge 52, 3) := by decide +kernel
theorem dX8_takeTop_19 : decode cX8_takeTop 19 = .ok (.iconst 5, 1) := by decide +kernel
theorem dX8_takeTop_20 : decode cX8_takeTop 20 = .ok (.iconst 2, 1) := by decide +kernel
theorem dX8_takeTop_21 : decode cX8_takeTop 21 = .ok (.iload_n 3, 1) := by decide +kernel
theorem dX8_takeTop_22 : decode cX8_takeTop 22 = .ok (.imul, 1) := by decide +kernel
theorem dX8_takeTop_23 : decode cX8_takeTop 23 = .ok (.iadd, 1) := by decide +kernel
theorem dX8_takeTop_24 : decode cX8_takeTop 24 = .ok (.istore 4, 2) := by decide +kernel
theorem dX8_takeTop_26 : decode cX8_takeTop 26 = .ok (.aload_n 0, 1) := by decide +kernel
theorem dX8_takeTop_27 : decode cX8_takeTop 27 = .ok (.aload_n 0, 1) := by decide +kernel
theorem dX8_takeTop_28 : decode cX8_takeTop 28 = .ok (.getfield 65, 3) := by decide +kernel
theorem dX8_takeTop_31 : decode cX8_takeTop 31 = .ok (.iconst 0, 1) := by decide +kernel
theorem dX8_takeTop_32 : decode cX8_takeTop 32 = .ok (.aload_n 0, 1) := by decide +kernel
theorem dX8_takeTop_33 : decode cX8_takeTop 33 = .ok (.getfield 77, 3) := by decide +kernel
theorem dX8_takeTop_36 : decode cX8_takeTop 36 = .ok (.aload_n 0, 1) := by decide +kernel
theorem dX8_takeTop_37 : decode cX8_takeTop 37 = .ok (.getfield 21, 3) := by decide +kernel
theorem dX8_takeTop_40 : decode cX8_takeTop 40 = .ok (.aload_n 1, 1) := by decide +kernel
theorem dX8_takeTop_41 : decode cX8_takeTop 41 = .ok (.getfield 104, 3) := by decide +kernel
theorem dX8_takeTop_44 : decode cX8_takeTop 44 = .ok (.iload 4, 2) := by decide +kernel
theorem dX8_takeTop_46 : decode cX8_takeTop 46 = .ok (.iaload, 1) := by decide +kernel
theorem dX8_takeTop_47 : decode cX8_takeTop 47 = .ok (.aload_n 1, 1) := by decide +kernel
theorem dX8_takeTop_48 : decode cX8_takeTop 48 = .ok (.getfield 104, 3) := by decide +kernel
theorem dX8_takeTop_51 : decode cX8_takeTop 51 = .ok (.iload 4, 2) := by decide +kernel
theorem dX8_takeTop_53 : decode cX8_takeTop 53 = .ok (.iconst 1, 1) := by decide +kernel
theorem dX8_takeTop_54 : decode cX8_takeTop 54 = .ok (.iadd, 1) := by decide +kernel
theorem dX8_takeTop_55 : decode cX8_takeTop 55 = .ok (.iaload, 1) := by decide +kernel
theorem dX8_takeTop_56 : decode cX8_takeTop 56 = .ok (.invokestatic 162, 3) := by decide +kernel
theorem dX8_takeTop_59 : decode cX8_takeTop 59 = .ok (.putfield 77, 3) := by decide +kernel
theorem dX8_takeTop_62 : decode cX8_takeTop 62 = .ok (.iinc 3 1, 3) := by decide +kernel
theorem dX8_takeTop_65 : decode cX8_takeTop 65 = .ok (.goto (-51), 3) := by decide +kernel
theorem dX8_takeTop_68 : decode cX8_takeTop 68 = .ok (.return_, 1) := by decide +kernel
theorem dX9_init_0 : decode cX9_init 0 = .ok (.aload_n 0, 1) := by decide +kernel
theorem dX9_init_1 : decode cX9_init 1 = .ok (.invokespecial 3, 3) := by decide +kernel
theorem dX9_init_4 : decode cX9_init 4 = .ok (.aload_n 0, 1) := by decide +kernel
theorem dX9_init_5 : decode cX9_init 5 = .ok (.sipush 16000, 3) := by decide +kernel
theorem dX9_init_8 : decode cX9_init 8 = .ok (.newarray .byte, 2) := by decide +kernel
theorem dX9_init_10 : decode cX9_init 10 = .ok (.putfield 11, 3) := by decide +kernel
theorem dX9_init_13 : decode cX9_init 13 = .ok (.aload_n 0, 1) := by decide +kernel
theorem dX9_init_14 : decode cX9_init 14 = .ok (.sipush 2000, 3) := by decide +kernel
theorem dX9_init_17 : decode cX9_init 17 = .ok (.newarray .long, 2) := by decide +kernel
theorem dX9_init_19 : decode cX9_init 19 = .ok (.putfield 15, 3) := by decide +kernel
theorem dX9_init_22 : decode cX9_init 22 = .ok (.aload_n 0, 1) := by decide +kernel
theorem dX9_init_23 : decode cX9_init 23 = .ok (.sipush 2000, 3) := by decide +kernel
theorem dX9_init_26 : decode cX9_init 26 = .ok (.newarray .long, 2) := by decide +kernel
theorem dX9_init_28 : decode cX9_init 28 = .ok (.putfield 19, 3) := by decide +kernel
theorem dX9_init_31 : decode cX9_init 31 = .ok (.aload_n 0, 1) := by decide +kernel
theorem dX9_init_32 : decode cX9_init 32 = .ok (.sipush 2000, 3) := by decide +kernel
theorem dX9_init_35 : decode cX9_init 35 = .ok (.newarray .int, 2) := by decide +kernel
theorem dX9_init_37 : decode cX9_init 37 = .ok (.putfield 22, 3) := by decide +kernel
theorem dX9_init_40 : decode cX9_init 40 = .ok (.aload_n 0, 1) := by decide +kernel
theorem dX9_init_41 : decode cX9_init 41 = .ok (.sipush 2000, 3) := by decide +kernel
theorem dX9_init_44 : decode cX9_init 44 = .ok (.newarray .int, 2) := by decide +kernel
theorem dX9_init_46 : decode cX9_init 46 = .ok (.putfield 26, 3) := by decide +kernel
theorem dX9_init_49 : decode cX9_init 49 = .ok (.return_, 1) := by decide +kernel
theorem dX9_write_0 : decode cX9_write 0 = .ok (.aload_n 0, 1) := by decide +kernel
theorem dX9_write_1 : decode cX9_write 1 = .ok (.getfield 29, 3) := by decide +kernel
theorem dX9_write_4 : decode cX9_write 4 = .ok (.aload_n 2, 1) := by decide +kernel
theorem dX9_write_5 : decode cX9_write 5 = .ok (.getfield 33, 3) := by decide +kernel
theorem dX9_write_8 : decode cX9_write 8 = .ok (.iload_n 3, 1) := by decide +kernel
theorem dX9_write_9 : decode cX9_write 9 = .ok (.iaload, 1) := by decide +kernel
theorem dX9_write_10 : decode cX9_write 10 = .ok (.if_icmp .ne 4, 3) := by decide +kernel
theorem dX9_write_13 : decode cX9_write 13 = .ok (.return_, 1) := by decide +kernel
theorem dX9_write_14 : decode cX9_write 14 = .ok (.aload_n 0, 1) := by decide +kernel
theorem dX9_write_15 : decode cX9_write 15 = .ok (.aload_n 2, 1) := by decide +kernel
theorem dX9_write_16 : decode cX9_write 16 = .ok (.getfield 33, 3) := by decide +kernel
theorem dX9_write_19 : decode cX9_write 19 = .ok (.iload_n 3, 1) := by decide +kernel
theorem dX9_write_20 : decode cX9_write 20 = .ok (.iaload, 1) := by decide +kernel
theorem dX9_write_21 : decode cX9_write 21 = .ok (.putfield 29, 3) := by decide +kernel
theorem dX9_write_24 : decode cX9_write 24 = .ok (.aload_n 0, 1) := by decide +kernel
theorem dX9_write_25 : decode cX9_write 25 = .ok (.iconst 0, 1) := by decide +kernel
theorem dX9_write_26 : decode cX9_write 26 = .ok (.putfield 38, 3) := by decide +kernel
theorem dX9_write_29 : decode cX9_write 29 = .ok (.aload_n 0, 1) := by decide +kernel
theorem dX9_write_30 : decode cX9_write 30 = .ok (.iconst 0, 1) := by decide +kernel
theorem dX9_write_31 : decode cX9_write 31 = .ok (.putfield 41, 3) := by decide +kernel
theorem dX9_write_34 : decode cX9_write 34 = .ok (.iconst 0, 1) := by decide +kernel
theorem dX9_write_35 : decode cX9_write 35 = .ok (.istore 4, 2) := by decide +kernel
theorem dX9_write_37 : decode cX9_write 37 = .ok (.aload_n 0, 1) := by decide +kernel
theorem dX9_write_38 : decode cX9_write 38 = .ok (.aload_n 2, 1) := by decide +kernel
theorem dX9_write_39 : decode cX9_write 39 = .ok (.getfield 44, 3) := by decide +kernel
theorem dX9_write_42 : decode cX9_write 42 = .ok (.iload_n 3, 1) := by decide +kernel
theorem dX9_write_43 : decode cX9_write 43 = .ok (.iaload, 1) := by decide +kernel
theorem dX9_write_44 : decode cX9_write 44 = .ok (.invokevirtual 47, 3) := by decide +kernel
theorem dX9_write_47 : decode cX9_write 47 = .ok (.iconst 0, 1) := by decide +kernel
theorem dX9_write_48 : decode cX9_write 48 = .ok (.istore 5, 2) := by decide +kernel
theorem dX9_write_50 : decode cX9_write 50 = .ok (.iload 5, 2) := by decide +kernel
theorem dX9_write_52 : decode cX9_write 52 = .ok (.aload_n 2, 1) := by decide +kernel
theorem dX9_write_53 : decode cX9_write 53 = .ok (.getfield 44, 3) := by decide +kernel
theorem dX9_write_56 : decode cX9_write 56 = .ok (.iload_n 3, 1) := by decide +kernel
theorem dX9_write_57 : decode cX9_write 57 = .ok (.iaload, 1) := by decide +kernel
theorem dX9_write_58 : decode cX9_write 58 = .ok (.if_icmp .ge 85, 3) := by decide +kernel
theorem dX9_write_61 : decode cX9_write 61 = .ok (.aload_n 1, 1) := by decide +kernel
theorem dX9_write_62 : decode cX9_write 62 = .ok (.aload_n 2, 1) := by decide +kernel
theorem dX9_write_63 : decode cX9_write 63 = .ok (.getfield 51, 3) := by decide +kernel
theorem dX9_write_66 : decode cX9_write 66 = .ok (.iload_n 3, 1) := by decide +kernel
theorem dX9_write_67 : decode cX9_write 67 = .ok (.aaload, 1) := by decide +kernel
theorem dX9_write_68 : decode cX9_write 68 = .ok (.iload 5, 2) := by decide +kernel
theorem dX9_write_70 : decode cX9_write 70 = .ok (.iaload, 1) := by decide +kernel
theorem dX9_write_71 : decode cX9_write 71 = .ok (.invokevirtual 55, 3) := by decide +kernel
theorem dX9_write_74 : decode cX9_write 74 = .ok (.astore 6, 2) := by decide +kernel
theorem dX9_write_76 : decode cX9_write 76 = .ok (.aload_n 0, 1) := by decide +kernel
theorem dX9_write_77 : decode cX9_write 77 = .ok (.aload_n 2, 1) := by decide +kernel
theorem dX9_write_78 : decode cX9_write 78 = .ok (.getfield 61, 3) := by decide +kernel
theorem dX9_write_81 : decode cX9_write 81 = .ok (.iload_n 3, 1) := by decide +kernel
theorem dX9_write_82 : decode cX9_write 82 = .ok (.aaload, 1) := by decide +kernel
theorem dX9_write_83 : decode cX9_write 83 = .ok (.iload 5, 2) := by decide +kernel
theorem dX9_write_85 : decode cX9_write 85 = .ok (.iaload, 1) := by decide +kernel
theorem dX9_write_86 : decode cX9_write 86 = .ok (.iload 4, 2) := by decide +kernel
theorem dX9_write_88 : decode cX9_write 88 = .ok (.isub, 1) := by decide +kernel
theorem dX9_write_89 : decode cX9_write 89 = .ok (.invokevirtual 47, 3) := by decide +kernel
theorem dX9_write_92 : decode cX9_write 92 = .ok (.aload_n 0, 1) := by decide +kernel
theorem dX9_write_93 : decode cX9_write 93 = .ok (.aload 6, 2) := by decide +kernel
theorem dX9_write_95 : decode cX9_write 95 = .ok (.ifnonnull 7, 3) := by decide +kernel
theorem dX9_write_98 : decode cX9_write 98 = .ok (.iconst 0, 1) := by decide +kernel
theorem dX9_write_99 : decode cX9_write 99 = .ok (.goto 8, 3) := by decide +kernel
theorem dX9_write_102 : decode cX9_write 102 = .ok (.aload 6, 2) := by decide +kernel
theorem dX9_write_104 : decode cX9_write 104 = .ok (.getfield 64, 3) := by decide +kernel
theorem dX9_write_107 : decode cX9_write 107 = .ok (.invokevirtual 47, 3) := by decide +kernel
theorem dX9_write_110 : decode cX9_write 110 = .ok (.aload_n 2, 1) := by decide +kernel
theorem dX9_write_111 : decode cX9_write 111 = .ok (.getfield 61, 3) := by decide +kernel
theorem dX9_write_114 : decode cX9_write 114 = .ok (.iload_n 3, 1) := by decide +kernel
theorem dX9_write_115 : decode cX9_write 115 = .ok (.aaload, 1) := by decide +kernel
theorem dX9_write_116 : decode cX9_write 116 = .ok (.iload 5, 2) := by decide +kernel
theorem dX9_write_118 : decode cX9_write 118 = .ok (.iaload, 1) := by decide +kernel
theorem dX9_write_119 : decode cX9_write 119 = .ok (.istore 4, 2) := by decide +kernel
theorem dX9_write_121 : decode cX9_write 121 = .ok (.aload 6, 2) := by decide +kernel
theorem dX9_write_123 : decode cX9_write 123 = .ok (.ifnull 14, 3) := by decide +kernel
theorem dX9_write_126 : decode cX9_write 126 = .ok (.aload_n 0, 1) := by decide +kernel
theorem dX9_write_127 : decode cX9_write 127 = .ok (.iload 5, 2) := by decide +kernel
theorem dX9_write_129 : decode cX9_write 129 = .ok (.aload 6, 2) := by decide +kernel
theorem dX9_write_131 : decode cX9_write 131 = .ok (.getfield 69, 3) := by decide +kernel
theorem dX9_write_134 : decode cX9_write 134 = .ok (.invokevirtual 72, 3) := by decide +kernel
theorem dX9_write_137 : decode cX9_write 137 = .ok (.iinc 5 1, 3) := by decide +kernel
theorem dX9_write_140 : decode cX9_write 140 = .ok (.goto (-90), 3) := by decide +kernel
theorem dX9_write_143 : decode cX9_write 143 = .ok (.aload_n 0, 1) := by decide +kernel
theorem dX9_write_144 : decode cX9_write 144 = .ok (.invokevirtual 76, 3) := by decide +kernel
theorem dX9_write_147 : decode cX9_write 147 = .ok (.aload_n 0, 1) := by decide +kernel
theorem dX9_write_148 : decode cX9_write 148 = .ok (.invokevirtual 79, 3) := by decide +kernel
theorem dX9_write_151 : decode cX9_write 151 = .ok (.return_, 1) := by decide +kernel
theorem dX9_gather_0 : decode cX9_gather 0 = .ok (.iconst 0, 1) := by decide +kernel
theorem dX9_gather_1 : decode cX9_gather 1 = .ok (.istore_n 3, 1) := by decide +kernel
theorem dX9_gather_2 : decode cX9_gather 2 = .ok (.iload_n 3, 1) := by decide +kernel
theorem dX9_gather_3 : decode cX9_gather 3 = .ok (.aload_n 2, 1) := by decide +kernel
theorem dX9_gather_4 : decode cX9_gather 4 = .ok (.arraylength, 1) := by decide +kernel
theorem dX9_gather_5 : decode cX9_gather 5 = .ok (.if_icmp .ge 64, 3) := by decide +kernel
theorem dX9_gather_8 : decode cX9_gather 8 = .ok (.aload_n 2, 1) := by decide +kernel
theorem dX9_gather_9 : decode cX9_gather 9 = .ok (.iload_n 3, 1) := by decide +kernel
theorem dX9_gather_10 : decode cX9_gather 10 = .ok (.laload, 1) := by decide +kernel
theorem dX9_gather_11 : decode cX9_gather 11 = .ok (.lconst 0, 1) := by decide +kernel
theorem dX9_gather_12 : decode cX9_gather 12 = .ok (.lcmp, 1) := by decide +kernel
theorem dX9_gather_13 : decode cX9_gather 13 = .ok (.ifCond .eq 50, 3) := by decide +kernel
theorem dX9_gather_16 : decode cX9_gather 16 = .ok (.aload_n 0, 1) := by decide +kernel
theorem dX9_gather_17 : decode cX9_gather 17 = .ok (.getfield 41, 3) := by decide +kernel
theorem dX9_gather_20 : decode cX9_gather 20 = .ok (.sipush 2000, 3) := by decide +kernel
theorem dX9_gather_23 : decode cX9_gather 23 = .ok (.if_icmp .ge 40, 3) := by decide +kernel
theorem dX9_gather_26 : decode cX9_gather 26 = .ok (.aload_n 0, 1) := by decide +kernel
theorem dX9_gather_27 : decode cX9_gather 27 = .ok (.getfield 15, 3) := by decide +kernel
theorem dX9_gather_30 : decode cX9_gather 30 = .ok (.aload_n 0, 1) := by decide +kernel
theorem dX9_gather_31 : decode cX9_gather 31 = .ok (.getfield 41, 3) := by decide +kernel
theorem dX9_gather_34 : decode cX9_gather 34 = .ok (.aload_n 2, 1) := by decide +kernel
theorem dX9_gather_35 : decode cX9_gather 35 = .ok (.iload_n 3, 1) := by decide +kernel
theorem dX9_gather_36 : decode cX9_gather 36 = .ok (.laload, 1) := by decide +kernel
theorem dX9_gather_37 : decode cX9_gather 37 = .ok (.lastore, 1) := by decide +kernel
theorem dX9_gather_38 : decode cX9_gather 38 = .ok (.aload_n 0, 1) := by decide +kernel
theorem dX9_gather_39 : decode cX9_gather 39 = .ok (.getfield 22, 3) := by decide +kernel
theorem dX9_gather_42 : decode cX9_gather 42 = .ok (.aload_n 0, 1) := by decide +kernel
theorem dX9_gather_43 : decode cX9_gather 43 = .ok (.getfield 41, 3) := by decide +kernel
theorem dX9_gather_46 : decode cX9_gather 46 = .ok (.iload_n 1, 1) := by decide +kernel
theorem dX9_gather_47 : decode cX9_gather 47 = .ok (.bipush 32, 2) := by decide +kernel
theorem dX9_gather_49 : decode cX9_gather 49 = .ok (.imul, 1) := by decide +kernel
theorem dX9_gather_50 : decode cX9_gather 50 = .ok (.iload_n 3, 1) := by decide +kernel
theorem dX9_gather_51 : decode cX9_gather 51 = .ok (.iadd, 1) := by decide +kernel
theorem dX9_gather_52 : decode cX9_gather 52 = .ok (.iastore, 1) := by decide +kernel
theorem dX9_gather_53 : decode cX9_gather 53 = .ok (.aload_n 0, 1) := by decide +kernel
theorem dX9_gather_54 : decode cX9_gather 54 = .ok (.dup, 1) := by decide +kernel
theorem dX9_gather_55 : decode cX9_gather 55 = .ok (.getfield 41, 3) := by decide +kernel
theorem dX9_gather_58 : decode cX9_gather 58 = .ok (.iconst 1, 1) := by decide +kernel
theorem dX9_gather_59 : decode cX9_gather 59 = .ok (.iadd, 1) := by decide +kernel
theorem dX9_gather_60 : decode cX9_gather 60 = .ok (.putfield 41, 3) := by decide +kernel
theorem dX9_gather_63 : decode cX9_gather 63 = .ok (.iinc 3 1, 3) := by decide +kernel
theorem dX9_gather_66 : decode cX9_gather 66 = .ok (.goto (-64), 3) := by decide +kernel
theorem dX9_gather_69 : decode cX9_gather 69 = .ok (.return_, 1) := by decide +kernel
theorem dX9_sort_0 : decode cX9_sort 0 = .ok (.iconst 1, 1) := by decide +kernel
theorem dX9_sort_1 : decode cX9_sort 1 = .ok (.istore_n 1, 1) := by decide +kernel
theorem dX9_sort_2 : decode cX9_sort 2 = .ok (.iload_n 1, 1) := by decide +kernel
theorem dX9_sort_3 : decode cX9_sort 3 = .ok (.aload_n 0, 1) := by decide +kernel
theorem dX9_sort_4 : decode cX9_sort 4 = .ok (.getfield 41, 3) := by decide +kernel
theorem dX9_sort_7 : decode cX9_sort 7 = .ok (.if_icmp .ge 90, 3) := by decide +kernel
theorem dX9_sort_10 : decode cX9_sort 10 = .ok (.iconst 0, 1) := by decide +kernel
theorem dX9_sort_11 : decode cX9_sort 11 = .ok (.istore_n 2, 1) := by decide +kernel
theorem dX9_sort_12 : decode cX9_sort 12 = .ok (.iload_n 2, 1) := by decide +kernel
theorem dX9_sort_13 : decode cX9_sort 13 = .ok (.aload_n 0, 1) := by decide +kernel
theorem dX9_sort_14 : decode cX9_sort 14 = .ok (.getfield 41, 3) := by decide +kernel
theorem dX9_sort_17 : decode cX9_sort 17 = .ok (.if_icmp .ge 39, 3) := by decide +kernel
theorem dX9_sort_20 : decode cX9_sort 20 = .ok (.aload_n 0, 1) := by decide +kernel
theorem dX9_sort_21 : decode cX9_sort 21 = .ok (.iload_n 2, 1) := by decide +kernel
theorem dX9_sort_22 : decode cX9_sort 22 = .ok (.iload_n 2, 1) := by decide +kernel
theorem dX9_sort_23 : decode cX9_sort 23 = .ok (.iload_n 1, 1) := by decide +kernel
theorem dX9_sort_24 : decode cX9_sort 24 = .ok (.iadd, 1) := by decide +kernel
theorem dX9_sort_25 : decode cX9_sort 25 = .ok (.aload_n 0, 1) := by decide +kernel
theorem dX9_sort_26 : decode cX9_sort 26 = .ok (.getfield 41, 3) := by decide +kernel
theorem dX9_sort_29 : decode cX9_sort 29 = .ok (.invokestatic 82, 3) := by decide +kernel
theorem dX9_sort_32 : decode cX9_sort 32 = .ok (.iload_n 2, 1) := by decide +kernel
theorem dX9_sort_33 : decode cX9_sort 33 = .ok (.iconst 2, 1) := by decide +kernel
theorem dX9_sort_34 : decode cX9_sort 34 = .ok (.iload_n 1, 1) := by decide +kernel
theorem dX9_sort_35 : decode cX9_sort 35 = .ok (.imul, 1) := by decide +kernel
theorem dX9_sort_36 : decode cX9_sort 36 = .ok (.iadd, 1) := by decide +kernel
theorem dX9_sort_37 : decode cX9_sort 37 = .ok (.aload_n 0, 1) := by decide +kernel
theorem dX9_sort_38 : decode cX9_sort 38 = .ok (.getfield 41, 3) := by decide +kernel
theorem dX9_sort_41 : decode cX9_sort 41 = .ok (.invokestatic 82, 3) := by decide +kernel
theorem dX9_sort_44 : decode cX9_sort 44 = .ok (.invokevirtual 88, 3) := by decide +kernel
theorem dX9_sort_47 : decode cX9_sort 47 = .ok (.iload_n 2, 1) := by decide +kernel
theorem dX9_sort_48 : decode cX9_sort 48 = .ok (.iconst 2, 1) := by decide +kernel
theorem dX9_sort_49 : decode cX9_sort 49 = .ok (.iload_n 1, 1) := by decide +kernel
theorem dX9_sort_50 : decode cX9_sort 50 = .ok (.imul, 1) := by decide +kernel
theorem dX9_sort_51 : decode cX9_sort 51 = .ok (.iadd, 1) := by decide +kernel
theorem dX9_sort_52 : decode cX9_sort 52 = .ok (.istore_n 2, 1) := by decide +kernel
theorem dX9_sort_53 : decode cX9_sort 53 = .ok (.goto (-41), 3) := by decide +kernel
theorem dX9_sort_56 : decode cX9_sort 56 = .ok (.aload_n 0, 1) := by decide +kernel
theorem dX9_sort_57 : decode cX9_sort 57 = .ok (.getfield 19, 3) := by decide +kernel
theorem dX9_sort_60 : decode cX9_sort 60 = .ok (.iconst 0, 1) := by decide +kernel
theorem dX9_sort_61 : decode cX9_sort 61 = .ok (.aload_n 0, 1) := by decide +kernel
theorem dX9_sort_62 : decode cX9_sort 62 = .ok (.getfield 15, 3) := by decide +kernel
theorem dX9_sort_65 : decode cX9_sort 65 = .ok (.iconst 0, 1) := by decide +kernel
theorem dX9_sort_66 : decode cX9_sort 66 = .ok (.aload_n 0, 1) := by decide +kernel
theorem dX9_sort_67 : decode cX9_sort 67 = .ok (.getfield 41, 3) := by decide +kernel
theorem dX9_sort_70 : decode cX9_sort 70 = .ok (.invokestatic 92, 3) := by decide +kernel
theorem dX9_sort_73 : decode cX9_sort 73 = .ok (.aload_n 0, 1) := by decide +kernel
theorem dX9_sort_74 : decode cX9_sort 74 = .ok (.getfield 26, 3) := by decide +kernel
theorem dX9_sort_77 : decode cX9_sort 77 = .ok (.iconst 0, 1) := by decide +kernel
theorem dX9_sort_78 : decode cX9_sort 78 = .ok (.aload_n 0, 1) := by decide +kernel
theorem dX9_sort_79 : decode cX9_sort 79 = .ok (.getfield 22, 3) := by decide +kernel
theorem dX9_sort_82 : decode cX9_sort 82 = .ok (.iconst 0, 1) := by decide +kernel
theorem dX9_sort_83 : decode cX9_sort 83 = .ok (.aload_n 0, 1) := by decide +kernel
theorem dX9_sort_84 : decode cX9_sort 84 = .ok (.getfield 41, 3) := by decide +kernel
theorem dX9_sort_87 : decode cX9_sort 87 = .ok (.invokestatic 92, 3) := by decide +kernel
theorem dX9_sort_90 : decode cX9_sort 90 = .ok (.iload_n 1, 1) := by decide +kernel
theorem dX9_sort_91 : decode cX9_sort 91 = .ok (.iconst 2, 1) := by decide +kernel
theorem dX9_sort_92 : decode cX9_sort 92 = .ok (.imul, 1) := by decide +kernel
theorem dX9_sort_93 : decode cX9_sort 93 = .ok (.istore_n 1, 1) := by decide +kernel
theorem dX9_sort_94 : decode cX9_sort 94 = .ok (.goto (-92), 3) := by decide +kernel
theorem dX9_sort_97 : decode cX9_sort 97 = .ok (.return_, 1) := by decide +kernel
theorem dX9_merge_0 : decode cX9_merge 0 = .ok (.iload_n 1, 1) := by decide +kernel
theorem dX9_merge_1 : decode cX9_merge 1 = .ok (.istore 4, 2) := by decide +kernel
theorem dX9_merge_3 : decode cX9_merge 3 = .ok (.iload_n 2, 1) := by decide +kernel
theorem dX9_merge_4 : decode cX9_merge 4 = .ok (.istore 5, 2) := by decide +kernel
theorem dX9_merge_6 : decode cX9_merge 6 = .ok (.iload_n 1, 1) := by decide +kernel
theorem dX9_merge_7 : decode cX9_merge 7 = .ok (.istore 6, 2) := by decide +kernel
theorem dX9_merge_9 : decode cX9_merge 9 = .ok (.iload 6, 2) := by decide +kernel
theorem dX9_merge_11 : decode cX9_merge 11 = .ok (.iload_n 3, 1) := by decide +kernel
theorem dX9_merge_12 : decode cX9_merge 12 = .ok (.if_icmp .ge 102, 3) := by decide +kernel
theorem dX9_merge_15 : decode cX9_merge 15 = .ok (.iload 5, 2) := by decide +kernel
theorem dX9_merge_17 : decode cX9_merge 17 = .ok (.iload_n 3, 1) := by decide +kernel
theorem dX9_merge_18 : decode cX9_merge 18 = .ok (.if_icmp .ge 27, 3) := by decide +kernel
theorem dX9_merge_21 : decode cX9_merge 21 = .ok (.iload 4, 2) := by decide +kernel
theorem dX9_merge_23 : decode cX9_merge 23 = .ok (.iload_n 2, 1) := by decide +kernel
theorem dX9_merge_24 : decode cX9_merge 24 = .ok (.if_icmp .ge 25, 3) := by decide +kernel
theorem dX9_merge_27 : decode cX9_merge 27 = .ok (.aload_n 0, 1) := by decide +kernel
theorem dX9_merge_28 : decode cX9_merge 28 = .ok (.getfield 15, 3) := by decide +kernel
theorem dX9_merge_31 : decode cX9_merge 31 = .ok (.iload 4, 2) := by decide +kernel
theorem dX9_merge_33 : decode cX9_merge 33 = .ok (.laload, 1) := by decide +kernel
theorem dX9_merge_34 : decode cX9_merge 34 = .ok (.aload_n 0, 1) := by decide +kernel
theorem dX9_merge_35 : decode cX9_merge 35 = .ok (.getfield 15, 3) := by decide +kernel
theorem dX9_merge_38 : decode cX9_merge 38 = .ok (.iload 5, 2) := by decide +kernel
theorem dX9_merge_40 : decode cX9_merge 40 = .ok (.laload, 1) := by decide +kernel
theorem dX9_merge_41 : decode cX9_merge 41 = .ok (.lcmp, 1) := by decide +kernel
theorem dX9_merge_42 : decode cX9_merge 42 = .ok (.ifCond .gt 7, 3) := by decide +kernel
theorem dX9_merge_45 : decode cX9_merge 45 = .ok (.iconst 1, 1) := by decide +kernel
theorem dX9_merge_46 : decode cX9_merge 46 = .ok (.goto 4, 3) := by decide +kernel
theorem dX9_merge_49 : decode cX9_merge 49 = .ok (.iconst 0, 1) := by decide +kernel
theorem dX9_merge_50 : decode cX9_merge 50 = .ok (.istore 7, 2) := by decide +kernel
theorem dX9_merge_52 : decode cX9_merge 52 = .ok (.iload 7, 2) := by decide +kernel
theorem dX9_merge_54 : decode cX9_merge 54 = .ok (.ifCond .eq 8, 3) := by decide +kernel
theorem dX9_merge_57 : decode cX9_merge 57 = .ok (.iload 4, 2) := by decide +kernel
theorem dX9_merge_59 : decode cX9_merge 59 = .ok (.goto 5, 3) := by decide +kernel
theorem dX9_merge_62 : decode cX9_merge 62 = .ok (.iload 5, 2) := by decide +kernel
theorem dX9_merge_64 : decode cX9_merge 64 = .ok (.istore 8, 2) := by decide +kernel
theorem dX9_merge_66 : decode cX9_merge 66 = .ok (.aload_n 0, 1) := by decide +kernel
theorem dX9_merge_67 : decode cX9_merge 67 = .ok (.getfield 19, 3) := by decide +kernel
theorem dX9_merge_70 : decode cX9_merge 70 = .ok (.iload 6, 2) := by decide +kernel
theorem dX9_merge_72 : decode cX9_merge 72 = .ok (.aload_n 0, 1) := by decide +kernel
theorem dX9_merge_73 : decode cX9_merge 73 = .ok (.getfield 15, 3) := by decide +kernel
theorem dX9_merge_76 : decode cX9_merge 76 = .ok (.iload 8, 2) := by decide +kernel
theorem dX9_merge_78 : decode cX9_merge 78 = .ok (.laload, 1) := by decide +kernel
theorem dX9_merge_79 : decode cX9_merge 79 = .ok (.lastore, 1) := by decide +kernel
theorem dX9_merge_80 : decode cX9_merge 80 = .ok (.aload_n 0, 1) := by decide +kernel
theorem dX9_merge_81 : decode cX9_merge 81 = .ok (.getfield 26, 3) := by decide +kernel
theorem dX9_merge_84 : decode cX9_merge 84 = .ok (.iload 6, 2) := by decide +kernel
theorem dX9_merge_86 : decode cX9_merge 86 = .ok (.aload_n 0, 1) := by decide +kernel
theorem dX9_merge_87 : decode cX9_merge 87 = .ok (.getfield 22, 3) := by decide +kernel
theorem dX9_merge_90 : decode cX9_merge 90 = .ok (.iload 8, 2) := by decide +kernel
theorem dX9_merge_92 : decode cX9_merge 92 = .ok (.iaload, 1) := by decide +kernel
theorem dX9_merge_93 : decode cX9_merge 93 = .ok (.iastore, 1) := by decide +kernel
theorem dX9_merge_94 : decode cX9_merge 94 = .ok (.iload 7, 2) := by decide +kernel
theorem dX9_merge_96 : decode cX9_merge 96 = .ok (.ifCond .eq 9, 3) := by decide +kernel
theorem dX9_merge_99 : decode cX9_merge 99 = .ok (.iinc 4 1, 3) := by decide +kernel
theorem dX9_merge_102 : decode cX9_merge 102 = .ok (.goto 6, 3) := by decide +kernel
theorem dX9_merge_105 : decode cX9_merge 105 = .ok (.iinc 5 1, 3) := by decide +kernel
theorem dX9_merge_108 : decode cX9_merge 108 = .ok (.iinc 6 1, 3) := by decide +kernel
theorem dX9_merge_111 : decode cX9_merge 111 = .ok (.goto (-102), 3) := by decide +kernel
theorem dX9_merge_114 : decode cX9_merge 114 = .ok (.return_, 1) := by decide +kernel
theorem dX9_writeWords_0 : decode cX9_writeWords 0 = .ok (.iconst 0, 1) := by decide +kernel
theorem dX9_writeWords_1 : decode cX9_writeWords 1 = .ok (.istore_n 1, 1) := by decide +kernel
theorem dX9_writeWords_2 : decode cX9_writeWords 2 = .ok (.iconst 0, 1) := by decide +kernel
theorem dX9_writeWords_3 : decode cX9_writeWords 3 = .ok (.istore_n 2, 1) := by decide +kernel
theorem dX9_writeWords_4 : decode cX9_writeWords 4 = .ok (.iload_n 2, 1) := by decide +kernel
theorem dX9_writeWords_5 : decode cX9_writeWords 5 = .ok (.aload_n 0, 1) := by decide +kernel
theorem dX9_writeWords_6 : decode cX9_writeWords 6 = .ok (.getfield 41, 3) := by decide +kernel
theorem dX9_writeWords_9 : decode cX9_writeWords 9 = .ok (.if_icmp .ge 34, 3) := by decide +kernel
theorem dX9_writeWords_12 : decode cX9_writeWords 12 = .ok (.iload_n 2, 1) := by decide +kernel
theorem dX9_writeWords_13 : decode cX9_writeWords 13 = .ok (.ifCond .eq 21, 3) := by decide +kernel
theorem dX9_writeWords_16 : decode cX9_writeWords 16 = .ok (.aload_n 0, 1) := by decide +kernel
theorem dX9_writeWords_17 : decode cX9_writeWords 17 = .ok (.getfield 15, 3) := by decide +kernel
theorem dX9_writeWords_20 : decode cX9_writeWords 20 = .ok (.iload_n 2, 1) := by decide +kernel
theorem dX9_writeWords_21 : decode cX9_writeWords 21 = .ok (.laload, 1) := by decide +kernel
theorem dX9_writeWords_22 : decode cX9_writeWords 22 = .ok (.aload_n 0, 1) := by decide +kernel
theorem dX9_writeWords_23 : decode cX9_writeWords 23 = .ok (.getfield 15, 3) := by decide +kernel
theorem dX9_writeWords_26 : decode cX9_writeWords 26 = .ok (.iload_n 2, 1) := by decide +kernel
theorem dX9_writeWords_27 : decode cX9_writeWords 27 = .ok (.iconst 1, 1) := by decide +kernel
theorem dX9_writeWords_28 : decode cX9_writeWords 28 = .ok (.isub, 1) := by decide +kernel
theorem dX9_writeWords_29 : decode cX9_writeWords 29 = .ok (.laload, 1) := by decide +kernel
theorem dX9_writeWords_30 : decode cX9_writeWords 30 = .ok (.lcmp, 1) := by decide +kernel
theorem dX9_writeWords_31 : decode cX9_writeWords 31 = .ok (.ifCond .eq 6, 3) := by decide +kernel
theorem dX9_writeWords_34 : decode cX9_writeWords 34 = .ok (.iinc 1 1, 3) := by decide +kernel
theorem dX9_writeWords_37 : decode cX9_writeWords 37 = .ok (.iinc 2 1, 3) := by decide +kernel
theorem dX9_writeWords_40 : decode cX9_writeWords 40 = .ok (.goto (-36), 3) := by decide +kernel
theorem dX9_writeWords_43 : decode cX9_writeWords 43 = .ok (.aload_n 0, 1) := by decide +kernel
theorem dX9_writeWords_44 : decode cX9_writeWords 44 = .ok (.iload_n 1, 1) := by decide +kernel
theorem dX9_writeWords_45 : decode cX9_writeWords 45 = .ok (.invokevirtual 47, 3) := by decide +kernel
theorem dX9_writeWords_48 : decode cX9_writeWords 48 = .ok (.iconst 0, 1) := by decide +kernel
theorem dX9_writeWords_49 : decode cX9_writeWords 49 = .ok (.istore_n 2, 1) := by decide +kernel
theorem dX9_writeWords_50 : decode cX9_writeWords 50 = .ok (.iload_n 2, 1) := by decide +kernel
theorem dX9_writeWords_51 : decode cX9_writeWords 51 = .ok (.aload_n 0, 1) := by decide +kernel
theorem dX9_writeWords_52 : decode cX9_writeWords 52 = .ok (.getfield 41, 3) := by decide +kernel
theorem dX9_writeWords_55 : decode cX9_writeWords 55 = .ok (.if_icmp .ge 74, 3) := by decide +kernel
theorem dX9_writeWords_58 : decode cX9_writeWords 58 = .ok (.iload_n 2, 1) := by decide +kernel
theorem dX9_writeWords_59 : decode cX9_writeWords 59 = .ok (.iconst 1, 1) := by decide +kernel
theorem dX9_writeWords_60 : decode cX9_writeWords 60 = .ok (.iadd, 1) := by decide +kernel
theorem dX9_writeWords_61 : decode cX9_writeWords 61 = .ok (.istore_n 3, 1) := by decide +kernel
theorem dX9_writeWords_62 : decode cX9_writeWords 62 = .ok (.iload_n 3, 1) := by decide +kernel
theorem dX9_writeWords_63 : decode cX9_writeWords 63 = .ok (.aload_n 0, 1) := by decide +kernel
theorem dX9_writeWords_64 : decode cX9_writeWords 64 = .ok (.getfield 41, 3) := by decide +kernel
theorem dX9_writeWords_67 : decode cX9_writeWords 67 = .ok (.if_icmp .ge 25, 3) := by decide +kernel
theorem dX9_writeWords_70 : decode cX9_writeWords 70 = .ok (.aload_n 0, 1) := by decide +kernel
theorem dX9_writeWords_71 : decode cX9_writeWords 71 = .ok (.getfield 15, 3) := by decide +kernel
theorem dX9_writeWords_74 : decode cX9_writeWords 74 = .ok (.iload_n 3, 1) := by decide +kernel
theorem dX9_writeWords_75 : decode cX9_writeWords 75 = .ok (.laload, 1) := by decide +kernel
theorem dX9_writeWords_76 : decode cX9_writeWords 76 = .ok (.aload_n 0, 1) := by decide +kernel
theorem dX9_writeWords_77 : decode cX9_writeWords 77 = .ok (.getfield 15, 3) := by decide +kernel
theorem dX9_writeWords_80 : decode cX9_writeWords 80 = .ok (.iload_n 2, 1) := by decide +kernel
theorem dX9_writeWords_81 : decode cX9_writeWords 81 = .ok (.laload, 1) := by decide +kernel
theorem dX9_writeWords_82 : decode cX9_writeWords 82 = .ok (.lcmp, 1) := by decide +kernel
theorem dX9_writeWords_83 : decode cX9_writeWords 83 = .ok (.ifCond .ne 9, 3) := by decide +kernel
theorem dX9_writeWords_86 : decode cX9_writeWords 86 = .ok (.iinc 3 1, 3) := by decide +kernel
theorem dX9_writeWords_89 : decode cX9_writeWords 89 = .ok (.goto (-27), 3) := by decide +kernel
theorem dX9_writeWords_92 : decode cX9_writeWords 92 = .ok (.aload_n 0, 1) := by decide +kernel
theorem dX9_writeWords_93 : decode cX9_writeWords 93 = .ok (.iload_n 2, 1) := by decide +kernel
theorem dX9_writeWords_94 : decode cX9_writeWords 94 = .ok (.ifCond .ne 7, 3) := by decide +kernel
theorem dX9_writeWords_97 : decode cX9_writeWords 97 = .ok (.lconst 0, 1) := by decide +kernel
theorem dX9_writeWords_98 : decode cX9_writeWords 98 = .ok (.goto 11, 3) := by decide +kernel
theorem dX9_writeWords_101 : decode cX9_writeWords 101 = .ok (.aload_n 0, 1) := by decide +kernel
theorem dX9_writeWords_102 : decode cX9_writeWords 102 = .ok (.getfield 15, 3) := by decide +kernel
theorem dX9_writeWords_105 : decode cX9_writeWords 105 = .ok (.iload_n 2, 1) := by decide +kernel
theorem dX9_writeWords_106 : decode cX9_writeWords 106 = .ok (.iconst 1, 1) := by decide +kernel
theorem dX9_writeWords_107 : decode cX9_writeWords 107 = .ok (.isub, 1) := by decide +kernel
theorem dX9_writeWords_108 : decode cX9_writeWords 108 = .ok (.laload, 1) := by decide +kernel
theorem dX9_writeWords_109 : decode cX9_writeWords 109 = .ok (.aload_n 0, 1) := by decide +kernel
theorem dX9_writeWords_110 : decode cX9_writeWords 110 = .ok (.getfield 15, 3) := by decide +kernel
theorem dX9_writeWords_113 : decode cX9_writeWords 113 = .ok (.iload_n 2, 1) := by decide +kernel
theorem dX9_writeWords_114 : decode cX9_writeWords 114 = .ok (.laload, 1) := by decide +kernel
theorem dX9_writeWords_115 : decode cX9_writeWords 115 = .ok (.invokevirtual 98, 3) := by decide +kernel
theorem dX9_writeWords_118 : decode cX9_writeWords 118 = .ok (.aload_n 0, 1) := by decide +kernel
theorem dX9_writeWords_119 : decode cX9_writeWords 119 = .ok (.iload_n 2, 1) := by decide +kernel
theorem dX9_writeWords_120 : decode cX9_writeWords 120 = .ok (.iload_n 3, 1) := by decide +kernel
theorem dX9_writeWords_121 : decode cX9_writeWords 121 = .ok (.invokevirtual 102, 3) := by decide +kernel
theorem dX9_writeWords_124 : decode cX9_writeWords 124 = .ok (.iload_n 3, 1) := by decide +kernel
theorem dX9_writeWords_125 : decode cX9_writeWords 125 = .ok (.istore_n 2, 1) := by decide +kernel
theorem dX9_writeWords_126 : decode cX9_writeWords 126 = .ok (.goto (-76), 3) := by decide +kernel
theorem dX9_writeWords_129 : decode cX9_writeWords 129 = .ok (.return_, 1) := by decide +kernel
theorem dX9_writeWord_0 : decode cX9_writeWord 0 = .ok (.iconst 0, 1) := by decide +kernel
theorem dX9_writeWord_1 : decode cX9_writeWord 1 = .ok (.istore 5, 2) := by decide +kernel
theorem dX9_writeWord_3 : decode cX9_writeWord 3 = .ok (.iconst 0, 1) := by decide +kernel
theorem dX9_writeWord_4 : decode cX9_writeWord 4 = .ok (.istore 6, 2) := by decide +kernel
theorem dX9_writeWord_6 : decode cX9_writeWord 6 = .ok (.iconst 1, 1) := by decide +kernel
theorem dX9_writeWord_7 : decode cX9_writeWord 7 = .ok (.istore 7, 2) := by decide +kernel
theorem dX9_writeWord_9 : decode cX9_writeWord 9 = .ok (.ldc2_w 106, 3) := by decide +kernel
theorem dX9_writeWord_12 : decode cX9_writeWord 12 = .ok (.lstore 8, 2) := by decide +kernel
theorem dX9_writeWord_14 : decode cX9_writeWord 14 = .ok (.iconst 0, 1) := by decide +kernel
theorem dX9_writeWord_15 : decode cX9_writeWord 15 = .ok (.istore 10, 2) := by decide +kernel
theorem dX9_writeWord_17 : decode cX9_writeWord 17 = .ok (.iload 10, 2) := by decide +kernel
theorem dX9_writeWord_19 : decode cX9_writeWord 19 = .ok (.bipush 12, 2) := by decide +kernel
theorem dX9_writeWord_21 : decode cX9_writeWord 21 = .ok (.if_icmp .ge 99, 3) := by decide +kernel
theorem dX9_writeWord_24 : decode cX9_writeWord 24 = .ok (.lload 8, 2) := by decide +kernel
theorem dX9_writeWord_26 : decode cX9_writeWord 26 = .ok (.lconst 0, 1) := by decide +kernel
theorem dX9_writeWord_27 : decode cX9_writeWord 27 = .ok (.lcmp, 1) := by decide +kernel
theorem dX9_writeWord_28 : decode cX9_writeWord 28 = .ok (.ifCond .le 92, 3) := by decide +kernel
theorem dX9_writeWord_31 : decode cX9_writeWord 31 = .ok (.lload_n 3, 1) := by decide +kernel
theorem dX9_writeWord_32 : decode cX9_writeWord 32 = .ok (.lload 8, 2) := by decide +kernel
theorem dX9_writeWord_34 : decode cX9_writeWord 34 = .ok (.ldiv, 1) := by decide +kernel
theorem dX9_writeWord_35 : decode cX9_writeWord 35 = .ok (.ldc2_w 108, 3) := by decide +kernel
theorem dX9_writeWord_38 : decode cX9_writeWord 38 = .ok (.lrem, 1) := by decide +kernel
theorem dX9_writeWord_39 : decode cX9_writeWord 39 = .ok (.lstore 11, 2) := by decide +kernel
theorem dX9_writeWord_41 : decode cX9_writeWord 41 = .ok (.iload 7, 2) := by decide +kernel
theorem dX9_writeWord_43 : decode cX9_writeWord 43 = .ok (.ifCond .eq 28, 3) := by decide +kernel
theorem dX9_writeWord_46 : decode cX9_writeWord 46 = .ok (.lload 11, 2) := by decide +kernel
theorem dX9_writeWord_48 : decode cX9_writeWord 48 = .ok (.lconst 0, 1) := by decide +kernel
theorem dX9_writeWord_49 : decode cX9_writeWord 49 = .ok (.lcmp, 1) := by decide +kernel
theorem dX9_writeWord_50 : decode cX9_writeWord 50 = .ok (.ifCond .eq 21, 3) := by decide +kernel
theorem dX9_writeWord_53 : decode cX9_writeWord 53 = .ok (.lload 11, 2) := by decide +kernel
theorem dX9_writeWord_55 : decode cX9_writeWord 55 = .ok (.lload_n 1, 1) := by decide +kernel
theorem dX9_writeWord_56 : decode cX9_writeWord 56 = .ok (.lload 8, 2) := by decide +kernel
theorem dX9_writeWord_58 : decode cX9_writeWord 58 = .ok (.ldiv, 1) := by decide +kernel
theorem dX9_writeWord_59 : decode cX9_writeWord 59 = .ok (.ldc2_w 108, 3) := by decide +kernel
theorem dX9_writeWord_62 : decode cX9_writeWord 62 = .ok (.lrem, 1) := by decide +kernel
theorem dX9_writeWord_63 : decode cX9_writeWord 63 = .ok (.lcmp, 1) := by decide +kernel
theorem dX9_writeWord_64 : decode cX9_writeWord 64 = .ok (.ifCond .ne 7, 3) := by decide +kernel
theorem dX9_writeWord_67 : decode cX9_writeWord 67 = .ok (.iconst 1, 1) := by decide +kernel
theorem dX9_writeWord_68 : decode cX9_writeWord 68 = .ok (.goto 4, 3) := by decide +kernel
theorem dX9_writeWord_71 : decode cX9_writeWord 71 = .ok (.iconst 0, 1) := by decide +kernel
theorem dX9_writeWord_72 : decode cX9_writeWord 72 = .ok (.istore 7, 2) := by decide +kernel
theorem dX9_writeWord_74 : decode cX9_writeWord 74 = .ok (.iload 5, 2) := by decide +kernel
theorem dX9_writeWord_76 : decode cX9_writeWord 76 = .ok (.iload 7, 2) := by decide +kernel
theorem dX9_writeWord_78 : decode cX9_writeWord 78 = .ok (.ifCond .eq 7, 3) := by decide +kernel
theorem dX9_writeWord_81 : decode cX9_writeWord 81 = .ok (.iconst 1, 1) := by decide +kernel
theorem dX9_writeWord_82 : decode cX9_writeWord 82 = .ok (.goto 4, 3) := by decide +kernel
theorem dX9_writeWord_85 : decode cX9_writeWord 85 = .ok (.iconst 0, 1) := by decide +kernel
theorem dX9_writeWord_86 : decode cX9_writeWord 86 = .ok (.iadd, 1) := by decide +kernel
theorem dX9_writeWord_87 : decode cX9_writeWord 87 = .ok (.istore 5, 2) := by decide +kernel
theorem dX9_writeWord_89 : decode cX9_writeWord 89 = .ok (.iload 6, 2) := by decide +kernel
theorem dX9_writeWord_91 : decode cX9_writeWord 91 = .ok (.lload 11, 2) := by decide +kernel
theorem dX9_writeWord_93 : decode cX9_writeWord 93 = .ok (.lconst 0, 1) := by decide +kernel
theorem dX9_writeWord_94 : decode cX9_writeWord 94 = .ok (.lcmp, 1) := by decide +kernel
theorem dX9_writeWord_95 : decode cX9_writeWord 95 = .ok (.ifCond .eq 7, 3) := by decide +kernel
theorem dX9_writeWord_98 : decode cX9_writeWord 98 = .ok (.iconst 1, 1) := by decide +kernel
theorem dX9_writeWord_99 : decode cX9_writeWord 99 = .ok (.goto 4, 3) := by decide +kernel
theorem dX9_writeWord_102 : decode cX9_writeWord 102 = .ok (.iconst 0, 1) := by decide +kernel
theorem dX9_writeWord_103 : decode cX9_writeWord 103 = .ok (.iadd, 1) := by decide +kernel
theorem dX9_writeWord_104 : decode cX9_writeWord 104 = .ok (.istore 6, 2) := by decide +kernel
theorem dX9_writeWord_106 : decode cX9_writeWord 106 = .ok (.lload 8, 2) := by decide +kernel
theorem dX9_writeWord_108 : decode cX9_writeWord 108 = .ok (.ldc2_w 108, 3) := by decide +kernel
theorem dX9_writeWord_111 : decode cX9_writeWord 111 = .ok (.ldiv, 1) := by decide +kernel
theorem dX9_writeWord_112 : decode cX9_writeWord 112 = .ok (.lstore 8, 2) := by decide +kernel
theorem dX9_writeWord_114 : decode cX9_writeWord 114 = .ok (.iinc 10 1, 3) := by decide +kernel
theorem dX9_writeWord_117 : decode cX9_writeWord 117 = .ok (.goto (-100), 3) := by decide +kernel
theorem dX9_writeWord_120 : decode cX9_writeWord 120 = .ok (.aload_n 0, 1) := by decide +kernel
theorem dX9_writeWord_121 : decode cX9_writeWord 121 = .ok (.iload 5, 2) := by decide +kernel
theorem dX9_writeWord_123 : decode cX9_writeWord 123 = .ok (.invokevirtual 110, 3) := by decide +kernel
theorem dX9_writeWord_126 : decode cX9_writeWord 126 = .ok (.aload_n 0, 1) := by decide +kernel
theorem dX9_writeWord_127 : decode cX9_writeWord 127 = .ok (.iload 6, 2) := by decide +kernel
theorem dX9_writeWord_129 : decode cX9_writeWord 129 = .ok (.iload 5, 2) := by decide +kernel
theorem dX9_writeWord_131 : decode cX9_writeWord 131 = .ok (.isub, 1) := by decide +kernel
theorem dX9_writeWord_132 : decode cX9_writeWord 132 = .ok (.invokevirtual 110, 3) := by decide +kernel
theorem dX9_writeWord_135 : decode cX9_writeWord 135 = .ok (.ldc2_w 106, 3) := by decide +kernel
theorem dX9_writeWord_138 : decode cX9_writeWord 138 = .ok (.lstore 8, 2) := by decide +kernel
theorem dX9_writeWord_140 : decode cX9_writeWord 140 = .ok (.iconst 0, 1) := by decide +kernel
theorem dX9_writeWord_141 : decode cX9_writeWord 141 = .ok (.istore 10, 2) := by decide +kernel
theorem dX9_writeWord_143 : decode cX9_writeWord 143 = .ok (.iload 10, 2) := by decide +kernel
theorem dX9_writeWord_145 : decode cX9_writeWord 145 = .ok (.iload 6, 2) := by decide +kernel
theorem dX9_writeWord_147 : decode cX9_writeWord 147 = .ok (.if_icmp .ge 71, 3) := by decide +kernel
theorem dX9_writeWord_150 : decode cX9_writeWord 150 = .ok (.lload 8, 2) := by decide +kernel
theorem dX9_writeWord_152 : decode cX9_writeWord 152 = .ok (.lconst 0, 1) := by decide +kernel
theorem dX9_writeWord_153 : decode cX9_writeWord 153 = .ok (.lcmp, 1) := by decide +kernel
theorem dX9_writeWord_154 : decode cX9_writeWord 154 = .ok (.ifCond .le 64, 3) := by decide +kernel
theorem dX9_writeWord_157 : decode cX9_writeWord 157 = .ok (.lload_n 3, 1) := by decide +kernel
theorem dX9_writeWord_158 : decode cX9_writeWord 158 = .ok (.lload 8, 2) := by decide +kernel
theorem dX9_writeWord_160 : decode cX9_writeWord 160 = .ok (.ldiv, 1) := by decide +kernel
theorem dX9_writeWord_161 : decode cX9_writeWord 161 = .ok (.ldc2_w 108, 3) := by decide +kernel
theorem dX9_writeWord_164 : decode cX9_writeWord 164 = .ok (.lrem, 1) := by decide +kernel
theorem dX9_writeWord_165 : decode cX9_writeWord 165 = .ok (.l2i, 1) := by decide +kernel
theorem dX9_writeWord_166 : decode cX9_writeWord 166 = .ok (.istore 11, 2) := by decide +kernel
theorem dX9_writeWord_168 : decode cX9_writeWord 168 = .ok (.iload 10, 2) := by decide +kernel
theorem dX9_writeWord_170 : decode cX9_writeWord 170 = .ok (.iload 5, 2) := by decide +kernel
theorem dX9_writeWord_172 : decode cX9_writeWord 172 = .ok (.if_icmp .lt 32, 3) := by decide +kernel
theorem dX9_writeWord_175 : decode cX9_writeWord 175 = .ok (.aload_n 0, 1) := by decide +kernel
theorem dX9_writeWord_176 : decode cX9_writeWord 176 = .ok (.iload 11, 2) := by decide +kernel
theorem dX9_writeWord_178 : decode cX9_writeWord 178 = .ok (.bipush 10, 2) := by decide +kernel
theorem dX9_writeWord_180 : decode cX9_writeWord 180 = .ok (.if_icmp .gt 13, 3) := by decide +kernel
theorem dX9_writeWord_183 : decode cX9_writeWord 183 = .ok (.bipush 48, 2) := by decide +kernel
theorem dX9_writeWord_185 : decode cX9_writeWord 185 = .ok (.iload 11, 2) := by decide +kernel
theorem dX9_writeWord_187 : decode cX9_writeWord 187 = .ok (.iadd, 1) := by decide +kernel
theorem dX9_writeWord_188 : decode cX9_writeWord 188 = .ok (.iconst 1, 1) := by decide +kernel
theorem dX9_writeWord_189 : decode cX9_writeWord 189 = .ok (.isub, 1) := by decide +kernel
theorem dX9_writeWord_190 : decode cX9_writeWord 190 = .ok (.goto 11, 3) := by decide +kernel
theorem dX9_writeWord_193 : decode cX9_writeWord 193 = .ok (.bipush 97, 2) := by decide +kernel
theorem dX9_writeWord_195 : decode cX9_writeWord 195 = .ok (.iload 11, 2) := by decide +kernel
theorem dX9_writeWord_197 : decode cX9_writeWord 197 = .ok (.iadd, 1) := by decide +kernel
theorem dX9_writeWord_198 : decode cX9_writeWord 198 = .ok (.bipush 11, 2) := by decide +kernel
theorem dX9_writeWord_200 : decode cX9_writeWord 200 = .ok (.isub, 1) := by decide +kernel
theorem dX9_writeWord_201 : decode cX9_writeWord 201 = .ok (.invokevirtual 110, 3) := by decide +kernel
theorem dX9_writeWord_204 : decode cX9_writeWord 204 = .ok (.lload 8, 2) := by decide +kernel
theorem dX9_writeWord_206 : decode cX9_writeWord 206 = .ok (.ldc2_w 108, 3) := by decide +kernel
theorem dX9_writeWord_209 : decode cX9_writeWord 209 = .ok (.ldiv, 1) := by decide +kernel
theorem dX9_writeWord_210 : decode cX9_writeWord 210 = .ok (.lstore 8, 2) := by decide +kernel
theorem dX9_writeWord_212 : decode cX9_writeWord 212 = .ok (.iinc 10 1, 3) := by decide +kernel
theorem dX9_writeWord_215 : decode cX9_writeWord 215 = .ok (.goto (-72), 3) := by decide +kernel
theorem dX9_writeWord_218 : decode cX9_writeWord 218 = .ok (.return_, 1) := by decide +kernel
theorem dX9_writeSpots_0 : decode cX9_writeSpots 0 = .ok (.iconst 1, 1) := by decide +kernel
theorem dX9_writeSpots_1 : decode cX9_writeSpots 1 = .ok (.istore_n 3, 1) := by decide +kernel
theorem dX9_writeSpots_2 : decode cX9_writeSpots 2 = .ok (.iload_n 1, 1) := by decide +kernel
theorem dX9_writeSpots_3 : decode cX9_writeSpots 3 = .ok (.iconst 1, 1) := by decide +kernel
theorem dX9_writeSpots_4 : decode cX9_writeSpots 4 = .ok (.iadd, 1) := by decide +kernel
theorem dX9_writeSpots_5 : decode cX9_writeSpots 5 = .ok (.istore 4, 2) := by decide +kernel
theorem dX9_writeSpots_7 : decode cX9_writeSpots 7 = .ok (.iload 4, 2) := by decide +kernel
theorem dX9_writeSpots_9 : decode cX9_writeSpots 9 = .ok (.iload_n 2, 1) := by decide +kernel
theorem dX9_writeSpots_10 : decode cX9_writeSpots 10 = .ok (.if_icmp .ge 37, 3) := by decide +kernel
theorem dX9_writeSpots_13 : decode cX9_writeSpots 13 = .ok (.aload_n 0, 1) := by decide +kernel
theorem dX9_writeSpots_14 : decode cX9_writeSpots 14 = .ok (.getfield 22, 3) := by decide +kernel
theorem dX9_writeSpots_17 : decode cX9_writeSpots 17 = .ok (.iload 4, 2) := by decide +kernel
theorem dX9_writeSpots_19 : decode cX9_writeSpots 19 = .ok (.iaload, 1) := by decide +kernel
theorem dX9_writeSpots_20 : decode cX9_writeSpots 20 = .ok (.bipush 32, 2) := by decide +kernel
theorem dX9_writeSpots_22 : decode cX9_writeSpots 22 = .ok (.idiv, 1) := by decide +kernel
theorem dX9_writeSpots_23 : decode cX9_writeSpots 23 = .ok (.aload_n 0, 1) := by decide +kernel
theorem dX9_writeSpots_24 : decode cX9_writeSpots 24 = .ok (.getfield 22, 3) := by decide +kernel
theorem dX9_writeSpots_27 : decode cX9_writeSpots 27 = .ok (.iload 4, 2) := by decide +kernel
theorem dX9_writeSpots_29 : decode cX9_writeSpots 29 = .ok (.iconst 1, 1) := by decide +kernel
theorem dX9_writeSpots_30 : decode cX9_writeSpots 30 = .ok (.isub, 1) := by decide +kernel
theorem dX9_writeSpots_31 : decode cX9_writeSpots 31 = .ok (.iaload, 1) := by decide +kernel
theorem dX9_writeSpots_32 : decode cX9_writeSpots 32 = .ok (.bipush 32, 2) := by decide +kernel
theorem dX9_writeSpots_34 : decode cX9_writeSpots 34 = .ok (.idiv, 1) := by decide +kernel
theorem dX9_writeSpots_35 : decode cX9_writeSpots 35 = .ok (.if_icmp .eq 6, 3) := by decide +kernel
theorem dX9_writeSpots_38 : decode cX9_writeSpots 38 = .ok (.iinc 3 1, 3) := by decide +kernel
theorem dX9_writeSpots_41 : decode cX9_writeSpots 41 = .ok (.iinc 4 1, 3) := by decide +kernel
theorem dX9_writeSpots_44 : decode cX9_writeSpots 44 = .ok (.goto (-37), 3) := by decide +kernel
theorem dX9_writeSpots_47 : decode cX9_writeSpots 47 = .ok (.aload_n 0, 1) := by decide +kernel
theorem dX9_writeSpots_48 : decode cX9_writeSpots 48 = .ok (.iload_n 3, 1) := by decide +kernel
theorem dX9_writeSpots_49 : decode cX9_writeSpots 49 = .ok (.invokevirtual 47, 3) := by decide +kernel
theorem dX9_writeSpots_52 : decode cX9_writeSpots 52 = .ok (.iconst 0, 1) := by decide +kernel
theorem dX9_writeSpots_53 : decode cX9_writeSpots 53 = .ok (.istore 4, 2) := by decide +kernel
theorem dX9_writeSpots_55 : decode cX9_writeSpots 55 = .ok (.iload_n 1, 1) := by decide +kernel
theorem dX9_writeSpots_56 : decode cX9_writeSpots 56 = .ok (.istore 5, 2) := by decide +kernel
theorem dX9_writeSpots_58 : decode cX9_writeSpots 58 = .ok (.iload 5, 2) := by decide +kernel
theorem dX9_writeSpots_60 : decode cX9_writeSpots 60 = .ok (.iload_n 2, 1) := by decide +kernel
theorem dX9_writeSpots_61 : decode cX9_writeSpots 61 = .ok (.if_icmp .ge 131, 3) := by decide +kernel
theorem dX9_writeSpots_64 : decode cX9_writeSpots 64 = .ok (.aload_n 0, 1) := by decide +kernel
theorem dX9_writeSpots_65 : decode cX9_writeSpots 65 = .ok (.getfield 22, 3) := by decide +kernel
theorem dX9_writeSpots_68 : decode cX9_writeSpots 68 = .ok (.iload 5, 2) := by decide +kernel
theorem dX9_writeSpots_70 : decode cX9_writeSpots 70 = .ok (.iaload, 1) := by decide +kernel
theorem dX9_writeSpots_71 : decode cX9_writeSpots 71 = .ok (.bipush 32, 2) := by decide +kernel
theorem dX9_writeSpots_73 : decode cX9_writeSpots 73 = .ok (.idiv, 1) := by decide +kernel
theorem dX9_writeSpots_74 : decode cX9_writeSpots 74 = .ok (.istore 6, 2) := by decide +kernel
theorem dX9_writeSpots_76 : decode cX9_writeSpots 76 = .ok (.iload 5, 2) := by decide +kernel
theorem dX9_writeSpots_78 : decode cX9_writeSpots 78 = .ok (.iconst 1, 1) := by decide +kernel
theorem dX9_writeSpots_79 : decode cX9_writeSpots 79 = .ok (.iadd, 1) := by decide +kernel
theorem dX9_writeSpots_80 : decode cX9_writeSpots 80 = .ok (.istore 7, 2) := by decide +kernel
theorem dX9_writeSpots_82 : decode cX9_writeSpots 82 = .ok (.iload 7, 2) := by decide +kernel
theorem dX9_writeSpots_84 : decode cX9_writeSpots 84 = .ok (.iload_n 2, 1) := by decide +kernel
theorem dX9_writeSpots_85 : decode cX9_writeSpots 85 = .ok (.if_icmp .ge 24, 3) := by decide +kernel
theorem dX9_writeSpots_88 : decode cX9_writeSpots 88 = .ok (.aload_n 0, 1) := by decide +kernel
theorem dX9_writeSpots_89 : decode cX9_writeSpots 89 = .ok (.getfield 22, 3) := by decide +kernel
theorem dX9_writeSpots_92 : decode cX9_writeSpots 92 = .ok (.iload 7, 2) := by decide +kernel
theorem dX9_writeSpots_94 : decode cX9_writeSpots 94 = .ok (.iaload, 1) := by decide +kernel
theorem dX9_writeSpots_95 : decode cX9_writeSpots 95 = .ok (.bipush 32, 2) := by decide +kernel
theorem dX9_writeSpots_97 : decode cX9_writeSpots 97 = .ok (.idiv, 1) := by decide +kernel
theorem dX9_writeSpots_98 : decode cX9_writeSpots 98 = .ok (.iload 6, 2) := by decide +kernel
theorem dX9_writeSpots_100 : decode cX9_writeSpots 100 = .ok (.if_icmp .ne 9, 3) := by decide +kernel
theorem dX9_writeSpots_103 : decode cX9_writeSpots 103 = .ok (.iinc 7 1, 3) := by decide +kernel
theorem dX9_writeSpots_106 : decode cX9_writeSpots 106 = .ok (.goto (-24), 3) := by decide +kernel
theorem dX9_writeSpots_109 : decode cX9_writeSpots 109 = .ok (.aload_n 0, 1) := by decide +kernel
theorem dX9_writeSpots_110 : decode cX9_writeSpots 110 = .ok (.iload 6, 2) := by decide +kernel
theorem dX9_writeSpots_112 : decode cX9_writeSpots 112 = .ok (.iload 4, 2) := by decide +kernel
theorem dX9_writeSpots_114 : decode cX9_writeSpots 114 = .ok (.isub, 1) := by decide +kernel
theorem dX9_writeSpots_115 : decode cX9_writeSpots 115 = .ok (.invokevirtual 47, 3) := by decide +kernel
theorem dX9_writeSpots_118 : decode cX9_writeSpots 118 = .ok (.aload_n 0, 1) := by decide +kernel
theorem dX9_writeSpots_119 : decode cX9_writeSpots 119 = .ok (.iload 7, 2) := by decide +kernel
theorem dX9_writeSpots_121 : decode cX9_writeSpots 121 = .ok (.iload 5, 2) := by decide +kernel
theorem dX9_writeSpots_123 : decode cX9_writeSpots 123 = .ok (.isub, 1) := by decide +kernel
theorem dX9_writeSpots_124 : decode cX9_writeSpots 124 = .ok (.invokevirtual 47, 3) := by decide +kernel
theorem dX9_writeSpots_127 : decode cX9_writeSpots 127 = .ok (.aload_n 0, 1) := by decide +kernel
theorem dX9_writeSpots_128 : decode cX9_writeSpots 128 = .ok (.aload_n 0, 1) := by decide +kernel
theorem dX9_writeSpots_129 : decode cX9_writeSpots 129 = .ok (.getfield 22, 3) := by decide +kernel
theorem dX9_writeSpots_132 : decode cX9_writeSpots 132 = .ok (.iload 5, 2) := by decide +kernel
theorem dX9_writeSpots_134 : decode cX9_writeSpots 134 = .ok (.iaload, 1) := by decide +kernel
theorem dX9_writeSpots_135 : decode cX9_writeSpots 135 = .ok (.bipush 32, 2) := by decide +kernel
theorem dX9_writeSpots_137 : decode cX9_writeSpots 137 = .ok (.irem, 1) := by decide +kernel
theorem dX9_writeSpots_138 : decode cX9_writeSpots 138 = .ok (.invokevirtual 47, 3) := by decide +kernel
theorem dX9_writeSpots_141 : decode cX9_writeSpots 141 = .ok (.iload 5, 2) := by decide +kernel
theorem dX9_writeSpots_143 : decode cX9_writeSpots 143 = .ok (.iconst 1, 1) := by decide +kernel
theorem dX9_writeSpots_144 : decode cX9_writeSpots 144 = .ok (.iadd, 1) := by decide +kernel
theorem dX9_writeSpots_145 : decode cX9_writeSpots 145 = .ok (.istore 8, 2) := by decide +kernel
theorem dX9_writeSpots_147 : decode cX9_writeSpots 147 = .ok (.iload 8, 2) := by decide +kernel
theorem dX9_writeSpots_149 : decode cX9_writeSpots 149 = .ok (.iload 7, 2) := by decide +kernel
theorem dX9_writeSpots_151 : decode cX9_writeSpots 151 = .ok (.if_icmp .ge 30, 3) := by decide +kernel
theorem dX9_writeSpots_154 : decode cX9_writeSpots 154 = .ok (.aload_n 0, 1) := by decide +kernel
theorem dX9_writeSpots_155 : decode cX9_writeSpots 155 = .ok (.aload_n 0, 1) := by decide +kernel
theorem dX9_writeSpots_156 : decode cX9_writeSpots 156 = .ok (.getfield 22, 3) := by decide +kernel
theorem dX9_writeSpots_159 : decode cX9_writeSpots 159 = .ok (.iload 8, 2) := by decide +kernel
theorem dX9_writeSpots_161 : decode cX9_writeSpots 161 = .ok (.iaload, 1) := by decide +kernel
theorem dX9_writeSpots_162 : decode cX9_writeSpots 162 = .ok (.aload_n 0, 1) := by decide +kernel
theorem dX9_writeSpots_163 : decode cX9_writeSpots 163 = .ok (.getfield 22, 3) := by decide +kernel
theorem dX9_writeSpots_166 : decode cX9_writeSpots 166 = .ok (.iload 8, 2) := by decide +kernel
theorem dX9_writeSpots_168 : decode cX9_writeSpots 168 = .ok (.iconst 1, 1) := by decide +kernel
theorem dX9_writeSpots_169 : decode cX9_writeSpots 169 = .ok (.isub, 1) := by decide +kernel
theorem dX9_writeSpots_170 : decode cX9_writeSpots 170 = .ok (.iaload, 1) := by decide +kernel
theorem dX9_writeSpots_171 : decode cX9_writeSpots 171 = .ok (.isub, 1) := by decide +kernel
theorem dX9_writeSpots_172 : decode cX9_writeSpots 172 = .ok (.invokevirtual 47, 3) := by decide +kernel
theorem dX9_writeSpots_175 : decode cX9_writeSpots 175 = .ok (.iinc 8 1, 3) := by decide +kernel
theorem dX9_writeSpots_178 : decode cX9_writeSpots 178 = .ok (.goto (-31), 3) := by decide +kernel
theorem dX9_writeSpots_181 : decode cX9_writeSpots 181 = .ok (.iload 6, 2) := by decide +kernel
theorem dX9_writeSpots_183 : decode cX9_writeSpots 183 = .ok (.istore 4, 2) := by decide +kernel
theorem dX9_writeSpots_185 : decode cX9_writeSpots 185 = .ok (.iload 7, 2) := by decide +kernel
theorem dX9_writeSpots_187 : decode cX9_writeSpots 187 = .ok (.istore 5, 2) := by decide +kernel
theorem dX9_writeSpots_189 : decode cX9_writeSpots 189 = .ok (.goto (-131), 3) := by decide +kernel
theorem dX9_writeSpots_192 : decode cX9_writeSpots 192 = .ok (.return_, 1) := by decide +kernel
theorem dX9_addNumber_0 : decode cX9_addNumber 0 = .ok (.iload_n 1, 1) := by decide +kernel
theorem dX9_addNumber_1 : decode cX9_addNumber 1 = .ok (.istore_n 2, 1) := by decide +kernel
theorem dX9_addNumber_2 : decode cX9_addNumber 2 = .ok (.iload_n 2, 1) := by decide +kernel
theorem dX9_addNumber_3 : decode cX9_addNumber 3 = .ok (.sipush 128, 3) := by decide +kernel
theorem dX9_addNumber_6 : decode cX9_addNumber 6 = .ok (.if_icmp .lt 25, 3) := by decide +kernel
theorem dX9_addNumber_9 : decode cX9_addNumber 9 = .ok (.aload_n 0, 1) := by decide +kernel
theorem dX9_addNumber_10 : decode cX9_addNumber 10 = .ok (.sipush 128, 3) := by decide +kernel
theorem dX9_addNumber_13 : decode cX9_addNumber 13 = .ok (.iload_n 2, 1) := by decide +kernel
theorem dX9_addNumber_14 : decode cX9_addNumber 14 = .ok (.sipush 128, 3) := by decide +kernel
theorem dX9_addNumber_17 : decode cX9_addNumber 17 = .ok (.irem, 1) := by decide +kernel
theorem dX9_addNumber_18 : decode cX9_addNumber 18 = .ok (.iadd, 1) := by decide +kernel
theorem dX9_addNumber_19 : decode cX9_addNumber 19 = .ok (.invokevirtual 110, 3) := by decide +kernel
theorem dX9_addNumber_22 : decode cX9_addNumber 22 = .ok (.iload_n 2, 1) := by decide +kernel
theorem dX9_addNumber_23 : decode cX9_addNumber 23 = .ok (.sipush 128, 3) := by decide +kernel
theorem dX9_addNumber_26 : decode cX9_addNumber 26 = .ok (.idiv, 1) := by decide +kernel
theorem dX9_addNumber_27 : decode cX9_addNumber 27 = .ok (.istore_n 2, 1) := by decide +kernel
theorem dX9_addNumber_28 : decode cX9_addNumber 28 = .ok (.goto (-26), 3) := by decide +kernel
theorem dX9_addNumber_31 : decode cX9_addNumber 31 = .ok (.aload_n 0, 1) := by decide +kernel
theorem dX9_addNumber_32 : decode cX9_addNumber 32 = .ok (.iload_n 2, 1) := by decide +kernel
theorem dX9_addNumber_33 : decode cX9_addNumber 33 = .ok (.invokevirtual 110, 3) := by decide +kernel
theorem dX9_addNumber_36 : decode cX9_addNumber 36 = .ok (.return_, 1) := by decide +kernel
theorem dX9_addOctet_0 : decode cX9_addOctet 0 = .ok (.aload_n 0, 1) := by decide +kernel
theorem dX9_addOctet_1 : decode cX9_addOctet 1 = .ok (.getfield 38, 3) := by decide +kernel
theorem dX9_addOctet_4 : decode cX9_addOctet 4 = .ok (.sipush 16000, 3) := by decide +kernel
theorem dX9_addOctet_7 : decode cX9_addOctet 7 = .ok (.if_icmp .ge 24, 3) := by decide +kernel
theorem dX9_addOctet_10 : decode cX9_addOctet 10 = .ok (.aload_n 0, 1) := by decide +kernel
theorem dX9_addOctet_11 : decode cX9_addOctet 11 = .ok (.getfield 11, 3) := by decide +kernel
theorem dX9_addOctet_14 : decode cX9_addOctet 14 = .ok (.aload_n 0, 1) := by decide +kernel
theorem dX9_addOctet_15 : decode cX9_addOctet 15 = .ok (.getfield 38, 3) := by decide +kernel
theorem dX9_addOctet_18 : decode cX9_addOctet 18 = .ok (.iload_n 1, 1) := by decide +kernel
theorem dX9_addOctet_19 : decode cX9_addOctet 19 = .ok (.i2b, 1) := by decide +kernel
theorem dX9_addOctet_20 : decode cX9_addOctet 20 = .ok (.bastore, 1) := by decide +kernel
theorem dX9_addOctet_21 : decode cX9_addOctet 21 = .ok (.aload_n 0, 1) := by decide +kernel
theorem dX9_addOctet_22 : decode cX9_addOctet 22 = .ok (.dup, 1) := by decide +kernel
theorem dX9_addOctet_23 : decode cX9_addOctet 23 = .ok (.getfield 38, 3) := by decide +kernel
theorem dX9_addOctet_26 : decode cX9_addOctet 26 = .ok (.iconst 1, 1) := by decide +kernel
theorem dX9_addOctet_27 : decode cX9_addOctet 27 = .ok (.iadd, 1) := by decide +kernel
theorem dX9_addOctet_28 : decode cX9_addOctet 28 = .ok (.putfield 38, 3) := by decide +kernel
theorem dX9_addOctet_31 : decode cX9_addOctet 31 = .ok (.return_, 1) := by decide +kernel
theorem dX10_init_0 : decode cX10_init 0 = .ok (.aload_n 0, 1) := by decide +kernel
theorem dX10_init_1 : decode cX10_init 1 = .ok (.invokespecial 3, 3) := by decide +kernel
theorem dX10_init_4 : decode cX10_init 4 = .ok (.aload_n 0, 1) := by decide +kernel
theorem dX10_init_5 : decode cX10_init 5 = .ok (.sipush 500, 3) := by decide +kernel
theorem dX10_init_8 : decode cX10_init 8 = .ok (.anewarray 9, 3) := by decide +kernel
theorem dX10_init_11 : decode cX10_init 11 = .ok (.putfield 11, 3) := by decide +kernel
theorem dX10_init_14 : decode cX10_init 14 = .ok (.aload_n 0, 1) := by decide +kernel
theorem dX10_init_15 : decode cX10_init 15 = .ok (.sipush 2196, 3) := by decide +kernel
theorem dX10_init_18 : decode cX10_init 18 = .ok (.anewarray 17, 3) := by decide +kernel
theorem dX10_init_21 : decode cX10_init 21 = .ok (.putfield 19, 3) := by decide +kernel
theorem dX10_init_24 : decode cX10_init 24 = .ok (.aload_n 0, 1) := by decide +kernel
theorem dX10_init_25 : decode cX10_init 25 = .ok (.bipush 36, 2) := by decide +kernel
theorem dX10_init_27 : decode cX10_init 27 = .ok (.newarray .int, 2) := by decide +kernel
theorem dX10_init_29 : decode cX10_init 29 = .ok (.putfield 23, 3) := by decide +kernel
theorem dX10_init_32 : decode cX10_init 32 = .ok (.aload_n 0, 1) := by decide +kernel
theorem dX10_init_33 : decode cX10_init 33 = .ok (.bipush 36, 2) := by decide +kernel
theorem dX10_init_35 : decode cX10_init 35 = .ok (.newarray .int, 2) := by decide +kernel
theorem dX10_init_37 : decode cX10_init 37 = .ok (.putfield 27, 3) := by decide +kernel
theorem dX10_init_40 : decode cX10_init 40 = .ok (.aload_n 0, 1) := by decide +kernel
theorem dX10_init_41 : decode cX10_init 41 = .ok (.new 17, 3) := by decide +kernel
theorem dX10_init_44 : decode cX10_init 44 = .ok (.dup, 1) := by decide +kernel
theorem dX10_init_45 : decode cX10_init 45 = .ok (.invokespecial 30, 3) := by decide +kernel
theorem dX10_init_48 : decode cX10_init 48 = .ok (.putfield 31, 3) := by decide +kernel
theorem dX10_init_51 : decode cX10_init 51 = .ok (.aload_n 0, 1) := by decide +kernel
theorem dX10_init_52 : decode cX10_init 52 = .ok (.sipush 6400, 3) := by decide +kernel
theorem dX10_init_55 : decode cX10_init 55 = .ok (.newarray .byte, 2) := by decide +kernel
theorem dX10_init_57 : decode cX10_init 57 = .ok (.putfield 35, 3) := by decide +kernel
theorem dX10_init_60 : decode cX10_init 60 = .ok (.aload_n 0, 1) := by decide +kernel
theorem dX10_init_61 : decode cX10_init 61 = .ok (.bipush 64, 2) := by decide +kernel
theorem dX10_init_63 : decode cX10_init 63 = .ok (.newarray .byte, 2) := by decide +kernel
theorem dX10_init_65 : decode cX10_init 65 = .ok (.putfield 39, 3) := by decide +kernel
theorem dX10_init_68 : decode cX10_init 68 = .ok (.aload_n 0, 1) := by decide +kernel
theorem dX10_init_69 : decode cX10_init 69 = .ok (.bipush 100, 2) := by decide +kernel
theorem dX10_init_71 : decode cX10_init 71 = .ok (.newarray .int, 2) := by decide +kernel
theorem dX10_init_73 : decode cX10_init 73 = .ok (.putfield 42, 3) := by decide +kernel
theorem dX10_init_76 : decode cX10_init 76 = .ok (.return_, 1) := by decide +kernel
theorem dX10_begin_0 : decode cX10_begin 0 = .ok (.aload_n 0, 1) := by decide +kernel
theorem dX10_begin_1 : decode cX10_begin 1 = .ok (.iload_n 1, 1) := by decide +kernel
theorem dX10_begin_2 : decode cX10_begin 2 = .ok (.putfield 45, 3) := by decide +kernel
theorem dX10_begin_5 : decode cX10_begin 5 = .ok (.aload_n 0, 1) := by decide +kernel
theorem dX10_begin_6 : decode cX10_begin 6 = .ok (.iload_n 2, 1) := by decide +kernel
theorem dX10_begin_7 : decode cX10_begin 7 = .ok (.putfield 49, 3) := by decide +kernel
theorem dX10_begin_10 : decode cX10_begin 10 = .ok (.aload_n 0, 1) := by decide +kernel
theorem dX10_begin_11 : decode cX10_begin 11 = .ok (.iload_n 3, 1) := by decide +kernel
theorem dX10_begin_12 : decode cX10_begin 12 = .ok (.putfield 52, 3) := by decide +kernel
theorem dX10_begin_15 : decode cX10_begin 15 = .ok (.aload_n 0, 1) := by decide +kernel
theorem dX10_begin_16 : decode cX10_begin 16 = .ok (.iconst 0, 1) := by decide +kernel
theorem dX10_begin_17 : decode cX10_begin 17 = .ok (.putfield 55, 3) := by decide +kernel
theorem dX10_begin_20 : decode cX10_begin 20 = .ok (.iconst 0, 1) := by decide +kernel
theorem dX10_begin_21 : decode cX10_begin 21 = .ok (.istore 4, 2) := by decide +kernel
theorem dX10_begin_23 : decode cX10_begin 23 = .ok (.iload 4, 2) := by decide +kernel
theorem dX10_begin_25 : decode cX10_begin 25 = .ok (.aload_n 0, 1) := by decide +kernel
theorem dX10_begin_26 : decode cX10_begin 26 = .ok (.getfield 58, 3) := by decide +kernel
theorem dX10_begin_29 : decode cX10_begin 29 = .ok (.if_icmp .ge 17, 3) := by decide +kernel
theorem dX10_begin_32 : decode cX10_begin 32 = .ok (.aload_n 0, 1) := by decide +kernel
theorem dX10_begin_33 : decode cX10_begin 33 = .ok (.getfield 11, 3) := by decide +kernel
theorem dX10_begin_36 : decode cX10_begin 36 = .ok (.iload 4, 2) := by decide +kernel
theorem dX10_begin_38 : decode cX10_begin 38 = .ok (.aconst_null, 1) := by decide +kernel
theorem dX10_begin_39 : decode cX10_begin 39 = .ok (.aastore, 1) := by decide +kernel
theorem dX10_begin_40 : decode cX10_begin 40 = .ok (.iinc 4 1, 3) := by decide +kernel
theorem dX10_begin_43 : decode cX10_begin 43 = .ok (.goto (-20), 3) := by decide +kernel
theorem dX10_begin_46 : decode cX10_begin 46 = .ok (.aload_n 0, 1) := by decide +kernel
theorem dX10_begin_47 : decode cX10_begin 47 = .ok (.iconst 0, 1) := by decide +kernel
theorem dX10_begin_48 : decode cX10_begin 48 = .ok (.putfield 58, 3) := by decide +kernel
theorem dX10_begin_51 : decode cX10_begin 51 = .ok (.aload_n 0, 1) := by decide +kernel
theorem dX10_begin_52 : decode cX10_begin 52 = .ok (.iconst 0, 1) := by decide +kernel
theorem dX10_begin_53 : decode cX10_begin 53 = .ok (.putfield 61, 3) := by decide +kernel
theorem dX10_begin_56 : decode cX10_begin 56 = .ok (.aload_n 0, 1) := by decide +kernel
theorem dX10_begin_57 : decode cX10_begin 57 = .ok (.iconst 0, 1) := by decide +kernel
theorem dX10_begin_58 : decode cX10_begin 58 = .ok (.putfield 64, 3) := by decide +kernel
theorem dX10_begin_61 : decode cX10_begin 61 = .ok (.aload_n 0, 1) := by decide +kernel
theorem dX10_begin_62 : decode cX10_begin 62 = .ok (.iconst 0, 1) := by decide +kernel
theorem dX10_begin_63 : decode cX10_begin 63 = .ok (.putfield 67, 3) := by decide +kernel
theorem dX10_begin_66 : decode cX10_begin 66 = .ok (.aload_n 0, 1) := by decide +kernel
theorem dX10_begin_67 : decode cX10_begin 67 = .ok (.iconst 0, 1) := by decide +kernel
theorem dX10_begin_68 : decode cX10_begin 68 = .ok (.putfield 70, 3) := by decide +kernel
theorem dX10_begin_71 : decode cX10_begin 71 = .ok (.aload_n 0, 1) := by decide +kernel
theorem dX10_begin_72 : decode cX10_begin 72 = .ok (.getfield 27, 3) := by decide +kernel
theorem dX10_begin_75 : decode cX10_begin 75 = .ok (.iconst 0, 1) := by decide +kernel
theorem dX10_begin_76 : decode cX10_begin 76 = .ok (.invokestatic 73, 3) := by decide +kernel
theorem dX10_begin_79 : decode cX10_begin 79 = .ok (.return_, 1) := by decide +kernel
theorem dX10_holds_0 : decode cX10_holds 0 = .ok (.iload_n 1, 1) := by decide +kernel
theorem dX10_holds_1 : decode cX10_holds 1 = .ok (.ifCond .lt 44, 3) := by decide +kernel
theorem dX10_holds_4 : decode cX10_holds 4 = .ok (.iload_n 1, 1) := by decide +kernel
theorem dX10_holds_5 : decode cX10_holds 5 = .ok (.aload_n 0, 1) := by decide +kernel
theorem dX10_holds_6 : decode cX10_holds 6 = .ok (.getfield 45, 3) := by decide +kernel
theorem dX10_holds_9 : decode cX10_holds 9 = .ok (.if_icmp .ge 36, 3) := by decide +kernel
theorem dX10_holds_12 : decode cX10_holds 12 = .ok (.iload_n 2, 1) := by decide +kernel
theorem dX10_holds_13 : decode cX10_holds 13 = .ok (.ifCond .lt 32, 3) := by decide +kernel
theorem dX10_holds_16 : decode cX10_holds 16 = .ok (.iload_n 2, 1) := by decide +kernel
theorem dX10_holds_17 : decode cX10_holds 17 = .ok (.aload_n 0, 1) := by decide +kernel
theorem dX10_holds_18 : decode cX10_holds 18 = .ok (.getfield 49, 3) := by decide +kernel
theorem dX10_holds_21 : decode cX10_holds 21 = .ok (.if_icmp .ge 24, 3) := by decide +kernel
theorem dX10_holds_24 : decode cX10_holds 24 = .ok (.iload_n 1, 1) := by decide +kernel
theorem dX10_holds_25 : decode cX10_holds 25 = .ok (.iload_n 2, 1) := by decide +kernel
theorem dX10_holds_26 : decode cX10_holds 26 = .ok (.isub, 1) := by decide +kernel
theorem dX10_holds_27 : decode cX10_holds 27 = .ok (.aload_n 0, 1) := by decide +kernel
theorem dX10_holds_28 : decode cX10_holds 28 = .ok (.getfield 45, 3) := by decide +kernel
theorem dX10_holds_31 : decode cX10_holds 31 = .ok (.invokestatic 79, 3) := by decide +kernel
theorem dX10_holds_34 : decode cX10_holds 34 = .ok (.aload_n 0, 1) := by decide +kernel
theorem dX10_holds_35 : decode cX10_holds 35 = .ok (.getfield 52, 3) := by decide +kernel
theorem dX10_holds_38 : decode cX10_holds 38 = .ok (.if_icmp .ge 7, 3) := by decide +kernel
theorem dX10_holds_41 : decode cX10_holds 41 = .ok (.iconst 1, 1) := by decide +kernel
theorem dX10_holds_42 : decode cX10_holds 42 = .ok (.goto 4, 3) := by decide +kernel
theorem dX10_holds_45 : decode cX10_holds 45 = .ok (.iconst 0, 1) := by decide +kernel
theorem dX10_holds_46 : decode cX10_holds 46 = .ok (.ireturn, 1) := by decide +kernel
theorem dX10_maskOf_0 : decode cX10_maskOf 0 = .ok (.iconst 0, 1) := by decide +kernel
theorem dX10_maskOf_1 : decode cX10_maskOf 1 = .ok (.istore_n 2, 1) := by decide +kernel
theorem dX10_maskOf_2 : decode cX10_maskOf 2 = .ok (.iconst 0, 1) := by decide +kernel
theorem dX10_maskOf_3 : decode cX10_maskOf 3 = .ok (.istore_n 3, 1) := by decide +kernel
theorem dX10_maskOf_4 : decode cX10_maskOf 4 = .ok (.iload_n 3, 1) := by decide +kernel
theorem dX10_maskOf_5 : decode cX10_maskOf 5 = .ok (.aload_n 0, 1) := by decide +kernel
theorem dX10_maskOf_6 : decode cX10_maskOf 6 = .ok (.getfield 45, 3) := by decide +kernel
theorem dX10_maskOf_9 : decode cX10_maskOf 9 = .ok (.if_icmp .ge 24, 3) := by decide +kernel
theorem dX10_maskOf_12 : decode cX10_maskOf 12 = .ok (.aload_n 0, 1) := by decide +kernel
theorem dX10_maskOf_13 : decode cX10_maskOf 13 = .ok (.iload_n 3, 1) := by decide +kernel
theorem dX10_maskOf_14 : decode cX10_maskOf 14 = .ok (.iload_n 1, 1) := by decide +kernel
theorem dX10_maskOf_15 : decode cX10_maskOf 15 = .ok (.invokevirtual 85, 3) := by decide +kernel
theorem dX10_maskOf_18 : decode cX10_maskOf 18 = .ok (.ifCond .eq 9, 3) := by decide +kernel
theorem dX10_maskOf_21 : decode cX10_maskOf 21 = .ok (.iload_n 2, 1) := by decide +kernel
theorem dX10_maskOf_22 : decode cX10_maskOf 22 = .ok (.iconst 1, 1) := by decide +kernel
theorem dX10_maskOf_23 : decode cX10_maskOf 23 = .ok (.iload_n 3, 1) := by decide +kernel
theorem dX10_maskOf_24 : decode cX10_maskOf 24 = .ok (.ishl, 1) := by decide +kernel
theorem dX10_maskOf_25 : decode cX10_maskOf 25 = .ok (.ior, 1) := by decide +kernel
theorem dX10_maskOf_26 : decode cX10_maskOf 26 = .ok (.istore_n 2, 1) := by decide +kernel
theorem dX10_maskOf_27 : decode cX10_maskOf 27 = .ok (.iinc 3 1, 3) := by decide +kernel
theorem dX10_maskOf_30 : decode cX10_maskOf 30 = .ok (.goto (-26), 3) := by decide +kernel
theorem dX10_maskOf_33 : decode cX10_maskOf 33 = .ok (.iload_n 2, 1) := by decide +kernel
theorem dX10_maskOf_34 : decode cX10_maskOf 34 = .ok (.ireturn, 1) := by decide +kernel
theorem dX10_shardOf_0 : decode cX10_shardOf 0 = .ok (.aload_n 0, 1) := by decide +kernel
theorem dX10_shardOf_1 : decode cX10_shardOf 1 = .ok (.getfield 49, 3) := by decide +kernel
theorem dX10_shardOf_4 : decode cX10_shardOf 4 = .ok (.ifCond .le 12, 3) := by decide +kernel
theorem dX10_shardOf_7 : decode cX10_shardOf 7 = .ok (.iload_n 1, 1) := by decide +kernel
theorem dX10_shardOf_8 : decode cX10_shardOf 8 = .ok (.aload_n 0, 1) := by decide +kernel
theorem dX10_shardOf_9 : decode cX10_shardOf 9 = .ok (.getfield 49, 3) := by decide +kernel
theorem dX10_shardOf_12 : decode cX10_shardOf 12 = .ok (.irem, 1) := by decide +kernel
theorem dX10_shardOf_13 : decode cX10_shardOf 13 = .ok (.goto 4, 3) := by decide +kernel
theorem dX10_shardOf_16 : decode cX10_shardOf 16 = .ok (.iconst 0, 1) := by decide +kernel
theorem dX10_shardOf_17 : decode cX10_shardOf 17 = .ok (.ireturn, 1) := by decide +kernel
theorem dX10_firstPrimaryOf_0 : decode cX10_firstPrimaryOf 0 = .ok (.aload_n 0, 1) := by decide +kernel
theorem dX10_firstPrimaryOf_1 : decode cX10_firstPrimaryOf 1 = .ok (.getfield 45, 3) := by decide +kernel
theorem dX10_firstPrimaryOf_4 : decode cX10_firstPrimaryOf 4 = .ok (.ifCond .le 12, 3) := by decide +kernel
theorem dX10_firstPrimaryOf_7 : decode cX10_firstPrimaryOf 7 = .ok (.iload_n 1, 1) := by decide +kernel
theorem dX10_firstPrimaryOf_8 : decode cX10_firstPrimaryOf 8 = .ok (.aload_n 0, 1) := by decide +kernel
theorem dX10_firstPrimaryOf_9 : decode cX10_firstPrimaryOf 9 = .ok (.getfield 45, 3) := by decide +kernel
theorem dX10_firstPrimaryOf_12 : decode cX10_firstPrimaryOf 12 = .ok (.irem, 1) := by decide +kernel
theorem dX10_firstPrimaryOf_13 : decode cX10_firstPrimaryOf 13 = .ok (.goto 4, 3) := by decide +kernel
theorem dX10_firstPrimaryOf_16 : decode cX10_firstPrimaryOf 16 = .ok (.iconst 0, 1) := by decide +kernel
theorem dX10_firstPrimaryOf_17 : decode cX10_firstPrimaryOf 17 = .ok (.ireturn, 1) := by decide +kernel
theorem dX10_requestAt_0 : decode cX10_requestAt 0 = .ok (.iload_n 1, 1) := by decide +kernel
theorem dX10_requestAt_1 : decode cX10_requestAt 1 = .ok (.ifCond .lt 11, 3) := by decide +kernel
theorem dX10_requestAt_4 : decode cX10_requestAt 4 = .ok (.iload_n 1, 1) := by decide +kernel
theorem dX10_requestAt_5 : decode cX10_requestAt 5 = .ok (.aload_n 0, 1) := by decide +kernel
theorem dX10_requestAt_6 : decode cX10_requestAt 6 = .ok (.getfield 58, 3) := by decide +kernel
theorem dX10_requestAt_9 : decode cX10_requestAt 9 = .ok (.if_icmp .lt 7, 3) := by decide +kernel
theorem dX10_requestAt_12 : decode cX10_requestAt 12 = .ok (.aconst_null, 1) := by decide +kernel
theorem dX10_requestAt_13 : decode cX10_requestAt 13 = .ok (.goto 9, 3) := by decide +kernel
theorem dX10_requestAt_16 : decode cX10_requestAt 16 = .ok (.aload_n 0, 1) := by decide +kernel
theorem dX10_requestAt_17 : decode cX10_requestAt 17 = .ok (.getfield 11, 3) := by decide +kernel
theorem dX10_requestAt_20 : decode cX10_requestAt 20 = .ok (.iload_n 1, 1) := by decide +kernel
theorem dX10_requestAt_21 : decode cX10_requestAt 21 = .ok (.aaload, 1) := by decide +kernel
theorem dX10_requestAt_22 : decode cX10_requestAt 22 = .ok (.areturn, 1) := by decide +kernel
theorem dX10_linkOf_0 : decode cX10_linkOf 0 = .ok (.iload_n 1, 1) := by decide +kernel
theorem dX10_linkOf_1 : decode cX10_linkOf 1 = .ok (.ifCond .lt 23, 3) := by decide +kernel
theorem dX10_linkOf_4 : decode cX10_linkOf 4 = .ok (.iload_n 1, 1) := by decide +kernel
theorem dX10_linkOf_5 : decode cX10_linkOf 5 = .ok (.aload_n 0, 1) := by decide +kernel
theorem dX10_linkOf_6 : decode cX10_linkOf 6 = .ok (.getfield 45, 3) := by decide +kernel
theorem dX10_linkOf_9 : decode cX10_linkOf 9 = .ok (.if_icmp .gt 15, 3) := by decide +kernel
theorem dX10_linkOf_12 : decode cX10_linkOf 12 = .ok (.iload_n 2, 1) := by decide +kernel
theorem dX10_linkOf_13 : decode cX10_linkOf 13 = .ok (.ifCond .lt 11, 3) := by decide +kernel
theorem dX10_linkOf_16 : decode cX10_linkOf 16 = .ok (.iload_n 2, 1) := by decide +kernel
theorem dX10_linkOf_17 : decode cX10_linkOf 17 = .ok (.aload_n 0, 1) := by decide +kernel
theorem dX10_linkOf_18 : decode cX10_linkOf 18 = .ok (.getfield 45, 3) := by decide +kernel
theorem dX10_linkOf_21 : decode cX10_linkOf 21 = .ok (.if_icmp .le 7, 3) := by decide +kernel
theorem dX10_linkOf_24 : decode cX10_linkOf 24 = .ok (.iconst (-1), 1) := by decide +kernel
theorem dX10_linkOf_25 : decode cX10_linkOf 25 = .ok (.goto 9, 3) := by decide +kernel
theorem dX10_linkOf_28 : decode cX10_linkOf 28 = .ok (.iload_n 1, 1) := by decide +kernel
theorem dX10_linkOf_29 : decode cX10_linkOf 29 = .ok (.bipush 6, 2) := by decide +kernel
theorem dX10_linkOf_31 : decode cX10_linkOf 31 = .ok (.imul, 1) := by decide +kernel
theorem dX10_linkOf_32 : decode cX10_linkOf 32 = .ok (.iload_n 2, 1) := by decide +kernel
theorem dX10_linkOf_33 : decode cX10_linkOf 33 = .ok (.iadd, 1) := by decide +kernel
theorem dX10_linkOf_34 : decode cX10_linkOf 34 = .ok (.ireturn, 1) := by decide +kernel
theorem dX10_send_0 : decode cX10_send 0 = .ok (.aload_n 0, 1) := by decide +kernel
theorem dX10_send_1 : decode cX10_send 1 = .ok (.getfield 31, 3) := by decide +kernel
theorem dX10_send_4 : decode cX10_send 4 = .ok (.astore 4, 2) := by decide +kernel
theorem dX10_send_6 : decode cX10_send 6 = .ok (.aload_n 0, 1) := by decide +kernel
theorem dX10_send_7 : decode cX10_send 7 = .ok (.iload_n 1, 1) := by decide +kernel
theorem dX10_send_8 : decode cX10_send 8 = .ok (.iload_n 2, 1) := by decide +kernel
theorem dX10_send_9 : decode cX10_send 9 = .ok (.invokevirtual 89, 3) := by decide +kernel
theorem dX10_send_12 : decode cX10_send 12 = .ok (.istore 5, 2) := by decide +kernel
theorem dX10_send_14 : decode cX10_send 14 = .ok (.iload 5, 2) := by decide +kernel
theorem dX10_send_16 : decode cX10_send 16 = .ok (.iconst (-1), 1) := by decide +kernel
theorem dX10_send_17 : decode cX10_send 17 = .ok (.if_icmp .eq 28, 3) := by decide +kernel
theorem dX10_send_20 : decode cX10_send 20 = .ok (.aload_n 0, 1) := by decide +kernel
theorem dX10_send_21 : decode cX10_send 21 = .ok (.getfield 27, 3) := by decide +kernel
theorem dX10_send_24 : decode cX10_send 24 = .ok (.iload 5, 2) := by decide +kernel
theorem dX10_send_26 : decode cX10_send 26 = .ok (.iaload, 1) := by decide +kernel
theorem dX10_send_27 : decode cX10_send 27 = .ok (.bipush 60, 2) := by decide +kernel
theorem dX10_send_29 : decode cX10_send 29 = .ok (.if_icmp .lt 16, 3) := by decide +kernel
theorem dX10_send_32 : decode cX10_send 32 = .ok (.aload_n 0, 1) := by decide +kernel
theorem dX10_send_33 : decode cX10_send 33 = .ok (.dup, 1) := by decide +kernel
theorem dX10_send_34 : decode cX10_send 34 = .ok (.getfield 67, 3) := by decide +kernel
theorem dX10_send_37 : decode cX10_send 37 = .ok (.iconst 1, 1) := by decide +kernel
theorem dX10_send_38 : decode cX10_send 38 = .ok (.iadd, 1) := by decide +kernel
theorem dX10_send_39 : decode cX10_send 39 = .ok (.putfield 67, 3) := by decide +kernel
theorem dX10_send_42 : decode cX10_send 42 = .ok (.goto 79, 3) := by decide +kernel
theorem dX10_send_45 : decode cX10_send 45 = .ok (.iload 5, 2) := by decide +kernel
theorem dX10_send_47 : decode cX10_send 47 = .ok (.iconst (-1), 1) := by decide +kernel
theorem dX10_send_48 : decode cX10_send 48 = .ok (.if_icmp .eq 73, 3) := by decide +kernel
theorem dX10_send_51 : decode cX10_send 51 = .ok (.iload 5, 2) := by decide +kernel
theorem dX10_send_53 : decode cX10_send 53 = .ok (.bipush 61, 2) := by decide +kernel
theorem dX10_send_55 : decode cX10_send 55 = .ok (.imul, 1) := by decide +kernel
theorem dX10_send_56 : decode cX10_send 56 = .ok (.aload_n 0, 1) := by decide +kernel
theorem dX10_send_57 : decode cX10_send 57 = .ok (.getfield 23, 3) := by decide +kernel
theorem dX10_send_60 : decode cX10_send 60 = .ok (.iload 5, 2) := by decide +kernel
theorem dX10_send_62 : decode cX10_send 62 = .ok (.iaload, 1) := by decide +kernel
theorem dX10_send_63 : decode cX10_send 63 = .ok (.aload_n 0, 1) := by decide +kernel
theorem dX10_send_64 : decode cX10_send 64 = .ok (.getfield 27, 3) := by decide +kernel
theorem dX10_send_67 : decode cX10_send 67 = .ok (.iload 5, 2) := by decide +kernel
theorem dX10_send_69 : decode cX10_send 69 = .ok (.iaload, 1) := by decide +kernel
theorem dX10_send_70 : decode cX10_send 70 = .ok (.iadd, 1) := by decide +kernel
theorem dX10_send_71 : decode cX10_send 71 = .ok (.bipush 61, 2) := by decide +kernel
theorem dX10_send_73 : decode cX10_send 73 = .ok (.irem, 1) := by decide +kernel
theorem dX10_send_74 : decode cX10_send 74 = .ok (.iadd, 1) := by decide +kernel
theorem dX10_send_75 : decode cX10_send 75 = .ok (.istore 6, 2) := by decide +kernel
theorem dX10_send_77 : decode cX10_send 77 = .ok (.aload_n 0, 1) := by decide +kernel
theorem dX10_send_78 : decode cX10_send 78 = .ok (.getfield 19, 3) := by decide +kernel
theorem dX10_send_81 : decode cX10_send 81 = .ok (.iload 6, 2) := by decide +kernel
theorem dX10_send_83 : decode cX10_send 83 = .ok (.aaload, 1) := by decide +kernel
theorem dX10_send_84 : decode cX10_send 84 = .ok (.ifnonnull 17, 3) := by decide +kernel
theorem dX10_send_87 : decode cX10_send 87 = .ok (.aload_n 0, 1) := by decide +kernel
theorem dX10_send_88 : decode cX10_send 88 = .ok (.getfield 19, 3) := by decide +kernel
theorem dX10_send_91 : decode cX10_send 91 = .ok (.iload 6, 2) := by decide +kernel
theorem dX10_send_93 : decode cX10_send 93 = .ok (.new 17, 3) := by decide +kernel
theorem dX10_send_96 : decode cX10_send 96 = .ok (.dup, 1) := by decide +kernel
theorem dX10_send_97 : decode cX10_send 97 = .ok (.invokespecial 30, 3) := by decide +kernel
theorem dX10_send_100 : decode cX10_send 100 = .ok (.aastore, 1) := by decide +kernel
theorem dX10_send_101 : decode cX10_send 101 = .ok (.aload_n 0, 1) := by decide +kernel
theorem dX10_send_102 : decode cX10_send 102 = .ok (.getfield 27, 3) := by decide +kernel
theorem dX10_send_105 : decode cX10_send 105 = .ok (.iload 5, 2) := by decide +kernel
theorem dX10_send_107 : decode cX10_send 107 = .ok (.dup2, 1) := by decide +kernel
theorem dX10_send_108 : decode cX10_send 108 = .ok (.iaload, 1) := by decide +kernel
theorem dX10_send_109 : decode cX10_send 109 = .ok (.iconst 1, 1) := by decide +kernel
theorem dX10_send_110 : decode cX10_send 110 = .ok (.iadd, 1) := by decide +kernel
theorem dX10_send_111 : decode cX10_send 111 = .ok (.iastore, 1) := by decide +kernel
theorem dX10_send_112 : decode cX10_send 112 = .ok (.aload_n 0, 1) := by decide +kernel
theorem dX10_send_113 : decode cX10_send 113 = .ok (.getfield 19, 3) := by decide +kernel
theorem dX10_send_116 : decode cX10_send 116 = .ok (.iload 6, 2) := by decide +kernel
theorem dX10_send_118 : decode cX10_send 118 = .ok (.aaload, 1) := by decide +kernel
theorem dX10_send_119 : decode cX10_send 119 = .ok (.astore 4, 2) := by decide +kernel
theorem dX10_send_121 : decode cX10_send 121 = .ok (.aload 4, 2) := by decide +kernel
theorem dX10_send_123 : decode cX10_send 123 = .ok (.iload_n 3, 1) := by decide +kernel
theorem dX10_send_124 : decode cX10_send 124 = .ok (.putfield 92, 3) := by decide +kernel
theorem dX10_send_127 : decode cX10_send 127 = .ok (.aload 4, 2) := by decide +kernel
theorem dX10_send_129 : decode cX10_send 129 = .ok (.getfield 95, 3) := by decide +kernel
theorem dX10_send_132 : decode cX10_send 132 = .ok (.iconst 0, 1) := by decide +kernel
theorem dX10_send_133 : decode cX10_send 133 = .ok (.invokestatic 73, 3) := by decide +kernel
theorem dX10_send_136 : decode cX10_send 136 = .ok (.aload 4, 2) := by decide +kernel
theorem dX10_send_138 : decode cX10_send 138 = .ok (.areturn, 1) := by decide +kernel
theorem dX10_refuse_0 : decode cX10_refuse 0 = .ok (.aload_n 0, 1) := by decide +kernel
theorem dX10_refuse_1 : decode cX10_refuse 1 = .ok (.iload_n 1, 1) := by decide +kernel
theorem dX10_refuse_2 : decode cX10_refuse 2 = .ok (.iload_n 2, 1) := by decide +kernel
theorem dX10_refuse_3 : decode cX10_refuse 3 = .ok (.iconst 4, 1) := by decide +kernel
theorem dX10_refuse_4 : decode cX10_refuse 4 = .ok (.invokevirtual 98, 3) := by decide +kernel
theorem dX10_refuse_7 : decode cX10_refuse 7 = .ok (.aload_n 3, 1) := by decide +kernel
theorem dX10_refuse_8 : decode cX10_refuse 8 = .ok (.getfield 95, 3) := by decide +kernel
theorem dX10_refuse_11 : decode cX10_refuse 11 = .ok (.iconst 0, 1) := by decide +kernel
theorem dX10_refuse_12 : decode cX10_refuse 12 = .ok (.iaload, 1) := by decide +kernel
theorem dX10_refuse_13 : decode cX10_refuse 13 = .ok (.aload_n 3, 1) := by decide +kernel
theorem dX10_refuse_14 : decode cX10_refuse 14 = .ok (.getfield 95, 3) := by decide +kernel
theorem dX10_refuse_17 : decode cX10_refuse 17 = .ok (.iconst 1, 1) := by decide +kernel
theorem dX10_refuse_18 : decode cX10_refuse 18 = .ok (.iaload, 1) := by decide +kernel
theorem dX10_refuse_19 : decode cX10_refuse 19 = .ok (.iconst 0, 1) := by decide +kernel
theorem dX10_refuse_20 : decode cX10_refuse 20 = .ok (.iconst 0, 1) := by decide +kernel
theorem dX10_refuse_21 : decode cX10_refuse 21 = .ok (.iconst 0, 1) := by decide +kernel
theorem dX10_refuse_22 : decode cX10_refuse 22 = .ok (.invokevirtual 102, 3) := by decide +kernel
theorem dX10_refuse_25 : decode cX10_refuse 25 = .ok (.pop, 1) := by decide +kernel
theorem dX10_refuse_26 : decode cX10_refuse 26 = .ok (.return_, 1) := by decide +kernel
theorem dX10_sendDone_0 : decode cX10_sendDone 0 = .ok (.aload_n 0, 1) := by decide +kernel
theorem dX10_sendDone_1 : decode cX10_sendDone 1 = .ok (.iload_n 2, 1) := by decide +kernel
theorem dX10_sendDone_2 : decode cX10_sendDone 2 = .ok (.invokevirtual 106, 3) := by decide +kernel
theorem dX10_sendDone_5 : decode cX10_sendDone 5 = .ok (.astore_n 3, 1) := by decide +kernel
theorem dX10_sendDone_6 : decode cX10_sendDone 6 = .ok (.aload_n 3, 1) := by decide +kernel
theorem dX10_sendDone_7 : decode cX10_sendDone 7 = .ok (.ifnull 22, 3) := by decide +kernel
theorem dX10_sendDone_10 : decode cX10_sendDone 10 = .ok (.aload_n 0, 1) := by decide +kernel
theorem dX10_sendDone_11 : decode cX10_sendDone 11 = .ok (.iload_n 1, 1) := by decide +kernel
theorem dX10_sendDone_12 : decode cX10_sendDone 12 = .ok (.aload_n 3, 1) := by decide +kernel
theorem dX10_sendDone_13 : decode cX10_sendDone 13 = .ok (.getfield 110, 3) := by decide +kernel
theorem dX10_sendDone_16 : decode cX10_sendDone 16 = .ok (.iconst 5, 1) := by decide +kernel
theorem dX10_sendDone_17 : decode cX10_sendDone 17 = .ok (.invokevirtual 98, 3) := by decide +kernel
theorem dX10_sendDone_20 : decode cX10_sendDone 20 = .ok (.iload_n 2, 1) := by decide +kernel
theorem dX10_sendDone_21 : decode cX10_sendDone 21 = .ok (.iconst 0, 1) := by decide +kernel
theorem dX10_sendDone_22 : decode cX10_sendDone 22 = .ok (.iconst 0, 1) := by decide +kernel
theorem dX10_sendDone_23 : decode cX10_sendDone 23 = .ok (.iconst 0, 1) := by decide +kernel
theorem dX10_sendDone_24 : decode cX10_sendDone 24 = .ok (.iconst 0, 1) := by decide +kernel
theorem dX10_sendDone_25 : decode cX10_sendDone 25 = .ok (.invokevirtual 102, 3) := by decide +kernel
theorem dX10_sendDone_28 : decode cX10_sendDone 28 = .ok (.pop, 1) := by decide +kernel
theorem dX10_sendDone_29 : decode cX10_sendDone 29 = .ok (.return_, 1) := by decide +kernel
theorem dX10_messageAt_0 : decode cX10_messageAt 0 = .ok (.aload_n 0, 1) := by decide +kernel
theorem dX10_messageAt_1 : decode cX10_messageAt 1 = .ok (.iload_n 1, 1) := by decide +kernel
theorem dX10_messageAt_2 : decode cX10_messageAt 2 = .ok (.iload_n 2, 1) := by decide +kernel
theorem dX10_messageAt_3 : decode cX10_messageAt 3 = .ok (.invokevirtual 89, 3) := by decide +kernel
theorem dX10_messageAt_6 : decode cX10_messageAt 6 = .ok (.istore 4, 2) := by decide +kernel
theorem dX10_messageAt_8 : decode cX10_messageAt 8 = .ok (.iload 4, 2) := by decide +kernel
theorem dX10_messageAt_10 : decode cX10_messageAt 10 = .ok (.iconst (-1), 1) := by decide +kernel
theorem dX10_messageAt_11 : decode cX10_messageAt 11 = .ok (.if_icmp .eq 18, 3) := by decide +kernel
theorem dX10_messageAt_14 : decode cX10_messageAt 14 = .ok (.iload_n 3, 1) := by decide +kernel
theorem dX10_messageAt_15 : decode cX10_messageAt 15 = .ok (.ifCond .lt 14, 3) := by decide +kernel
theorem dX10_messageAt_18 : decode cX10_messageAt 18 = .ok (.iload_n 3, 1) := by decide +kernel
theorem dX10_messageAt_19 : decode cX10_messageAt 19 = .ok (.aload_n 0, 1) := by decide +kernel
theorem dX10_messageAt_20 : decode cX10_messageAt 20 = .ok (.getfield 27, 3) := by decide +kernel
theorem dX10_messageAt_23 : decode cX10_messageAt 23 = .ok (.iload 4, 2) := by decide +kernel
theorem dX10_messageAt_25 : decode cX10_messageAt 25 = .ok (.iaload, 1) := by decide +kernel
theorem dX10_messageAt_26 : decode cX10_messageAt 26 = .ok (.if_icmp .lt 5, 3) := by decide +kernel
theorem dX10_messageAt_29 : decode cX10_messageAt 29 = .ok (.aconst_null, 1) := by decide +kernel
theorem dX10_messageAt_30 : decode cX10_messageAt 30 = .ok (.areturn, 1) := by decide +kernel
theorem dX10_messageAt_31 : decode cX10_messageAt 31 = .ok (.aload_n 0, 1) := by decide +kernel
theorem dX10_messageAt_32 : decode cX10_messageAt 32 = .ok (.getfield 19, 3) := by decide +kernel
theorem dX10_messageAt_35 : decode cX10_messageAt 35 = .ok (.iload 4, 2) := by decide +kernel
theorem dX10_messageAt_37 : decode cX10_messageAt 37 = .ok (.bipush 61, 2) := by decide +kernel
theorem dX10_messageAt_39 : decode cX10_messageAt 39 = .ok (.imul, 1) := by decide +kernel
theorem dX10_messageAt_40 : decode cX10_messageAt 40 = .ok (.aload_n 0, 1) := by decide +kernel
theorem dX10_messageAt_41 : decode cX10_messageAt 41 = .ok (.getfield 23, 3) := by decide +kernel
theorem dX10_messageAt_44 : decode cX10_messageAt 44 = .ok (.iload 4, 2) := by decide +kernel
theorem dX10_messageAt_46 : decode cX10_messageAt 46 = .ok (.iaload, 1) := by decide +kernel
theorem dX10_messageAt_47 : decode cX10_messageAt 47 = .ok (.iload_n 3, 1) := by decide +kernel
theorem dX10_messageAt_48 : decode cX10_messageAt 48 = .ok (.iadd, 1) := by decide +kernel
theorem dX10_messageAt_49 : decode cX10_messageAt 49 = .ok (.bipush 61, 2) := by decide +kernel
theorem dX10_messageAt_51 : decode cX10_messageAt 51 = .ok (.irem, 1) := by decide +kernel
theorem dX10_messageAt_52 : decode cX10_messageAt 52 = .ok (.iadd, 1) := by decide +kernel
theorem dX10_messageAt_53 : decode cX10_messageAt 53 = .ok (.aaload, 1) := by decide +kernel
theorem dX10_messageAt_54 : decode cX10_messageAt 54 = .ok (.areturn, 1) := by decide +kernel
theorem dX10_take_0 : decode cX10_take 0 = .ok (.aload_n 0, 1) := by decide +kernel
theorem dX10_take_1 : decode cX10_take 1 = .ok (.iload_n 1, 1) := by decide +kernel
theorem dX10_take_2 : decode cX10_take 2 = .ok (.iload_n 2, 1) := by decide +kernel
theorem dX10_take_3 : decode cX10_take 3 = .ok (.iconst 0, 1) := by decide +kernel
theorem dX10_take_4 : decode cX10_take 4 = .ok (.invokevirtual 113, 3) := by decide +kernel
theorem dX10_take_7 : decode cX10_take 7 = .ok (.astore_n 3, 1) := by decide +kernel
theorem dX10_take_8 : decode cX10_take 8 = .ok (.aload_n 3, 1) := by decide +kernel
theorem dX10_take_9 : decode cX10_take 9 = .ok (.ifnull 41, 3) := by decide +kernel
theorem dX10_take_12 : decode cX10_take 12 = .ok (.aload_n 0, 1) := by decide +kernel
theorem dX10_take_13 : decode cX10_take 13 = .ok (.iload_n 1, 1) := by decide +kernel
theorem dX10_take_14 : decode cX10_take 14 = .ok (.iload_n 2, 1) := by decide +kernel
theorem dX10_take_15 : decode cX10_take 15 = .ok (.invokevirtual 89, 3) := by decide +kernel
theorem dX10_take_18 : decode cX10_take 18 = .ok (.istore 4, 2) := by decide +kernel
theorem dX10_take_20 : decode cX10_take 20 = .ok (.aload_n 0, 1) := by decide +kernel
theorem dX10_take_21 : decode cX10_take 21 = .ok (.getfield 23, 3) := by decide +kernel
theorem dX10_take_24 : decode cX10_take 24 = .ok (.iload 4, 2) := by decide +kernel
theorem dX10_take_26 : decode cX10_take 26 = .ok (.aload_n 0, 1) := by decide +kernel
theorem dX10_take_27 : decode cX10_take 27 = .ok (.getfield 23, 3) := by decide +kernel
theorem dX10_take_30 : decode cX10_take 30 = .ok (.iload 4, 2) := by decide +kernel
theorem dX10_take_32 : decode cX10_take 32 = .ok (.iaload, 1) := by decide +kernel
theorem dX10_take_33 : decode cX10_take 33 = .ok (.iconst 1, 1) := by decide +kernel
theorem dX10_take_34 : decode cX10_take 34 = .ok (.iadd, 1) := by decide +kernel
theorem dX10_take_35 : decode cX10_take 35 = .ok (.bipush 61, 2) := by decide +kernel
theorem dX10_take_37 : decode cX10_take 37 = .ok (.irem, 1) := by decide +kernel
theorem dX10_take_38 : decode cX10_take 38 = .ok (.iastore, 1) := by decide +kernel
theorem dX10_take_39 : decode cX10_take 39 = .ok (.aload_n 0, 1) := by decide +kernel
theorem dX10_take_40 : decode cX10_take 40 = .ok (.getfield 27, 3) := by decide +kernel
theorem dX10_take_43 : decode cX10_take 43 = .ok (.iload 4, 2) := by decide +kernel
theorem dX10_take_45 : decode cX10_take 45 = .ok (.dup2, 1) := by decide +kernel
theorem dX10_take_46 : decode cX10_take 46 = .ok (.iaload, 1) := by decide +kernel
theorem dX10_take_47 : decode cX10_take 47 = .ok (.iconst 1, 1) := by decide +kernel
theorem dX10_take_48 : decode cX10_take 48 = .ok (.isub, 1) := by decide +kernel
theorem dX10_take_49 : decode cX10_take 49 = .ok (.iastore, 1) := by decide +kernel
theorem dX10_take_50 : decode cX10_take 50 = .ok (.aload_n 3, 1) := by decide +kernel
theorem dX10_take_51 : decode cX10_take 51 = .ok (.areturn, 1) := by decide +kernel
theorem dX10_onLinks_0 : decode cX10_onLinks 0 = .ok (.iconst 0, 1) := by decide +kernel
theorem dX10_onLinks_1 : decode cX10_onLinks 1 = .ok (.istore_n 1, 1) := by decide +kernel
theorem dX10_onLinks_2 : decode cX10_onLinks 2 = .ok (.iconst 0, 1) := by decide +kernel
theorem dX10_onLinks_3 : decode cX10_onLinks 3 = .ok (.istore_n 2, 1) := by decide +kernel
theorem dX10_onLinks_4 : decode cX10_onLinks 4 = .ok (.iload_n 2, 1) := by decide +kernel
theorem dX10_onLinks_5 : decode cX10_onLinks 5 = .ok (.aload_n 0, 1) := by decide +kernel
theorem dX10_onLinks_6 : decode cX10_onLinks 6 = .ok (.getfield 27, 3) := by decide +kernel
theorem dX10_onLinks_9 : decode cX10_onLinks 9 = .ok (.arraylength, 1) := by decide +kernel
theorem dX10_onLinks_10 : decode cX10_onLinks 10 = .ok (.if_icmp .ge 18, 3) := by decide +kernel
theorem dX10_onLinks_13 : decode cX10_onLinks 13 = .ok (.iload_n 1, 1) := by decide +kernel
theorem dX10_onLinks_14 : decode cX10_onLinks 14 = .ok (.aload_n 0, 1) := by decide +kernel
theorem dX10_onLinks_15 : decode cX10_onLinks 15 = .ok (.getfield 27, 3) := by decide +kernel
theorem dX10_onLinks_18 : decode cX10_onLinks 18 = .ok (.iload_n 2, 1) := by decide +kernel
theorem dX10_onLinks_19 : decode cX10_onLinks 19 = .ok (.iaload, 1) := by decide +kernel
theorem dX10_onLinks_20 : decode cX10_onLinks 20 = .ok (.iadd, 1) := by decide +kernel
theorem dX10_onLinks_21 : decode cX10_onLinks 21 = .ok (.istore_n 1, 1) := by decide +kernel
theorem dX10_onLinks_22 : decode cX10_onLinks 22 = .ok (.iinc 2 1, 3) := by decide +kernel
theorem dX10_onLinks_25 : decode cX10_onLinks 25 = .ok (.goto (-21), 3) := by decide +kernel
theorem dX10_onLinks_28 : decode cX10_onLinks 28 = .ok (.iload_n 1, 1) := by decide +kernel
theorem dX10_onLinks_29 : decode cX10_onLinks 29 = .ok (.ireturn, 1) := by decide +kernel
theorem dX10_skipClosed_0 : decode cX10_skipClosed 0 = .ok (.aload_n 0, 1) := by decide +kernel
theorem dX10_skipClosed_1 : decode cX10_skipClosed 1 = .ok (.getfield 61, 3) := by decide +kernel
theorem dX10_skipClosed_4 : decode cX10_skipClosed 4 = .ok (.aload_n 0, 1) := by decide +kernel
theorem dX10_skipClosed_5 : decode cX10_skipClosed 5 = .ok (.getfield 58, 3) := by decide +kernel
theorem dX10_skipClosed_8 : decode cX10_skipClosed 8 = .ok (.if_icmp .ge 30, 3) := by decide +kernel
theorem dX10_skipClosed_11 : decode cX10_skipClosed 11 = .ok (.aload_n 0, 1) := by decide +kernel
theorem dX10_skipClosed_12 : decode cX10_skipClosed 12 = .ok (.aload_n 0, 1) := by decide +kernel
theorem dX10_skipClosed_13 : decode cX10_skipClosed 13 = .ok (.getfield 61, 3) := by decide +kernel
theorem dX10_skipClosed_16 : decode cX10_skipClosed 16 = .ok (.invokevirtual 106, 3) := by decide +kernel
theorem dX10_skipClosed_19 : decode cX10_skipClosed 19 = .ok (.invokestatic 116, 3) := by decide +kernel
theorem dX10_skipClosed_22 : decode cX10_skipClosed 22 = .ok (.ifCond .ne 16, 3) := by decide +kernel
theorem dX10_skipClosed_25 : decode cX10_skipClosed 25 = .ok (.aload_n 0, 1) := by decide +kernel
theorem dX10_skipClosed_26 : decode cX10_skipClosed 26 = .ok (.dup, 1) := by decide +kernel
theorem dX10_skipClosed_27 : decode cX10_skipClosed 27 = .ok (.getfield 61, 3) := by decide +kernel
theorem dX10_skipClosed_30 : decode cX10_skipClosed 30 = .ok (.iconst 1, 1) := by decide +kernel
theorem dX10_skipClosed_31 : decode cX10_skipClosed 31 = .ok (.iadd, 1) := by decide +kernel
theorem dX10_skipClosed_32 : decode cX10_skipClosed 32 = .ok (.putfield 61, 3) := by decide +kernel
theorem dX10_skipClosed_35 : decode cX10_skipClosed 35 = .ok (.goto (-35), 3) := by decide +kernel
theorem dX10_skipClosed_38 : decode cX10_skipClosed 38 = .ok (.return_, 1) := by decide +kernel
theorem dX10_isOpen_0 : decode cX10_isOpen 0 = .ok (.aload_n 0, 1) := by decide +kernel
theorem dX10_isOpen_1 : decode cX10_isOpen 1 = .ok (.ifnull 14, 3) := by decide +kernel
theorem dX10_isOpen_4 : decode cX10_isOpen 4 = .ok (.aload_n 0, 1) := by decide +kernel
theorem dX10_isOpen_5 : decode cX10_isOpen 5 = .ok (.getfield 120, 3) := by decide +kernel
theorem dX10_isOpen_8 : decode cX10_isOpen 8 = .ok (.ifCond .ne 7, 3) := by decide +kernel
theorem dX10_isOpen_11 : decode cX10_isOpen 11 = .ok (.iconst 1, 1) := by decide +kernel
theorem dX10_isOpen_12 : decode cX10_isOpen 12 = .ok (.goto 4, 3) := by decide +kernel
theorem dX10_isOpen_15 : decode cX10_isOpen 15 = .ok (.iconst 0, 1) := by decide +kernel
theorem dX10_isOpen_16 : decode cX10_isOpen 16 = .ok (.ireturn, 1) := by decide +kernel
theorem dX10_ageRequests_0 : decode cX10_ageRequests 0 = .ok (.aload_n 0, 1) := by decide +kernel
theorem dX10_ageRequests_1 : decode cX10_ageRequests 1 = .ok (.getfield 61, 3) := by decide +kernel
theorem dX10_ageRequests_4 : decode cX10_ageRequests 4 = .ok (.istore_n 2, 1) := by decide +kernel
theorem dX10_ageRequests_5 : decode cX10_ageRequests 5 = .ok (.iload_n 2, 1) := by decide +kernel
theorem dX10_ageRequests_6 : decode cX10_ageRequests 6 = .ok (.aload_n 0, 1) := by decide +kernel
theorem dX10_ageRequests_7 : decode cX10_ageRequests 7 = .ok (.getfield 58, 3) := by decide +kernel
theorem dX10_ageRequests_10 : decode cX10_ageRequests 10 = .ok (.if_icmp .ge 39, 3) := by decide +kernel
theorem dX10_ageRequests_13 : decode cX10_ageRequests 13 = .ok (.aload_n 0, 1) := by decide +kernel
theorem dX10_ageRequests_14 : decode cX10_ageRequests 14 = .ok (.iload_n 2, 1) := by decide +kernel
theorem dX10_ageRequests_15 : decode cX10_ageRequests 15 = .ok (.invokevirtual 106, 3) := by decide +kernel
theorem dX10_ageRequests_18 : decode cX10_ageRequests 18 = .ok (.astore_n 3, 1) := by decide +kernel
theorem dX10_ageRequests_19 : decode cX10_ageRequests 19 = .ok (.aload_n 3, 1) := by decide +kernel
theorem dX10_ageRequests_20 : decode cX10_ageRequests 20 = .ok (.ifnull 23, 3) := by decide +kernel
theorem dX10_ageRequests_23 : decode cX10_ageRequests 23 = .ok (.aload_n 3, 1) := by decide +kernel
theorem dX10_ageRequests_24 : decode cX10_ageRequests 24 = .ok (.getfield 110, 3) := by decide +kernel
theorem dX10_ageRequests_27 : decode cX10_ageRequests 27 = .ok (.iload_n 1, 1) := by decide +kernel
theorem dX10_ageRequests_28 : decode cX10_ageRequests 28 = .ok (.if_icmp .ne 15, 3) := by decide +kernel
theorem dX10_ageRequests_31 : decode cX10_ageRequests 31 = .ok (.aload_n 3, 1) := by decide +kernel
theorem dX10_ageRequests_32 : decode cX10_ageRequests 32 = .ok (.getfield 120, 3) := by decide +kernel
theorem dX10_ageRequests_35 : decode cX10_ageRequests 35 = .ok (.ifCond .ne 8, 3) := by decide +kernel
theorem dX10_ageRequests_38 : decode cX10_ageRequests 38 = .ok (.aload_n 3, 1) := by decide +kernel
theorem dX10_ageRequests_39 : decode cX10_ageRequests 39 = .ok (.aload_n 0, 1) := by decide +kernel
theorem dX10_ageRequests_40 : decode cX10_ageRequests 40 = .ok (.invokevirtual 123, 3) := by decide +kernel
theorem dX10_ageRequests_43 : decode cX10_ageRequests 43 = .ok (.iinc 2 1, 3) := by decide +kernel
theorem dX10_ageRequests_46 : decode cX10_ageRequests 46 = .ok (.goto (-41), 3) := by decide +kernel
theorem dX10_ageRequests_49 : decode cX10_ageRequests 49 = .ok (.return_, 1) := by decide +kernel
theorem dX10_answer_0 : decode cX10_answer 0 = .ok (.aload_n 0, 1) := by decide +kernel
theorem dX10_answer_1 : decode cX10_answer 1 = .ok (.aload_n 2, 1) := by decide +kernel
theorem dX10_answer_2 : decode cX10_answer 2 = .ok (.getfield 95, 3) := by decide +kernel
theorem dX10_answer_5 : decode cX10_answer 5 = .ok (.iconst 0, 1) := by decide +kernel
theorem dX10_answer_6 : decode cX10_answer 6 = .ok (.iaload, 1) := by decide +kernel
theorem dX10_answer_7 : decode cX10_answer 7 = .ok (.invokevirtual 106, 3) := by decide +kernel
theorem dX10_answer_10 : decode cX10_answer 10 = .ok (.astore_n 3, 1) := by decide +kernel
theorem dX10_answer_11 : decode cX10_answer 11 = .ok (.aload_n 3, 1) := by decide +kernel
theorem dX10_answer_12 : decode cX10_answer 12 = .ok (.ifnull 10, 3) := by decide +kernel
theorem dX10_answer_15 : decode cX10_answer 15 = .ok (.aload_n 3, 1) := by decide +kernel
theorem dX10_answer_16 : decode cX10_answer 16 = .ok (.getfield 120, 3) := by decide +kernel
theorem dX10_answer_19 : decode cX10_answer 19 = .ok (.ifCond .eq 4, 3) := by decide +kernel
theorem dX10_answer_22 : decode cX10_answer 22 = .ok (.return_, 1) := by decide +kernel
theorem dX10_answer_23 : decode cX10_answer 23 = .ok (.aload_n 2, 1) := by decide +kernel
theorem dX10_answer_24 : decode cX10_answer 24 = .ok (.getfield 92, 3) := by decide +kernel
theorem dX10_answer_27 : decode cX10_answer 27 = .ok (.iconst 5, 1) := by decide +kernel
theorem dX10_answer_28 : decode cX10_answer 28 = .ok (.if_icmp .ne 11, 3) := by decide +kernel
theorem dX10_answer_31 : decode cX10_answer 31 = .ok (.aload_n 3, 1) := by decide +kernel
theorem dX10_answer_32 : decode cX10_answer 32 = .ok (.iconst 1, 1) := by decide +kernel
theorem dX10_answer_33 : decode cX10_answer 33 = .ok (.putfield 120, 3) := by decide +kernel
theorem dX10_answer_36 : decode cX10_answer 36 = .ok (.goto 23, 3) := by decide +kernel
theorem dX10_answer_39 : decode cX10_answer 39 = .ok (.aload_n 3, 1) := by decide +kernel
theorem dX10_answer_40 : decode cX10_answer 40 = .ok (.getfield 127, 3) := by decide +kernel
theorem dX10_answer_43 : decode cX10_answer 43 = .ok (.aload_n 2, 1) := by decide +kernel
theorem dX10_answer_44 : decode cX10_answer 44 = .ok (.getfield 95, 3) := by decide +kernel
theorem dX10_answer_47 : decode cX10_answer 47 = .ok (.iconst 1, 1) := by decide +kernel
theorem dX10_answer_48 : decode cX10_answer 48 = .ok (.iaload, 1) := by decide +kernel
theorem dX10_answer_49 : decode cX10_answer 49 = .ok (.if_icmp .ne 10, 3) := by decide +kernel
theorem dX10_answer_52 : decode cX10_answer 52 = .ok (.aload_n 3, 1) := by decide +kernel
theorem dX10_answer_53 : decode cX10_answer 53 = .ok (.aload_n 0, 1) := by decide +kernel
theorem dX10_answer_54 : decode cX10_answer 54 = .ok (.iload_n 1, 1) := by decide +kernel
theorem dX10_answer_55 : decode cX10_answer 55 = .ok (.aload_n 2, 1) := by decide +kernel
theorem dX10_answer_56 : decode cX10_answer 56 = .ok (.invokevirtual 130, 3) := by decide +kernel
theorem dX10_answer_59 : decode cX10_answer 59 = .ok (.return_, 1) := by decide +kernel
