theorem db_X8_init_0 : decode cX8_init 0 = .ok (.aload_n 0, 1) ∧ decode cX8_init 1 = .ok (.invokespecial 3, 3) ∧ decode cX8_init 4 = .ok (.aload_n 0, 1) ∧ decode cX8_init 5 = .ok (.iload_n 1, 1) ∧ decode cX8_init 6 = .ok (.putfield 9, 3) ∧ decode cX8_init 9 = .ok (.aload_n 0, 1) ∧ decode cX8_init 10 = .ok (.iload_n 2, 1) ∧ decode cX8_init 11 = .ok (.putfield 15, 3) ∧ decode cX8_init 14 = .ok (.aload_n 0, 1) ∧ decode cX8_init 15 = .ok (.iload_n 3, 1) ∧ decode cX8_init 16 = .ok (.putfield 18, 3) ∧ decode cX8_init 19 = .ok (.aload_n 0, 1) ∧ decode cX8_init 20 = .ok (.iload 4, 2) ∧ decode cX8_init 22 = .ok (.putfield 21, 3) ∧ decode cX8_init 25 = .ok (.aload_n 0, 1) ∧ decode cX8_init 26 = .ok (.iload 5, 2) := by decide +kernel
theorem dX8_init_0 : decode cX8_init 0 = .ok (.aload_n 0, 1) := db_X8_init_0.1
theorem dX8_init_1 : decode cX8_init 1 = .ok (.invokespecial 3, 3) := db_X8_init_0.2.1
theorem dX8_init_4 : decode cX8_init 4 = .ok (.aload_n 0, 1) := db_X8_init_0.2.2.1
theorem dX8_init_5 : decode cX8_init 5 = .ok (.iload_n 1, 1) := db_X8_init_0.2.2.2.1
theorem dX8_init_6 : decode cX8_init 6 = .ok (.putfield 9, 3) := db_X8_init_0.2.2.2.2.1
theorem dX8_init_9 : decode cX8_init 9 = .ok (.aload_n 0, 1) := db_X8_init_0.2.2.2.2.2.1
theorem dX8_init_10 : decode cX8_init 10 = .ok (.iload_n 2, 1) := db_X8_init_0.2.2.2.2.2.2.1
theorem dX8_init_11 : decode cX8_init 11 = .ok (.putfield 15, 3) := db_X8_init_0.2.2.2.2.2.2.2.1
theorem dX8_init_14 : decode cX8_init 14 = .ok (.aload_n 0, 1) := db_X8_init_0.2.2.2.2.2.2.2.2.1
theorem dX8_init_15 : decode cX8_init 15 = .ok (.iload_n 3, 1) := db_X8_init_0.2.2.2.2.2.2.2.2.2.1
theorem dX8_init_16 : decode cX8_init 16 = .ok (.putfield 18, 3) := db_X8_init_0.2.2.2.2.2.2.2.2.2.2.1
theorem dX8_init_19 : decode cX8_init 19 = .ok (.aload_n 0, 1) := db_X8_init_0.2.2.2.2.2.2.2.2.2.2.2.1
theorem dX8_init_20 : decode cX8_init 20 = .ok (.iload 4, 2) := db_X8_init_0.2.2.2.2.2.2.2.2.2.2.2.2.1
theorem dX8_init_22 : decode cX8_init 22 = .ok (.putfield 21, 3) := db_X8_init_0.2.2.2.2.2.2.2.2.2.2.2.2.2.1
theorem dX8_init_25 : decode cX8_init 25 = .ok (.aload_n 0, 1) := db_X8_init_0.2.2.2.2.2.2.2.2.2.2.2.2.2.2.1
theorem dX8_init_26 : decode cX8_init 26 = .ok (.iload 5, 2) := db_X8_init_0.2.2.2.2.2.2.2.2.2.2.2.2.2.2.2
theorem db_X8_init_28 : decode cX8_init 28 = .ok (.putfield 24, 3) ∧ decode cX8_init 31 = .ok (.aload_n 0, 1) ∧ decode cX8_init 32 = .ok (.aload 6, 2) ∧ decode cX8_init 34 = .ok (.putfield 27, 3) ∧ decode cX8_init 37 = .ok (.aload_n 0, 1) ∧ decode cX8_init 38 = .ok (.aload 7, 2) ∧ decode cX8_init 40 = .ok (.putfield 31, 3) ∧ decode cX8_init 43 = .ok (.aload_n 0, 1) ∧ decode cX8_init 44 = .ok (.iload 5, 2) ∧ decode cX8_init 46 = .ok (.putfield 35, 3) ∧ decode cX8_init 49 = .ok (.aload_n 0, 1) ∧ decode cX8_init 50 = .ok (.aload 6, 2) ∧ decode cX8_init 52 = .ok (.invokestatic 38, 3) ∧ decode cX8_init 55 = .ok (.putfield 42, 3) ∧ decode cX8_init 58 = .ok (.aload_n 0, 1) ∧ decode cX8_init 59 = .ok (.aload_n 0, 1) := by decide +kernel
theorem dX8_init_28 : decode cX8_init 28 = .ok (.putfield 24, 3) := db_X8_init_28.1
theorem dX8_init_31 : decode cX8_init 31 = .ok (.aload_n 0, 1) := db_X8_init_28.2.1
theorem dX8_init_32 : decode cX8_init 32 = .ok (.aload 6, 2) := db_X8_init_28.2.2.1
theorem dX8_init_34 : decode cX8_init 34 = .ok (.putfield 27, 3) := db_X8_init_28.2.2.2.1
theorem dX8_init_37 : decode cX8_init 37 = .ok (.aload_n 0, 1) := db_X8_init_28.2.2.2.2.1
theorem dX8_init_38 : decode cX8_init 38 = .ok (.aload 7, 2) := db_X8_init_28.2.2.2.2.2.1
theorem dX8_init_40 : decode cX8_init 40 = .ok (.putfield 31, 3) := db_X8_init_28.2.2.2.2.2.2.1
theorem dX8_init_43 : decode cX8_init 43 = .ok (.aload_n 0, 1) := db_X8_init_28.2.2.2.2.2.2.2.1
theorem dX8_init_44 : decode cX8_init 44 = .ok (.iload 5, 2) := db_X8_init_28.2.2.2.2.2.2.2.2.1
theorem dX8_init_46 : decode cX8_init 46 = .ok (.putfield 35, 3) := db_X8_init_28.2.2.2.2.2.2.2.2.2.1
theorem dX8_init_49 : decode cX8_init 49 = .ok (.aload_n 0, 1) := db_X8_init_28.2.2.2.2.2.2.2.2.2.2.1
theorem dX8_init_50 : decode cX8_init 50 = .ok (.aload 6, 2) := db_X8_init_28.2.2.2.2.2.2.2.2.2.2.2.1
theorem dX8_init_52 : decode cX8_init 52 = .ok (.invokestatic 38, 3) := db_X8_init_28.2.2.2.2.2.2.2.2.2.2.2.2.1
theorem dX8_init_55 : decode cX8_init 55 = .ok (.putfield 42, 3) := db_X8_init_28.2.2.2.2.2.2.2.2.2.2.2.2.2.1
theorem dX8_init_58 : decode cX8_init 58 = .ok (.aload_n 0, 1) := db_X8_init_28.2.2.2.2.2.2.2.2.2.2.2.2.2.2.1
theorem dX8_init_59 : decode cX8_init 59 = .ok (.aload_n 0, 1) := db_X8_init_28.2.2.2.2.2.2.2.2.2.2.2.2.2.2.2
theorem db_X8_init_60 : decode cX8_init 60 = .ok (.getfield 42, 3) ∧ decode cX8_init 63 = .ok (.invokestatic 46, 3) ∧ decode cX8_init 66 = .ok (.putfield 50, 3) ∧ decode cX8_init 69 = .ok (.aload_n 0, 1) ∧ decode cX8_init 70 = .ok (.iload_n 2, 1) ∧ decode cX8_init 71 = .ok (.iconst 3, 1) ∧ decode cX8_init 72 = .ok (.if_icmp .ne 9, 3) ∧ decode cX8_init 81 = .ok (.getstatic 53, 3) ∧ decode cX8_init 84 = .ok (.putfield 56, 3) ∧ decode cX8_init 87 = .ok (.aload_n 0, 1) ∧ decode cX8_init 88 = .ok (.iload_n 2, 1) ∧ decode cX8_init 89 = .ok (.iconst 3, 1) ∧ decode cX8_init 90 = .ok (.if_icmp .ne 9, 3) ∧ decode cX8_init 99 = .ok (.getstatic 53, 3) ∧ decode cX8_init 102 = .ok (.putfield 59, 3) ∧ decode cX8_init 105 = .ok (.aload_n 0, 1) := by decide +kernel
theorem dX8_init_60 : decode cX8_init 60 = .ok (.getfield 42, 3) := db_X8_init_60.1
theorem dX8_init_63 : decode cX8_init 63 = .ok (.invokestatic 46, 3) := db_X8_init_60.2.1
theorem dX8_init_66 : decode cX8_init 66 = .ok (.putfield 50, 3) := db_X8_init_60.2.2.1
theorem dX8_init_69 : decode cX8_init 69 = .ok (.aload_n 0, 1) := db_X8_init_60.2.2.2.1
theorem dX8_init_70 : decode cX8_init 70 = .ok (.iload_n 2, 1) := db_X8_init_60.2.2.2.2.1
theorem dX8_init_71 : decode cX8_init 71 = .ok (.iconst 3, 1) := db_X8_init_60.2.2.2.2.2.1
theorem dX8_init_72 : decode cX8_init 72 = .ok (.if_icmp .ne 9, 3) := db_X8_init_60.2.2.2.2.2.2.1
theorem dX8_init_81 : decode cX8_init 81 = .ok (.getstatic 53, 3) := db_X8_init_60.2.2.2.2.2.2.2.1
theorem dX8_init_84 : decode cX8_init 84 = .ok (.putfield 56, 3) := db_X8_init_60.2.2.2.2.2.2.2.2.1
theorem dX8_init_87 : decode cX8_init 87 = .ok (.aload_n 0, 1) := db_X8_init_60.2.2.2.2.2.2.2.2.2.1
theorem dX8_init_88 : decode cX8_init 88 = .ok (.iload_n 2, 1) := db_X8_init_60.2.2.2.2.2.2.2.2.2.2.1
theorem dX8_init_89 : decode cX8_init 89 = .ok (.iconst 3, 1) := db_X8_init_60.2.2.2.2.2.2.2.2.2.2.2.1
theorem dX8_init_90 : decode cX8_init 90 = .ok (.if_icmp .ne 9, 3) := db_X8_init_60.2.2.2.2.2.2.2.2.2.2.2.2.1
theorem dX8_init_99 : decode cX8_init 99 = .ok (.getstatic 53, 3) := db_X8_init_60.2.2.2.2.2.2.2.2.2.2.2.2.2.1
theorem dX8_init_102 : decode cX8_init 102 = .ok (.putfield 59, 3) := db_X8_init_60.2.2.2.2.2.2.2.2.2.2.2.2.2.2.1
theorem dX8_init_105 : decode cX8_init 105 = .ok (.aload_n 0, 1) := db_X8_init_60.2.2.2.2.2.2.2.2.2.2.2.2.2.2.2
theorem db_X8_init_106 : decode cX8_init 106 = .ok (.iload_n 2, 1) ∧ decode cX8_init 107 = .ok (.iconst 3, 1) ∧ decode cX8_init 108 = .ok (.if_icmp .ne 10, 3) ∧ decode cX8_init 118 = .ok (.getstatic 53, 3) ∧ decode cX8_init 121 = .ok (.putfield 62, 3) ∧ decode cX8_init 124 = .ok (.aload_n 0, 1) ∧ decode cX8_init 125 = .ok (.iload_n 2, 1) ∧ decode cX8_init 126 = .ok (.iconst 3, 1) ∧ decode cX8_init 127 = .ok (.if_icmp .ne 10, 3) ∧ decode cX8_init 137 = .ok (.getstatic 53, 3) ∧ decode cX8_init 140 = .ok (.putfield 65, 3) ∧ decode cX8_init 143 = .ok (.return_, 1) := by decide +kernel
theorem dX8_init_106 : decode cX8_init 106 = .ok (.iload_n 2, 1) := db_X8_init_106.1
theorem dX8_init_107 : decode cX8_init 107 = .ok (.iconst 3, 1) := db_X8_init_106.2.1
theorem dX8_init_108 : decode cX8_init 108 = .ok (.if_icmp .ne 10, 3) := db_X8_init_106.2.2.1
theorem dX8_init_118 : decode cX8_init 118 = .ok (.getstatic 53, 3) := db_X8_init_106.2.2.2.1
theorem dX8_init_121 : decode cX8_init 121 = .ok (.putfield 62, 3) := db_X8_init_106.2.2.2.2.1
theorem dX8_init_124 : decode cX8_init 124 = .ok (.aload_n 0, 1) := db_X8_init_106.2.2.2.2.2.1
theorem dX8_init_125 : decode cX8_init 125 = .ok (.iload_n 2, 1) := db_X8_init_106.2.2.2.2.2.2.1
theorem dX8_init_126 : decode cX8_init 126 = .ok (.iconst 3, 1) := db_X8_init_106.2.2.2.2.2.2.2.1
theorem dX8_init_127 : decode cX8_init 127 = .ok (.if_icmp .ne 10, 3) := db_X8_init_106.2.2.2.2.2.2.2.2.1
theorem dX8_init_137 : decode cX8_init 137 = .ok (.getstatic 53, 3) := db_X8_init_106.2.2.2.2.2.2.2.2.2.1
theorem dX8_init_140 : decode cX8_init 140 = .ok (.putfield 65, 3) := db_X8_init_106.2.2.2.2.2.2.2.2.2.2.1
theorem dX8_init_143 : decode cX8_init 143 = .ok (.return_, 1) := db_X8_init_106.2.2.2.2.2.2.2.2.2.2.2
theorem db_X8_countWords_0 : decode cX8_countWords 0 = .ok (.iconst 0, 1) ∧ decode cX8_countWords 1 = .ok (.istore_n 1, 1) ∧ decode cX8_countWords 2 = .ok (.iconst 0, 1) ∧ decode cX8_countWords 3 = .ok (.istore_n 2, 1) ∧ decode cX8_countWords 4 = .ok (.iload_n 2, 1) ∧ decode cX8_countWords 5 = .ok (.aload_n 0, 1) ∧ decode cX8_countWords 6 = .ok (.arraylength, 1) ∧ decode cX8_countWords 7 = .ok (.if_icmp .ge 20, 3) ∧ decode cX8_countWords 27 = .ok (.iload_n 1, 1) ∧ decode cX8_countWords 28 = .ok (.ireturn, 1) := by decide +kernel
theorem dX8_countWords_0 : decode cX8_countWords 0 = .ok (.iconst 0, 1) := db_X8_countWords_0.1
theorem dX8_countWords_1 : decode cX8_countWords 1 = .ok (.istore_n 1, 1) := db_X8_countWords_0.2.1
theorem dX8_countWords_2 : decode cX8_countWords 2 = .ok (.iconst 0, 1) := db_X8_countWords_0.2.2.1
theorem dX8_countWords_3 : decode cX8_countWords 3 = .ok (.istore_n 2, 1) := db_X8_countWords_0.2.2.2.1
theorem dX8_countWords_4 : decode cX8_countWords 4 = .ok (.iload_n 2, 1) := db_X8_countWords_0.2.2.2.2.1
theorem dX8_countWords_5 : decode cX8_countWords 5 = .ok (.aload_n 0, 1) := db_X8_countWords_0.2.2.2.2.2.1
theorem dX8_countWords_6 : decode cX8_countWords 6 = .ok (.arraylength, 1) := db_X8_countWords_0.2.2.2.2.2.2.1
theorem dX8_countWords_7 : decode cX8_countWords 7 = .ok (.if_icmp .ge 20, 3) := db_X8_countWords_0.2.2.2.2.2.2.2.1
theorem dX8_countWords_27 : decode cX8_countWords 27 = .ok (.iload_n 1, 1) := db_X8_countWords_0.2.2.2.2.2.2.2.2.1
theorem dX8_countWords_28 : decode cX8_countWords 28 = .ok (.ireturn, 1) := db_X8_countWords_0.2.2.2.2.2.2.2.2.2
theorem db_X9_init_0 : decode cX9_init 0 = .ok (.aload_n 0, 1) ∧ decode cX9_init 1 = .ok (.invokespecial 3, 3) ∧ decode cX9_init 4 = .ok (.aload_n 0, 1) ∧ decode cX9_init 5 = .ok (.sipush 16000, 3) ∧ decode cX9_init 8 = .ok (.newarray .byte, 2) ∧ decode cX9_init 10 = .ok (.putfield 11, 3) ∧ decode cX9_init 13 = .ok (.aload_n 0, 1) ∧ decode cX9_init 14 = .ok (.sipush 2000, 3) ∧ decode cX9_init 17 = .ok (.newarray .long, 2) ∧ decode cX9_init 19 = .ok (.putfield 15, 3) ∧ decode cX9_init 22 = .ok (.aload_n 0, 1) ∧ decode cX9_init 23 = .ok (.sipush 2000, 3) ∧ decode cX9_init 26 = .ok (.newarray .long, 2) ∧ decode cX9_init 28 = .ok (.putfield 19, 3) ∧ decode cX9_init 31 = .ok (.aload_n 0, 1) ∧ decode cX9_init 32 = .ok (.sipush 2000, 3) := by decide +kernel
theorem dX9_init_0 : decode cX9_init 0 = .ok (.aload_n 0, 1) := db_X9_init_0.1
theorem dX9_init_1 : decode cX9_init 1 = .ok (.invokespecial 3, 3) := db_X9_init_0.2.1
theorem dX9_init_4 : decode cX9_init 4 = .ok (.aload_n 0, 1) := db_X9_init_0.2.2.1
theorem dX9_init_5 : decode cX9_init 5 = .ok (.sipush 16000, 3) := db_X9_init_0.2.2.2.1
theorem dX9_init_8 : decode cX9_init 8 = .ok (.newarray .byte, 2) := db_X9_init_0.2.2.2.2.1
theorem dX9_init_10 : decode cX9_init 10 = .ok (.putfield 11, 3) := db_X9_init_0.2.2.2.2.2.1
theorem dX9_init_13 : decode cX9_init 13 = .ok (.aload_n 0, 1) := db_X9_init_0.2.2.2.2.2.2.1
theorem dX9_init_14 : decode cX9_init 14 = .ok (.sipush 2000, 3) := db_X9_init_0.2.2.2.2.2.2.2.1
theorem dX9_init_17 : decode cX9_init 17 = .ok (.newarray .long, 2) := db_X9_init_0.2.2.2.2.2.2.2.2.1
theorem dX9_init_19 : decode cX9_init 19 = .ok (.putfield 15, 3) := db_X9_init_0.2.2.2.2.2.2.2.2.2.1
theorem dX9_init_22 : decode cX9_init 22 = .ok (.aload_n 0, 1) := db_X9_init_0.2.2.2.2.2.2.2.2.2.2.1
theorem dX9_init_23 : decode cX9_init 23 = .ok (.sipush 2000, 3) := db_X9_init_0.2.2.2.2.2.2.2.2.2.2.2.1
theorem dX9_init_26 : decode cX9_init 26 = .ok (.newarray .long, 2) := db_X9_init_0.2.2.2.2.2.2.2.2.2.2.2.2.1
theorem dX9_init_28 : decode cX9_init 28 = .ok (.putfield 19, 3) := db_X9_init_0.2.2.2.2.2.2.2.2.2.2.2.2.2.1
theorem dX9_init_31 : decode cX9_init 31 = .ok (.aload_n 0, 1) := db_X9_init_0.2.2.2.2.2.2.2.2.2.2.2.2.2.2.1
theorem dX9_init_32 : decode cX9_init 32 = .ok (.sipush 2000, 3) := db_X9_init_0.2.2.2.2.2.2.2.2.2.2.2.2.2.2.2
theorem db_X9_init_35 : decode cX9_init 35 = .ok (.newarray .int, 2) ∧ decode cX9_init 37 = .ok (.putfield 22, 3) ∧ decode cX9_init 40 = .ok (.aload_n 0, 1) ∧ decode cX9_init 41 = .ok (.sipush 2000, 3) ∧ decode cX9_init 44 = .ok (.newarray .int, 2) ∧ decode cX9_init 46 = .ok (.putfield 26, 3) ∧ decode cX9_init 49 = .ok (.return_, 1) := by decide +kernel
theorem dX9_init_35 : decode cX9_init 35 = .ok (.newarray .int, 2) := db_X9_init_35.1
theorem dX9_init_37 : decode cX9_init 37 = .ok (.putfield 22, 3) := db_X9_init_35.2.1
theorem dX9_init_40 : decode cX9_init 40 = .ok (.aload_n 0, 1) := db_X9_init_35.2.2.1
theorem dX9_init_41 : decode cX9_init 41 = .ok (.sipush 2000, 3) := db_X9_init_35.2.2.2.1
theorem dX9_init_44 : decode cX9_init 44 = .ok (.newarray .int, 2) := db_X9_init_35.2.2.2.2.1
theorem dX9_init_46 : decode cX9_init 46 = .ok (.putfield 26, 3) := db_X9_init_35.2.2.2.2.2.1
theorem dX9_init_49 : decode cX9_init 49 = .ok (.return_, 1) := db_X9_init_35.2.2.2.2.2.2
theorem db_X10_init_0 : decode cX10_init 0 = .ok (.aload_n 0, 1) ∧ decode cX10_init 1 = .ok (.invokespecial 3, 3) ∧ decode cX10_init 4 = .ok (.aload_n 0, 1) ∧ decode cX10_init 5 = .ok (.sipush 500, 3) ∧ decode cX10_init 8 = .ok (.anewarray 9, 3) ∧ decode cX10_init 11 = .ok (.putfield 11, 3) ∧ decode cX10_init 14 = .ok (.aload_n 0, 1) ∧ decode cX10_init 15 = .ok (.sipush 2196, 3) ∧ decode cX10_init 18 = .ok (.anewarray 17, 3) ∧ decode cX10_init 21 = .ok (.putfield 19, 3) ∧ decode cX10_init 24 = .ok (.aload_n 0, 1) ∧ decode cX10_init 25 = .ok (.bipush 36, 2) ∧ decode cX10_init 27 = .ok (.newarray .int, 2) ∧ decode cX10_init 29 = .ok (.putfield 23, 3) ∧ decode cX10_init 32 = .ok (.aload_n 0, 1) ∧ decode cX10_init 33 = .ok (.bipush 36, 2) := by decide +kernel
theorem dX10_init_0 : decode cX10_init 0 = .ok (.aload_n 0, 1) := db_X10_init_0.1
theorem dX10_init_1 : decode cX10_init 1 = .ok (.invokespecial 3, 3) := db_X10_init_0.2.1
theorem dX10_init_4 : decode cX10_init 4 = .ok (.aload_n 0, 1) := db_X10_init_0.2.2.1
theorem dX10_init_5 : decode cX10_init 5 = .ok (.sipush 500, 3) := db_X10_init_0.2.2.2.1
theorem dX10_init_8 : decode cX10_init 8 = .ok (.anewarray 9, 3) := db_X10_init_0.2.2.2.2.1
theorem dX10_init_11 : decode cX10_init 11 = .ok (.putfield 11, 3) := db_X10_init_0.2.2.2.2.2.1
theorem dX10_init_14 : decode cX10_init 14 = .ok (.aload_n 0, 1) := db_X10_init_0.2.2.2.2.2.2.1
theorem dX10_init_15 : decode cX10_init 15 = .ok (.sipush 2196, 3) := db_X10_init_0.2.2.2.2.2.2.2.1
theorem dX10_init_18 : decode cX10_init 18 = .ok (.anewarray 17, 3) := db_X10_init_0.2.2.2.2.2.2.2.2.1
theorem dX10_init_21 : decode cX10_init 21 = .ok (.putfield 19, 3) := db_X10_init_0.2.2.2.2.2.2.2.2.2.1
theorem dX10_init_24 : decode cX10_init 24 = .ok (.aload_n 0, 1) := db_X10_init_0.2.2.2.2.2.2.2.2.2.2.1
theorem dX10_init_25 : decode cX10_init 25 = .ok (.bipush 36, 2) := db_X10_init_0.2.2.2.2.2.2.2.2.2.2.2.1
theorem dX10_init_27 : decode cX10_init 27 = .ok (.newarray .int, 2) := db_X10_init_0.2.2.2.2.2.2.2.2.2.2.2.2.1
theorem dX10_init_29 : decode cX10_init 29 = .ok (.putfield 23, 3) := db_X10_init_0.2.2.2.2.2.2.2.2.2.2.2.2.2.1
theorem dX10_init_32 : decode cX10_init 32 = .ok (.aload_n 0, 1) := db_X10_init_0.2.2.2.2.2.2.2.2.2.2.2.2.2.2.1
theorem dX10_init_33 : decode cX10_init 33 = .ok (.bipush 36, 2) := db_X10_init_0.2.2.2.2.2.2.2.2.2.2.2.2.2.2.2
theorem db_X10_init_35 : decode cX10_init 35 = .ok (.newarray .int, 2) ∧ decode cX10_init 37 = .ok (.putfield 27, 3) ∧ decode cX10_init 40 = .ok (.aload_n 0, 1) ∧ decode cX10_init 41 = .ok (.new 17, 3) ∧ decode cX10_init 44 = .ok (.dup, 1) ∧ decode cX10_init 45 = .ok (.invokespecial 30, 3) ∧ decode cX10_init 48 = .ok (.putfield 31, 3) ∧ decode cX10_init 51 = .ok (.aload_n 0, 1) ∧ decode cX10_init 52 = .ok (.sipush 6400, 3) ∧ decode cX10_init 55 = .ok (.newarray .byte, 2) ∧ decode cX10_init 57 = .ok (.putfield 35, 3) ∧ decode cX10_init 60 = .ok (.aload_n 0, 1) ∧ decode cX10_init 61 = .ok (.bipush 64, 2) ∧ decode cX10_init 63 = .ok (.newarray .byte, 2) ∧ decode cX10_init 65 = .ok (.putfield 39, 3) ∧ decode cX10_init 68 = .ok (.aload_n 0, 1) := by decide +kernel
theorem dX10_init_35 : decode cX10_init 35 = .ok (.newarray .int, 2) := db_X10_init_35.1
theorem dX10_init_37 : decode cX10_init 37 = .ok (.putfield 27, 3) := db_X10_init_35.2.1
theorem dX10_init_40 : decode cX10_init 40 = .ok (.aload_n 0, 1) := db_X10_init_35.2.2.1
theorem dX10_init_41 : decode cX10_init 41 = .ok (.new 17, 3) := db_X10_init_35.2.2.2.1
theorem dX10_init_44 : decode cX10_init 44 = .ok (.dup, 1) := db_X10_init_35.2.2.2.2.1
theorem dX10_init_45 : decode cX10_init 45 = .ok (.invokespecial 30, 3) := db_X10_init_35.2.2.2.2.2.1
theorem dX10_init_48 : decode cX10_init 48 = .ok (.putfield 31, 3) := db_X10_init_35.2.2.2.2.2.2.1
theorem dX10_init_51 : decode cX10_init 51 = .ok (.aload_n 0, 1) := db_X10_init_35.2.2.2.2.2.2.2.1
theorem dX10_init_52 : decode cX10_init 52 = .ok (.sipush 6400, 3) := db_X10_init_35.2.2.2.2.2.2.2.2.1
theorem dX10_init_55 : decode cX10_init 55 = .ok (.newarray .byte, 2) := db_X10_init_35.2.2.2.2.2.2.2.2.2.1
theorem dX10_init_57 : decode cX10_init 57 = .ok (.putfield 35, 3) := db_X10_init_35.2.2.2.2.2.2.2.2.2.2.1
theorem dX10_init_60 : decode cX10_init 60 = .ok (.aload_n 0, 1) := db_X10_init_35.2.2.2.2.2.2.2.2.2.2.2.1
theorem dX10_init_61 : decode cX10_init 61 = .ok (.bipush 64, 2) := db_X10_init_35.2.2.2.2.2.2.2.2.2.2.2.2.1
theorem dX10_init_63 : decode cX10_init 63 = .ok (.newarray .byte, 2) := db_X10_init_35.2.2.2.2.2.2.2.2.2.2.2.2.2.1
theorem dX10_init_65 : decode cX10_init 65 = .ok (.putfield 39, 3) := db_X10_init_35.2.2.2.2.2.2.2.2.2.2.2.2.2.2.1
theorem dX10_init_68 : decode cX10_init 68 = .ok (.aload_n 0, 1) := db_X10_init_35.2.2.2.2.2.2.2.2.2.2.2.2.2.2.2
theorem db_X10_init_69 : decode cX10_init 69 = .ok (.bipush 100, 2) ∧ decode cX10_init 71 = .ok (.newarray .int, 2) ∧ decode cX10_init 73 = .ok (.putfield 42, 3) ∧ decode cX10_init 76 = .ok (.return_, 1) := by decide +kernel
theorem dX10_init_69 : decode cX10_init 69 = .ok (.bipush 100, 2) := db_X10_init_69.1
theorem dX10_init_71 : decode cX10_init 71 = .ok (.newarray .int, 2) := db_X10_init_69.2.1
theorem dX10_init_73 : decode cX10_init 73 = .ok (.putfield 42, 3) := db_X10_init_69.2.2.1
theorem dX10_init_76 : decode cX10_init 76 = .ok (.return_, 1) := db_X10_init_69.2.2.2
theorem db_X10_begin_0 : decode cX10_begin 0 = .ok (.aload_n 0, 1) ∧ decode cX10_begin 1 = .ok (.iload_n 1, 1) ∧ decode cX10_begin 2 = .ok (.putfield 45, 3) ∧ decode cX10_begin 5 = .ok (.aload_n 0, 1) ∧ decode cX10_begin 6 = .ok (.iload_n 2, 1) ∧ decode cX10_begin 7 = .ok (.putfield 49, 3) ∧ decode cX10_begin 10 = .ok (.aload_n 0, 1) ∧ decode cX10_begin 11 = .ok (.iload_n 3, 1) ∧ decode cX10_begin 12 = .ok (.putfield 52, 3) ∧ decode cX10_begin 15 = .ok (.aload_n 0, 1) ∧ decode cX10_begin 16 = .ok (.iconst 0, 1) ∧ decode cX10_begin 17 = .ok (.putfield 55, 3) ∧ decode cX10_begin 20 = .ok (.iconst 0, 1) ∧ decode cX10_begin 21 = .ok (.istore 4, 2) ∧ decode cX10_begin 23 = .ok (.iload 4, 2) ∧ decode cX10_begin 25 = .ok (.aload_n 0, 1) := by decide +kernel
theorem dX10_begin_0 : decode cX10_begin 0 = .ok (.aload_n 0, 1) := db_X10_begin_0.1
theorem dX10_begin_1 : decode cX10_begin 1 = .ok (.iload_n 1, 1) := db_X10_begin_0.2.1
theorem dX10_begin_2 : decode cX10_begin 2 = .ok (.putfield 45, 3) := db_X10_begin_0.2.2.1
theorem dX10_begin_5 : decode cX10_begin 5 = .ok (.aload_n 0, 1) := db_X10_begin_0.2.2.2.1
theorem dX10_begin_6 : decode cX10_begin 6 = .ok (.iload_n 2, 1) := db_X10_begin_0.2.2.2.2.1
theorem dX10_begin_7 : decode cX10_begin 7 = .ok (.putfield 49, 3) := db_X10_begin_0.2.2.2.2.2.1
theorem dX10_begin_10 : decode cX10_begin 10 = .ok (.aload_n 0, 1) := db_X10_begin_0.2.2.2.2.2.2.1
theorem dX10_begin_11 : decode cX10_begin 11 = .ok (.iload_n 3, 1) := db_X10_begin_0.2.2.2.2.2.2.2.1
theorem dX10_begin_12 : decode cX10_begin 12 = .ok (.putfield 52, 3) := db_X10_begin_0.2.2.2.2.2.2.2.2.1
theorem dX10_begin_15 : decode cX10_begin 15 = .ok (.aload_n 0, 1) := db_X10_begin_0.2.2.2.2.2.2.2.2.2.1
theorem dX10_begin_16 : decode cX10_begin 16 = .ok (.iconst 0, 1) := db_X10_begin_0.2.2.2.2.2.2.2.2.2.2.1
theorem dX10_begin_17 : decode cX10_begin 17 = .ok (.putfield 55, 3) := db_X10_begin_0.2.2.2.2.2.2.2.2.2.2.2.1
theorem dX10_begin_20 : decode cX10_begin 20 = .ok (.iconst 0, 1) := db_X10_begin_0.2.2.2.2.2.2.2.2.2.2.2.2.1
theorem dX10_begin_21 : decode cX10_begin 21 = .ok (.istore 4, 2) := db_X10_begin_0.2.2.2.2.2.2.2.2.2.2.2.2.2.1
theorem dX10_begin_23 : decode cX10_begin 23 = .ok (.iload 4, 2) := db_X10_begin_0.2.2.2.2.2.2.2.2.2.2.2.2.2.2.1
theorem dX10_begin_25 : decode cX10_begin 25 = .ok (.aload_n 0, 1) := db_X10_begin_0.2.2.2.2.2.2.2.2.2.2.2.2.2.2.2
theorem db_X10_begin_26 : decode cX10_begin 26 = .ok (.getfield 58, 3) ∧ decode cX10_begin 29 = .ok (.if_icmp .ge 17, 3) ∧ decode cX10_begin 46 = .ok (.aload_n 0, 1) ∧ decode cX10_begin 47 = .ok (.iconst 0, 1) ∧ decode cX10_begin 48 = .ok (.putfield 58, 3) ∧ decode cX10_begin 51 = .ok (.aload_n 0, 1) ∧ decode cX10_begin 52 = .ok (.iconst 0, 1) ∧ decode cX10_begin 53 = .ok (.putfield 61, 3) ∧ decode cX10_begin 56 = .ok (.aload_n 0, 1) ∧ decode cX10_begin 57 = .ok (.iconst 0, 1) ∧ decode cX10_begin 58 = .ok (.putfield 64, 3) ∧ decode cX10_begin 61 = .ok (.aload_n 0, 1) ∧ decode cX10_begin 62 = .ok (.iconst 0, 1) ∧ decode cX10_begin 63 = .ok (.putfield 67, 3) ∧ decode cX10_begin 66 = .ok (.aload_n 0, 1) ∧ decode cX10_begin 67 = .ok (.iconst 0, 1) := by decide +kernel
theorem dX10_begin_26 : decode cX10_begin 26 = .ok (.getfield 58, 3) := db_X10_begin_26.1
theorem dX10_begin_29 : decode cX10_begin 29 = .ok (.if_icmp .ge 17, 3) := db_X10_begin_26.2.1
theorem dX10_begin_46 : decode cX10_begin 46 = .ok (.aload_n 0, 1) := db_X10_begin_26.2.2.1
theorem dX10_begin_47 : decode cX10_begin 47 = .ok (.iconst 0, 1) := db_X10_begin_26.2.2.2.1
theorem dX10_begin_48 : decode cX10_begin 48 = .ok (.putfield 58, 3) := db_X10_begin_26.2.2.2.2.1
theorem dX10_begin_51 : decode cX10_begin 51 = .ok (.aload_n 0, 1) := db_X10_begin_26.2.2.2.2.2.1
theorem dX10_begin_52 : decode cX10_begin 52 = .ok (.iconst 0, 1) := db_X10_begin_26.2.2.2.2.2.2.1
theorem dX10_begin_53 : decode cX10_begin 53 = .ok (.putfield 61, 3) := db_X10_begin_26.2.2.2.2.2.2.2.1
theorem dX10_begin_56 : decode cX10_begin 56 = .ok (.aload_n 0, 1) := db_X10_begin_26.2.2.2.2.2.2.2.2.1
theorem dX10_begin_57 : decode cX10_begin 57 = .ok (.iconst 0, 1) := db_X10_begin_26.2.2.2.2.2.2.2.2.2.1
theorem dX10_begin_58 : decode cX10_begin 58 = .ok (.putfield 64, 3) := db_X10_begin_26.2.2.2.2.2.2.2.2.2.2.1
theorem dX10_begin_61 : decode cX10_begin 61 = .ok (.aload_n 0, 1) := db_X10_begin_26.2.2.2.2.2.2.2.2.2.2.2.1
theorem dX10_begin_62 : decode cX10_begin 62 = .ok (.iconst 0, 1) := db_X10_begin_26.2.2.2.2.2.2.2.2.2.2.2.2.1
theorem dX10_begin_63 : decode cX10_begin 63 = .ok (.putfield 67, 3) := db_X10_begin_26.2.2.2.2.2.2.2.2.2.2.2.2.2.1
theorem dX10_begin_66 : decode cX10_begin 66 = .ok (.aload_n 0, 1) := db_X10_begin_26.2.2.2.2.2.2.2.2.2.2.2.2.2.2.1
theorem dX10_begin_67 : decode cX10_begin 67 = .ok (.iconst 0, 1) := db_X10_begin_26.2.2.2.2.2.2.2.2.2.2.2.2.2.2.2
theorem db_X10_begin_68 : decode cX10_begin 68 = .ok (.putfield 70, 3) ∧ decode cX10_begin 71 = .ok (.aload_n 0, 1) ∧ decode cX10_begin 72 = .ok (.getfield 27, 3) ∧ decode cX10_begin 75 = .ok (.iconst 0, 1) ∧ decode cX10_begin 76 = .ok (.invokestatic 73, 3) ∧ decode cX10_begin 79 = .ok (.return_, 1) := by decide +kernel
theorem dX10_begin_68 : decode cX10_begin 68 = .ok (.putfield 70, 3) := db_X10_begin_68.1
theorem dX10_begin_71 : decode cX10_begin 71 = .ok (.aload_n 0, 1) := db_X10_begin_68.2.1
theorem dX10_begin_72 : decode cX10_begin 72 = .ok (.getfield 27, 3) := db_X10_begin_68.2.2.1
theorem dX10_begin_75 : decode cX10_begin 75 = .ok (.iconst 0, 1) := db_X10_begin_68.2.2.2.1
theorem dX10_begin_76 : decode cX10_begin 76 = .ok (.invokestatic 73, 3) := db_X10_begin_68.2.2.2.2.1
theorem dX10_begin_79 : decode cX10_begin 79 = .ok (.return_, 1) := db_X10_begin_68.2.2.2.2.2
theorem db_X10_holds_0 : decode cX10_holds 0 = .ok (.iload_n 1, 1) ∧ decode cX10_holds 1 = .ok (.ifCond .lt 44, 3) ∧ decode cX10_holds 4 = .ok (.iload_n 1, 1) ∧ decode cX10_holds 5 = .ok (.aload_n 0, 1) ∧ decode cX10_holds 6 = .ok (.getfield 45, 3) ∧ decode cX10_holds 9 = .ok (.if_icmp .ge 36, 3) ∧ decode cX10_holds 12 = .ok (.iload_n 2, 1) ∧ decode cX10_holds 13 = .ok (.ifCond .lt 32, 3) ∧ decode cX10_holds 16 = .ok (.iload_n 2, 1) ∧ decode cX10_holds 17 = .ok (.aload_n 0, 1) ∧ decode cX10_holds 18 = .ok (.getfield 49, 3) ∧ decode cX10_holds 21 = .ok (.if_icmp .ge 24, 3) ∧ decode cX10_holds 24 = .ok (.iload_n 1, 1) ∧ decode cX10_holds 25 = .ok (.iload_n 2, 1) ∧ decode cX10_holds 26 = .ok (.isub, 1) ∧ decode cX10_holds 27 = .ok (.aload_n 0, 1) := by decide +kernel
theorem dX10_holds_0 : decode cX10_holds 0 = .ok (.iload_n 1, 1) := db_X10_holds_0.1
theorem dX10_holds_1 : decode cX10_holds 1 = .ok (.ifCond .lt 44, 3) := db_X10_holds_0.2.1
theorem dX10_holds_4 : decode cX10_holds 4 = .ok (.iload_n 1, 1) := db_X10_holds_0.2.2.1
theorem dX10_holds_5 : decode cX10_holds 5 = .ok (.aload_n 0, 1) := db_X10_holds_0.2.2.2.1
theorem dX10_holds_6 : decode cX10_holds 6 = .ok (.getfield 45, 3) := db_X10_holds_0.2.2.2.2.1
theorem dX10_holds_9 : decode cX10_holds 9 = .ok (.if_icmp .ge 36, 3) := db_X10_holds_0.2.2.2.2.2.1
theorem dX10_holds_12 : decode cX10_holds 12 = .ok (.iload_n 2, 1) := db_X10_holds_0.2.2.2.2.2.2.1
theorem dX10_holds_13 : decode cX10_holds 13 = .ok (.ifCond .lt 32, 3) := db_X10_holds_0.2.2.2.2.2.2.2.1
theorem dX10_holds_16 : decode cX10_holds 16 = .ok (.iload_n 2, 1) := db_X10_holds_0.2.2.2.2.2.2.2.2.1
theorem dX10_holds_17 : decode cX10_holds 17 = .ok (.aload_n 0, 1) := db_X10_holds_0.2.2.2.2.2.2.2.2.2.1
theorem dX10_holds_18 : decode cX10_holds 18 = .ok (.getfield 49, 3) := db_X10_holds_0.2.2.2.2.2.2.2.2.2.2.1
theorem dX10_holds_21 : decode cX10_holds 21 = .ok (.if_icmp .ge 24, 3) := db_X10_holds_0.2.2.2.2.2.2.2.2.2.2.2.1
theorem dX10_holds_24 : decode cX10_holds 24 = .ok (.iload_n 1, 1) := db_X10_holds_0.2.2.2.2.2.2.2.2.2.2.2.2.1
theorem dX10_holds_25 : decode cX10_holds 25 = .ok (.iload_n 2, 1) := db_X10_holds_0.2.2.2.2.2.2.2.2.2.2.2.2.2.1
theorem dX10_holds_26 : decode cX10_holds 26 = .ok (.isub, 1) := db_X10_holds_0.2.2.2.2.2.2.2.2.2.2.2.2.2.2.1
theorem dX10_holds_27 : decode cX10_holds 27 = .ok (.aload_n 0, 1) := db_X10_holds_0.2.2.2.2.2.2.2.2.2.2.2.2.2.2.2
theorem db_X10_holds_28 : decode cX10_holds 28 = .ok (.getfield 45, 3) ∧ decode cX10_holds 31 = .ok (.invokestatic 79, 3) ∧ decode cX10_holds 34 = .ok (.aload_n 0, 1) ∧ decode cX10_holds 35 = .ok (.getfield 52, 3) ∧ decode cX10_holds 38 = .ok (.if_icmp .ge 7, 3) ∧ decode cX10_holds 41 = .ok (.iconst 1, 1) ∧ decode cX10_holds 42 = .ok (.goto 4, 3) ∧ decode cX10_holds 45 = .ok (.iconst 0, 1) ∧ decode cX10_holds 46 = .ok (.ireturn, 1) := by decide +kernel
theorem dX10_holds_28 : decode cX10_holds 28 = .ok (.getfield 45, 3) := db_X10_holds_28.1
theorem dX10_holds_31 : decode cX10_holds 31 = .ok (.invokestatic 79, 3) := db_X10_holds_28.2.1
theorem dX10_holds_34 : decode cX10_holds 34 = .ok (.aload_n 0, 1) := db_X10_holds_28.2.2.1
theorem dX10_holds_35 : decode cX10_holds 35 = .ok (.getfield 52, 3) := db_X10_holds_28.2.2.2.1
theorem dX10_holds_38 : decode cX10_holds 38 = .ok (.if_icmp .ge 7, 3) := db_X10_holds_28.2.2.2.2.1
theorem dX10_holds_41 : decode cX10_holds 41 = .ok (.iconst 1, 1) := db_X10_holds_28.2.2.2.2.2.1
theorem dX10_holds_42 : decode cX10_holds 42 = .ok (.goto 4, 3) := db_X10_holds_28.2.2.2.2.2.2.1
theorem dX10_holds_45 : decode cX10_holds 45 = .ok (.iconst 0, 1) := db_X10_holds_28.2.2.2.2.2.2.2.1
theorem dX10_holds_46 : decode cX10_holds 46 = .ok (.ireturn, 1) := db_X10_holds_28.2.2.2.2.2.2.2.2
theorem db_X10_maskOf_0 : decode cX10_maskOf 0 = .ok (.iconst 0, 1) ∧ decode cX10_maskOf 1 = .ok (.istore_n 2, 1) ∧ decode cX10_maskOf 2 = .ok (.iconst 0, 1) ∧ decode cX10_maskOf 3 = .ok (.istore_n 3, 1) ∧ decode cX10_maskOf 4 = .ok (.iload_n 3, 1) ∧ decode cX10_maskOf 5 = .ok (.aload_n 0, 1) ∧ decode cX10_maskOf 6 = .ok (.getfield 45, 3) ∧ decode cX10_maskOf 9 = .ok (.if_icmp .ge 24, 3) ∧ decode cX10_maskOf 12 = .ok (.aload_n 0, 1) ∧ decode cX10_maskOf 13 = .ok (.iload_n 3, 1) ∧ decode cX10_maskOf 14 = .ok (.iload_n 1, 1) ∧ decode cX10_maskOf 15 = .ok (.invokevirtual 85, 3) ∧ decode cX10_maskOf 18 = .ok (.ifCond .eq 9, 3) ∧ decode cX10_maskOf 21 = .ok (.iload_n 2, 1) ∧ decode cX10_maskOf 22 = .ok (.iconst 1, 1) ∧ decode cX10_maskOf 23 = .ok (.iload_n 3, 1) := by decide +kernel
theorem dX10_maskOf_0 : decode cX10_maskOf 0 = .ok (.iconst 0, 1) := db_X10_maskOf_0.1
theorem dX10_maskOf_1 : decode cX10_maskOf 1 = .ok (.istore_n 2, 1) := db_X10_maskOf_0.2.1
theorem dX10_maskOf_2 : decode cX10_maskOf 2 = .ok (.iconst 0, 1) := db_X10_maskOf_0.2.2.1
theorem dX10_maskOf_3 : decode cX10_maskOf 3 = .ok (.istore_n 3, 1) := db_X10_maskOf_0.2.2.2.1
theorem dX10_maskOf_4 : decode cX10_maskOf 4 = .ok (.iload_n 3, 1) := db_X10_maskOf_0.2.2.2.2.1
theorem dX10_maskOf_5 : decode cX10_maskOf 5 = .ok (.aload_n 0, 1) := db_X10_maskOf_0.2.2.2.2.2.1
theorem dX10_maskOf_6 : decode cX10_maskOf 6 = .ok (.getfield 45, 3) := db_X10_maskOf_0.2.2.2.2.2.2.1
theorem dX10_maskOf_9 : decode cX10_maskOf 9 = .ok (.if_icmp .ge 24, 3) := db_X10_maskOf_0.2.2.2.2.2.2.2.1
theorem dX10_maskOf_12 : decode cX10_maskOf 12 = .ok (.aload_n 0, 1) := db_X10_maskOf_0.2.2.2.2.2.2.2.2.1
theorem dX10_maskOf_13 : decode cX10_maskOf 13 = .ok (.iload_n 3, 1) := db_X10_maskOf_0.2.2.2.2.2.2.2.2.2.1
theorem dX10_maskOf_14 : decode cX10_maskOf 14 = .ok (.iload_n 1, 1) := db_X10_maskOf_0.2.2.2.2.2.2.2.2.2.2.1
theorem dX10_maskOf_15 : decode cX10_maskOf 15 = .ok (.invokevirtual 85, 3) := db_X10_maskOf_0.2.2.2.2.2.2.2.2.2.2.2.1
theorem dX10_maskOf_18 : decode cX10_maskOf 18 = .ok (.ifCond .eq 9, 3) := db_X10_maskOf_0.2.2.2.2.2.2.2.2.2.2.2.2.1
theorem dX10_maskOf_21 : decode cX10_maskOf 21 = .ok (.iload_n 2, 1) := db_X10_maskOf_0.2.2.2.2.2.2.2.2.2.2.2.2.2.1
theorem dX10_maskOf_22 : decode cX10_maskOf 22 = .ok (.iconst 1, 1) := db_X10_maskOf_0.2.2.2.2.2.2.2.2.2.2.2.2.2.2.1
theorem dX10_maskOf_23 : decode cX10_maskOf 23 = .ok (.iload_n 3, 1) := db_X10_maskOf_0.2.2.2.2.2.2.2.2.2.2.2.2.2.2.2
theorem db_X10_maskOf_24 : decode cX10_maskOf 24 = .ok (.ishl, 1) ∧ decode cX10_maskOf 25 = .ok (.ior, 1) ∧ decode cX10_maskOf 26 = .ok (.istore_n 2, 1) ∧ decode cX10_maskOf 27 = .ok (.iinc 3 1, 3) ∧ decode cX10_maskOf 30 = .ok (.goto (-26), 3) ∧ decode cX10_maskOf 33 = .ok (.iload_n 2, 1) ∧ decode cX10_maskOf 34 = .ok (.ireturn, 1) := by decide +kernel
theorem dX10_maskOf_24 : decode cX10_maskOf 24 = .ok (.ishl, 1) := db_X10_maskOf_24.1
theorem dX10_maskOf_25 : decode cX10_maskOf 25 = .ok (.ior, 1) := db_X10_maskOf_24.2.1
theorem dX10_maskOf_26 : decode cX10_maskOf 26 = .ok (.istore_n 2, 1) := db_X10_maskOf_24.2.2.1
theorem dX10_maskOf_27 : decode cX10_maskOf 27 = .ok (.iinc 3 1, 3) := db_X10_maskOf_24.2.2.2.1
theorem dX10_maskOf_30 : decode cX10_maskOf 30 = .ok (.goto (-26), 3) := db_X10_maskOf_24.2.2.2.2.1
theorem dX10_maskOf_33 : decode cX10_maskOf 33 = .ok (.iload_n 2, 1) := db_X10_maskOf_24.2.2.2.2.2.1
theorem dX10_maskOf_34 : decode cX10_maskOf 34 = .ok (.ireturn, 1) := db_X10_maskOf_24.2.2.2.2.2.2
theorem db_X10_shardOf_0 : decode cX10_shardOf 0 = .ok (.aload_n 0, 1) ∧ decode cX10_shardOf 1 = .ok (.getfield 49, 3) ∧ decode cX10_shardOf 4 = .ok (.ifCond .le 12, 3) ∧ decode cX10_shardOf 7 = .ok (.iload_n 1, 1) ∧ decode cX10_shardOf 8 = .ok (.aload_n 0, 1) ∧ decode cX10_shardOf 9 = .ok (.getfield 49, 3) ∧ decode cX10_shardOf 12 = .ok (.irem, 1) ∧ decode cX10_shardOf 13 = .ok (.goto 4, 3) ∧ decode cX10_shardOf 17 = .ok (.ireturn, 1) := by decide +kernel
theorem dX10_shardOf_0 : decode cX10_shardOf 0 = .ok (.aload_n 0, 1) := db_X10_shardOf_0.1
theorem dX10_shardOf_1 : decode cX10_shardOf 1 = .ok (.getfield 49, 3) := db_X10_shardOf_0.2.1
theorem dX10_shardOf_4 : decode cX10_shardOf 4 = .ok (.ifCond .le 12, 3) := db_X10_shardOf_0.2.2.1
theorem dX10_shardOf_7 : decode cX10_shardOf 7 = .ok (.iload_n 1, 1) := db_X10_shardOf_0.2.2.2.1
theorem dX10_shardOf_8 : decode cX10_shardOf 8 = .ok (.aload_n 0, 1) := db_X10_shardOf_0.2.2.2.2.1
theorem dX10_shardOf_9 : decode cX10_shardOf 9 = .ok (.getfield 49, 3) := db_X10_shardOf_0.2.2.2.2.2.1
theorem dX10_shardOf_12 : decode cX10_shardOf 12 = .ok (.irem, 1) := db_X10_shardOf_0.2.2.2.2.2.2.1
theorem dX10_shardOf_13 : decode cX10_shardOf 13 = .ok (.goto 4, 3) := db_X10_shardOf_0.2.2.2.2.2.2.2.1
theorem dX10_shardOf_17 : decode cX10_shardOf 17 = .ok (.ireturn, 1) := db_X10_shardOf_0.2.2.2.2.2.2.2.2
theorem db_X10_firstPrimaryOf_0 : decode cX10_firstPrimaryOf 0 = .ok (.aload_n 0, 1) ∧ decode cX10_firstPrimaryOf 1 = .ok (.getfield 45, 3) ∧ decode cX10_firstPrimaryOf 4 = .ok (.ifCond .le 12, 3) ∧ decode cX10_firstPrimaryOf 7 = .ok (.iload_n 1, 1) ∧ decode cX10_firstPrimaryOf 8 = .ok (.aload_n 0, 1) ∧ decode cX10_firstPrimaryOf 9 = .ok (.getfield 45, 3) ∧ decode cX10_firstPrimaryOf 12 = .ok (.irem, 1) ∧ decode cX10_firstPrimaryOf 13 = .ok (.goto 4, 3) ∧ decode cX10_firstPrimaryOf 17 = .ok (.ireturn, 1) := by decide +kernel
theorem dX10_firstPrimaryOf_0 : decode cX10_firstPrimaryOf 0 = .ok (.aload_n 0, 1) := db_X10_firstPrimaryOf_0.1
theorem dX10_firstPrimaryOf_1 : decode cX10_firstPrimaryOf 1 = .ok (.getfield 45, 3) := db_X10_firstPrimaryOf_0.2.1
theorem dX10_firstPrimaryOf_4 : decode cX10_firstPrimaryOf 4 = .ok (.ifCond .le 12, 3) := db_X10_firstPrimaryOf_0.2.2.1
theorem dX10_firstPrimaryOf_7 : decode cX10_firstPrimaryOf 7 = .ok (.iload_n 1, 1) := db_X10_firstPrimaryOf_0.2.2.2.1
theorem dX10_firstPrimaryOf_8 : decode cX10_firstPrimaryOf 8 = .ok (.aload_n 0, 1) := db_X10_firstPrimaryOf_0.2.2.2.2.1
theorem dX10_firstPrimaryOf_9 : decode cX10_firstPrimaryOf 9 = .ok (.getfield 45, 3) := db_X10_firstPrimaryOf_0.2.2.2.2.2.1
theorem dX10_firstPrimaryOf_12 : decode cX10_firstPrimaryOf 12 = .ok (.irem, 1) := db_X10_firstPrimaryOf_0.2.2.2.2.2.2.1
theorem dX10_firstPrimaryOf_13 : decode cX10_firstPrimaryOf 13 = .ok (.goto 4, 3) := db_X10_firstPrimaryOf_0.2.2.2.2.2.2.2.1
theorem dX10_firstPrimaryOf_17 : decode cX10_firstPrimaryOf 17 = .ok (.ireturn, 1) := db_X10_firstPrimaryOf_0.2.2.2.2.2.2.2.2
theorem db_X10_requestAt_0 : decode cX10_requestAt 0 = .ok (.iload_n 1, 1) ∧ decode cX10_requestAt 1 = .ok (.ifCond .lt 11, 3) ∧ decode cX10_requestAt 4 = .ok (.iload_n 1, 1) ∧ decode cX10_requestAt 5 = .ok (.aload_n 0, 1) ∧ decode cX10_requestAt 6 = .ok (.getfield 58, 3) ∧ decode cX10_requestAt 9 = .ok (.if_icmp .lt 7, 3) ∧ decode cX10_requestAt 12 = .ok (.aconst_null, 1) ∧ decode cX10_requestAt 13 = .ok (.goto 9, 3) ∧ decode cX10_requestAt 22 = .ok (.areturn, 1) := by decide +kernel
theorem dX10_requestAt_0 : decode cX10_requestAt 0 = .ok (.iload_n 1, 1) := db_X10_requestAt_0.1
theorem dX10_requestAt_1 : decode cX10_requestAt 1 = .ok (.ifCond .lt 11, 3) := db_X10_requestAt_0.2.1
theorem dX10_requestAt_4 : decode cX10_requestAt 4 = .ok (.iload_n 1, 1) := db_X10_requestAt_0.2.2.1
theorem dX10_requestAt_5 : decode cX10_requestAt 5 = .ok (.aload_n 0, 1) := db_X10_requestAt_0.2.2.2.1
theorem dX10_requestAt_6 : decode cX10_requestAt 6 = .ok (.getfield 58, 3) := db_X10_requestAt_0.2.2.2.2.1
theorem dX10_requestAt_9 : decode cX10_requestAt 9 = .ok (.if_icmp .lt 7, 3) := db_X10_requestAt_0.2.2.2.2.2.1
theorem dX10_requestAt_12 : decode cX10_requestAt 12 = .ok (.aconst_null, 1) := db_X10_requestAt_0.2.2.2.2.2.2.1
theorem dX10_requestAt_13 : decode cX10_requestAt 13 = .ok (.goto 9, 3) := db_X10_requestAt_0.2.2.2.2.2.2.2.1
theorem dX10_requestAt_22 : decode cX10_requestAt 22 = .ok (.areturn, 1) := db_X10_requestAt_0.2.2.2.2.2.2.2.2
theorem db_X10_linkOf_0 : decode cX10_linkOf 0 = .ok (.iload_n 1, 1) ∧ decode cX10_linkOf 1 = .ok (.ifCond .lt 23, 3) ∧ decode cX10_linkOf 4 = .ok (.iload_n 1, 1) ∧ decode cX10_linkOf 5 = .ok (.aload_n 0, 1) ∧ decode cX10_linkOf 6 = .ok (.getfield 45, 3) ∧ decode cX10_linkOf 9 = .ok (.if_icmp .gt 15, 3) ∧ decode cX10_linkOf 12 = .ok (.iload_n 2, 1) ∧ decode cX10_linkOf 13 = .ok (.ifCond .lt 11, 3) ∧ decode cX10_linkOf 16 = .ok (.iload_n 2, 1) ∧ decode cX10_linkOf 17 = .ok (.aload_n 0, 1) ∧ decode cX10_linkOf 18 = .ok (.getfield 45, 3) ∧ decode cX10_linkOf 21 = .ok (.if_icmp .le 7, 3) ∧ decode cX10_linkOf 24 = .ok (.iconst (-1), 1) ∧ decode cX10_linkOf 25 = .ok (.goto 9, 3) ∧ decode cX10_linkOf 28 = .ok (.iload_n 1, 1) ∧ decode cX10_linkOf 29 = .ok (.bipush 6, 2) := by decide +kernel
theorem dX10_linkOf_0 : decode cX10_linkOf 0 = .ok (.iload_n 1, 1) := db_X10_linkOf_0.1
theorem dX10_linkOf_1 : decode cX10_linkOf 1 = .ok (.ifCond .lt 23, 3) := db_X10_linkOf_0.2.1
theorem dX10_linkOf_4 : decode cX10_linkOf 4 = .ok (.iload_n 1, 1) := db_X10_linkOf_0.2.2.1
theorem dX10_linkOf_5 : decode cX10_linkOf 5 = .ok (.aload_n 0, 1) := db_X10_linkOf_0.2.2.2.1
theorem dX10_linkOf_6 : decode cX10_linkOf 6 = .ok (.getfield 45, 3) := db_X10_linkOf_0.2.2.2.2.1
theorem dX10_linkOf_9 : decode cX10_linkOf 9 = .ok (.if_icmp .gt 15, 3) := db_X10_linkOf_0.2.2.2.2.2.1
theorem dX10_linkOf_12 : decode cX10_linkOf 12 = .ok (.iload_n 2, 1) := db_X10_linkOf_0.2.2.2.2.2.2.1
theorem dX10_linkOf_13 : decode cX10_linkOf 13 = .ok (.ifCond .lt 11, 3) := db_X10_linkOf_0.2.2.2.2.2.2.2.1
theorem dX10_linkOf_16 : decode cX10_linkOf 16 = .ok (.iload_n 2, 1) := db_X10_linkOf_0.2.2.2.2.2.2.2.2.1
theorem dX10_linkOf_17 : decode cX10_linkOf 17 = .ok (.aload_n 0, 1) := db_X10_linkOf_0.2.2.2.2.2.2.2.2.2.1
theorem dX10_linkOf_18 : decode cX10_linkOf 18 = .ok (.getfield 45, 3) := db_X10_linkOf_0.2.2.2.2.2.2.2.2.2.2.1
theorem dX10_linkOf_21 : decode cX10_linkOf 21 = .ok (.if_icmp .le 7, 3) := db_X10_linkOf_0.2.2.2.2.2.2.2.2.2.2.2.1
theorem dX10_linkOf_24 : decode cX10_linkOf 24 = .ok (.iconst (-1), 1) := db_X10_linkOf_0.2.2.2.2.2.2.2.2.2.2.2.2.1
theorem dX10_linkOf_25 : decode cX10_linkOf 25 = .ok (.goto 9, 3) := db_X10_linkOf_0.2.2.2.2.2.2.2.2.2.2.2.2.2.1
theorem dX10_linkOf_28 : decode cX10_linkOf 28 = .ok (.iload_n 1, 1) := db_X10_linkOf_0.2.2.2.2.2.2.2.2.2.2.2.2.2.2.1
theorem dX10_linkOf_29 : decode cX10_linkOf 29 = .ok (.bipush 6, 2) := db_X10_linkOf_0.2.2.2.2.2.2.2.2.2.2.2.2.2.2.2
theorem db_X10_linkOf_31 : decode cX10_linkOf 31 = .ok (.imul, 1) ∧ decode cX10_linkOf 32 = .ok (.iload_n 2, 1) ∧ decode cX10_linkOf 33 = .ok (.iadd, 1) ∧ decode cX10_linkOf 34 = .ok (.ireturn, 1) := by decide +kernel
theorem dX10_linkOf_31 : decode cX10_linkOf 31 = .ok (.imul, 1) := db_X10_linkOf_31.1
theorem dX10_linkOf_32 : decode cX10_linkOf 32 = .ok (.iload_n 2, 1) := db_X10_linkOf_31.2.1
theorem dX10_linkOf_33 : decode cX10_linkOf 33 = .ok (.iadd, 1) := db_X10_linkOf_31.2.2.1
theorem dX10_linkOf_34 : decode cX10_linkOf 34 = .ok (.ireturn, 1) := db_X10_linkOf_31.2.2.2
theorem db_X10_send_0 : decode cX10_send 0 = .ok (.aload_n 0, 1) ∧ decode cX10_send 1 = .ok (.getfield 31, 3) ∧ decode cX10_send 4 = .ok (.astore 4, 2) ∧ decode cX10_send 6 = .ok (.aload_n 0, 1) ∧ decode cX10_send 7 = .ok (.iload_n 1, 1) ∧ decode cX10_send 8 = .ok (.iload_n 2, 1) ∧ decode cX10_send 9 = .ok (.invokevirtual 89, 3) ∧ decode cX10_send 12 = .ok (.istore 5, 2) ∧ decode cX10_send 14 = .ok (.iload 5, 2) ∧ decode cX10_send 16 = .ok (.iconst (-1), 1) ∧ decode cX10_send 17 = .ok (.if_icmp .eq 28, 3) ∧ decode cX10_send 20 = .ok (.aload_n 0, 1) ∧ decode cX10_send 21 = .ok (.getfield 27, 3) ∧ decode cX10_send 24 = .ok (.iload 5, 2) ∧ decode cX10_send 26 = .ok (.iaload, 1) ∧ decode cX10_send 27 = .ok (.bipush 60, 2) := by decide +kernel
theorem dX10_send_0 : decode cX10_send 0 = .ok (.aload_n 0, 1) := db_X10_send_0.1
theorem dX10_send_1 : decode cX10_send 1 = .ok (.getfield 31, 3) := db_X10_send_0.2.1
theorem dX10_send_4 : decode cX10_send 4 = .ok (.astore 4, 2) := db_X10_send_0.2.2.1
theorem dX10_send_6 : decode cX10_send 6 = .ok (.aload_n 0, 1) := db_X10_send_0.2.2.2.1
theorem dX10_send_7 : decode cX10_send 7 = .ok (.iload_n 1, 1) := db_X10_send_0.2.2.2.2.1
theorem dX10_send_8 : decode cX10_send 8 = .ok (.iload_n 2, 1) := db_X10_send_0.2.2.2.2.2.1
theorem dX10_send_9 : decode cX10_send 9 = .ok (.invokevirtual 89, 3) := db_X10_send_0.2.2.2.2.2.2.1
theorem dX10_send_12 : decode cX10_send 12 = .ok (.istore 5, 2) := db_X10_send_0.2.2.2.2.2.2.2.1
theorem dX10_send_14 : decode cX10_send 14 = .ok (.iload 5, 2) := db_X10_send_0.2.2.2.2.2.2.2.2.1
theorem dX10_send_16 : decode cX10_send 16 = .ok (.iconst (-1), 1) := db_X10_send_0.2.2.2.2.2.2.2.2.2.1
theorem dX10_send_17 : decode cX10_send 17 = .ok (.if_icmp .eq 28, 3) := db_X10_send_0.2.2.2.2.2.2.2.2.2.2.1
theorem dX10_send_20 : decode cX10_send 20 = .ok (.aload_n 0, 1) := db_X10_send_0.2.2.2.2.2.2.2.2.2.2.2.1
theorem dX10_send_21 : decode cX10_send 21 = .ok (.getfield 27, 3) := db_X10_send_0.2.2.2.2.2.2.2.2.2.2.2.2.1
theorem dX10_send_24 : decode cX10_send 24 = .ok (.iload 5, 2) := db_X10_send_0.2.2.2.2.2.2.2.2.2.2.2.2.2.1
theorem dX10_send_26 : decode cX10_send 26 = .ok (.iaload, 1) := db_X10_send_0.2.2.2.2.2.2.2.2.2.2.2.2.2.2.1
theorem dX10_send_27 : decode cX10_send 27 = .ok (.bipush 60, 2) := db_X10_send_0.2.2.2.2.2.2.2.2.2.2.2.2.2.2.2
theorem db_X10_send_29 : decode cX10_send 29 = .ok (.if_icmp .lt 16, 3) ∧ decode cX10_send 45 = .ok (.iload 5, 2) ∧ decode cX10_send 47 = .ok (.iconst (-1), 1) ∧ decode cX10_send 48 = .ok (.if_icmp .eq 73, 3) ∧ decode cX10_send 51 = .ok (.iload 5, 2) ∧ decode cX10_send 53 = .ok (.bipush 61, 2) ∧ decode cX10_send 55 = .ok (.imul, 1) ∧ decode cX10_send 56 = .ok (.aload_n 0, 1) ∧ decode cX10_send 57 = .ok (.getfield 23, 3) ∧ decode cX10_send 60 = .ok (.iload 5, 2) ∧ decode cX10_send 62 = .ok (.iaload, 1) ∧ decode cX10_send 63 = .ok (.aload_n 0, 1) ∧ decode cX10_send 64 = .ok (.getfield 27, 3) ∧ decode cX10_send 67 = .ok (.iload 5, 2) ∧ decode cX10_send 69 = .ok (.iaload, 1) ∧ decode cX10_send 70 = .ok (.iadd, 1) := by decide +kernel
theorem dX10_send_29 : decode cX10_send 29 = .ok (.if_icmp .lt 16, 3) := db_X10_send_29.1
theorem dX10_send_45 : decode cX10_send 45 = .ok (.iload 5, 2) := db_X10_send_29.2.1
theorem dX10_send_47 : decode cX10_send 47 = .ok (.iconst (-1), 1) := db_X10_send_29.2.2.1
theorem dX10_send_48 : decode cX10_send 48 = .ok (.if_icmp .eq 73, 3) := db_X10_send_29.2.2.2.1
theorem dX10_send_51 : decode cX10_send 51 = .ok (.iload 5, 2) := db_X10_send_29.2.2.2.2.1
theorem dX10_send_53 : decode cX10_send 53 = .ok (.bipush 61, 2) := db_X10_send_29.2.2.2.2.2.1
theorem dX10_send_55 : decode cX10_send 55 = .ok (.imul, 1) := db_X10_send_29.2.2.2.2.2.2.1
theorem dX10_send_56 : decode cX10_send 56 = .ok (.aload_n 0, 1) := db_X10_send_29.2.2.2.2.2.2.2.1
theorem dX10_send_57 : decode cX10_send 57 = .ok (.getfield 23, 3) := db_X10_send_29.2.2.2.2.2.2.2.2.1
theorem dX10_send_60 : decode cX10_send 60 = .ok (.iload 5, 2) := db_X10_send_29.2.2.2.2.2.2.2.2.2.1
theorem dX10_send_62 : decode cX10_send 62 = .ok (.iaload, 1) := db_X10_send_29.2.2.2.2.2.2.2.2.2.2.1
theorem dX10_send_63 : decode cX10_send 63 = .ok (.aload_n 0, 1) := db_X10_send_29.2.2.2.2.2.2.2.2.2.2.2.1
theorem dX10_send_64 : decode cX10_send 64 = .ok (.getfield 27, 3) := db_X10_send_29.2.2.2.2.2.2.2.2.2.2.2.2.1
theorem dX10_send_67 : decode cX10_send 67 = .ok (.iload 5, 2) := db_X10_send_29.2.2.2.2.2.2.2.2.2.2.2.2.2.1
theorem dX10_send_69 : decode cX10_send 69 = .ok (.iaload, 1) := db_X10_send_29.2.2.2.2.2.2.2.2.2.2.2.2.2.2.1
theorem dX10_send_70 : decode cX10_send 70 = .ok (.iadd, 1) := db_X10_send_29.2.2.2.2.2.2.2.2.2.2.2.2.2.2.2
theorem db_X10_send_71 : decode cX10_send 71 = .ok (.bipush 61, 2) ∧ decode cX10_send 73 = .ok (.irem, 1) ∧ decode cX10_send 74 = .ok (.iadd, 1) ∧ decode cX10_send 75 = .ok (.istore 6, 2) ∧ decode cX10_send 77 = .ok (.aload_n 0, 1) ∧ decode cX10_send 78 = .ok (.getfield 19, 3) ∧ decode cX10_send 81 = .ok (.iload 6, 2) ∧ decode cX10_send 83 = .ok (.aaload, 1) ∧ decode cX10_send 84 = .ok (.ifnonnull 17, 3) ∧ decode cX10_send 87 = .ok (.aload_n 0, 1) ∧ decode cX10_send 88 = .ok (.getfield 19, 3) ∧ decode cX10_send 91 = .ok (.iload 6, 2) ∧ decode cX10_send 93 = .ok (.new 17, 3) ∧ decode cX10_send 96 = .ok (.dup, 1) ∧ decode cX10_send 97 = .ok (.invokespecial 30, 3) ∧ decode cX10_send 100 = .ok (.aastore, 1) := by decide +kernel
theorem dX10_send_71 : decode cX10_send 71 = .ok (.bipush 61, 2) := db_X10_send_71.1
theorem dX10_send_73 : decode cX10_send 73 = .ok (.irem, 1) := db_X10_send_71.2.1
theorem dX10_send_74 : decode cX10_send 74 = .ok (.iadd, 1) := db_X10_send_71.2.2.1
theorem dX10_send_75 : decode cX10_send 75 = .ok (.istore 6, 2) := db_X10_send_71.2.2.2.1
theorem dX10_send_77 : decode cX10_send 77 = .ok (.aload_n 0, 1) := db_X10_send_71.2.2.2.2.1
theorem dX10_send_78 : decode cX10_send 78 = .ok (.getfield 19, 3) := db_X10_send_71.2.2.2.2.2.1
theorem dX10_send_81 : decode cX10_send 81 = .ok (.iload 6, 2) := db_X10_send_71.2.2.2.2.2.2.1
theorem dX10_send_83 : decode cX10_send 83 = .ok (.aaload, 1) := db_X10_send_71.2.2.2.2.2.2.2.1
theorem dX10_send_84 : decode cX10_send 84 = .ok (.ifnonnull 17, 3) := db_X10_send_71.2.2.2.2.2.2.2.2.1
theorem dX10_send_87 : decode cX10_send 87 = .ok (.aload_n 0, 1) := db_X10_send_71.2.2.2.2.2.2.2.2.2.1
theorem dX10_send_88 : decode cX10_send 88 = .ok (.getfield 19, 3) := db_X10_send_71.2.2.2.2.2.2.2.2.2.2.1
theorem dX10_send_91 : decode cX10_send 91 = .ok (.iload 6, 2) := db_X10_send_71.2.2.2.2.2.2.2.2.2.2.2.1
theorem dX10_send_93 : decode cX10_send 93 = .ok (.new 17, 3) := db_X10_send_71.2.2.2.2.2.2.2.2.2.2.2.2.1
theorem dX10_send_96 : decode cX10_send 96 = .ok (.dup, 1) := db_X10_send_71.2.2.2.2.2.2.2.2.2.2.2.2.2.1
theorem dX10_send_97 : decode cX10_send 97 = .ok (.invokespecial 30, 3) := db_X10_send_71.2.2.2.2.2.2.2.2.2.2.2.2.2.2.1
theorem dX10_send_100 : decode cX10_send 100 = .ok (.aastore, 1) := db_X10_send_71.2.2.2.2.2.2.2.2.2.2.2.2.2.2.2
theorem db_X10_send_101 : decode cX10_send 101 = .ok (.aload_n 0, 1) ∧ decode cX10_send 102 = .ok (.getfield 27, 3) ∧ decode cX10_send 105 = .ok (.iload 5, 2) ∧ decode cX10_send 107 = .ok (.dup2, 1) ∧ decode cX10_send 108 = .ok (.iaload, 1) ∧ decode cX10_send 109 = .ok (.iconst 1, 1) ∧ decode cX10_send 110 = .ok (.iadd, 1) ∧ decode cX10_send 111 = .ok (.iastore, 1) ∧ decode cX10_send 112 = .ok (.aload_n 0, 1) ∧ decode cX10_send 113 = .ok (.getfield 19, 3) ∧ decode cX10_send 116 = .ok (.iload 6, 2) ∧ decode cX10_send 118 = .ok (.aaload, 1) ∧ decode cX10_send 119 = .ok (.astore 4, 2) ∧ decode cX10_send 121 = .ok (.aload 4, 2) ∧ decode cX10_send 123 = .ok (.iload_n 3, 1) ∧ decode cX10_send 124 = .ok (.putfield 92, 3) := by decide +kernel
theorem dX10_send_101 : decode cX10_send 101 = .ok (.aload_n 0, 1) := db_X10_send_101.1
theorem dX10_send_102 : decode cX10_send 102 = .ok (.getfield 27, 3) := db_X10_send_101.2.1
theorem dX10_send_105 : decode cX10_send 105 = .ok (.iload 5, 2) := db_X10_send_101.2.2.1
theorem dX10_send_107 : decode cX10_send 107 = .ok (.dup2, 1) := db_X10_send_101.2.2.2.1
theorem dX10_send_108 : decode cX10_send 108 = .ok (.iaload, 1) := db_X10_send_101.2.2.2.2.1
theorem dX10_send_109 : decode cX10_send 109 = .ok (.iconst 1, 1) := db_X10_send_101.2.2.2.2.2.1
theorem dX10_send_110 : decode cX10_send 110 = .ok (.iadd, 1) := db_X10_send_101.2.2.2.2.2.2.1
theorem dX10_send_111 : decode cX10_send 111 = .ok (.iastore, 1) := db_X10_send_101.2.2.2.2.2.2.2.1
theorem dX10_send_112 : decode cX10_send 112 = .ok (.aload_n 0, 1) := db_X10_send_101.2.2.2.2.2.2.2.2.1
theorem dX10_send_113 : decode cX10_send 113 = .ok (.getfield 19, 3) := db_X10_send_101.2.2.2.2.2.2.2.2.2.1
theorem dX10_send_116 : decode cX10_send 116 = .ok (.iload 6, 2) := db_X10_send_101.2.2.2.2.2.2.2.2.2.2.1
theorem dX10_send_118 : decode cX10_send 118 = .ok (.aaload, 1) := db_X10_send_101.2.2.2.2.2.2.2.2.2.2.2.1
theorem dX10_send_119 : decode cX10_send 119 = .ok (.astore 4, 2) := db_X10_send_101.2.2.2.2.2.2.2.2.2.2.2.2.1
theorem dX10_send_121 : decode cX10_send 121 = .ok (.aload 4, 2) := db_X10_send_101.2.2.2.2.2.2.2.2.2.2.2.2.2.1
theorem dX10_send_123 : decode cX10_send 123 = .ok (.iload_n 3, 1) := db_X10_send_101.2.2.2.2.2.2.2.2.2.2.2.2.2.2.1
theorem dX10_send_124 : decode cX10_send 124 = .ok (.putfield 92, 3) := db_X10_send_101.2.2.2.2.2.2.2.2.2.2.2.2.2.2.2
theorem db_X10_send_127 : decode cX10_send 127 = .ok (.aload 4, 2) ∧ decode cX10_send 129 = .ok (.getfield 95, 3) ∧ decode cX10_send 132 = .ok (.iconst 0, 1) ∧ decode cX10_send 133 = .ok (.invokestatic 73, 3) ∧ decode cX10_send 136 = .ok (.aload 4, 2) ∧ decode cX10_send 138 = .ok (.areturn, 1) := by decide +kernel
theorem dX10_send_127 : decode cX10_send 127 = .ok (.aload 4, 2) := db_X10_send_127.1
theorem dX10_send_129 : decode cX10_send 129 = .ok (.getfield 95, 3) := db_X10_send_127.2.1
theorem dX10_send_132 : decode cX10_send 132 = .ok (.iconst 0, 1) := db_X10_send_127.2.2.1
theorem dX10_send_133 : decode cX10_send 133 = .ok (.invokestatic 73, 3) := db_X10_send_127.2.2.2.1
theorem dX10_send_136 : decode cX10_send 136 = .ok (.aload 4, 2) := db_X10_send_127.2.2.2.2.1
theorem dX10_send_138 : decode cX10_send 138 = .ok (.areturn, 1) := db_X10_send_127.2.2.2.2.2
theorem db_X10_messageAt_0 : decode cX10_messageAt 0 = .ok (.aload_n 0, 1) ∧ decode cX10_messageAt 1 = .ok (.iload_n 1, 1) ∧ decode cX10_messageAt 2 = .ok (.iload_n 2, 1) ∧ decode cX10_messageAt 3 = .ok (.invokevirtual 89, 3) ∧ decode cX10_messageAt 6 = .ok (.istore 4, 2) ∧ decode cX10_messageAt 8 = .ok (.iload 4, 2) ∧ decode cX10_messageAt 10 = .ok (.iconst (-1), 1) ∧ decode cX10_messageAt 11 = .ok (.if_icmp .eq 18, 3) ∧ decode cX10_messageAt 14 = .ok (.iload_n 3, 1) ∧ decode cX10_messageAt 15 = .ok (.ifCond .lt 14, 3) ∧ decode cX10_messageAt 18 = .ok (.iload_n 3, 1) ∧ decode cX10_messageAt 19 = .ok (.aload_n 0, 1) ∧ decode cX10_messageAt 20 = .ok (.getfield 27, 3) ∧ decode cX10_messageAt 23 = .ok (.iload 4, 2) ∧ decode cX10_messageAt 25 = .ok (.iaload, 1) ∧ decode cX10_messageAt 26 = .ok (.if_icmp .lt 5, 3) := by decide +kernel
theorem dX10_messageAt_0 : decode cX10_messageAt 0 = .ok (.aload_n 0, 1) := db_X10_messageAt_0.1
theorem dX10_messageAt_1 : decode cX10_messageAt 1 = .ok (.iload_n 1, 1) := db_X10_messageAt_0.2.1
theorem dX10_messageAt_2 : decode cX10_messageAt 2 = .ok (.iload_n 2, 1) := db_X10_messageAt_0.2.2.1
theorem dX10_messageAt_3 : decode cX10_messageAt 3 = .ok (.invokevirtual 89, 3) := db_X10_messageAt_0.2.2.2.1
theorem dX10_messageAt_6 : decode cX10_messageAt 6 = .ok (.istore 4, 2) := db_X10_messageAt_0.2.2.2.2.1
theorem dX10_messageAt_8 : decode cX10_messageAt 8 = .ok (.iload 4, 2) := db_X10_messageAt_0.2.2.2.2.2.1
theorem dX10_messageAt_10 : decode cX10_messageAt 10 = .ok (.iconst (-1), 1) := db_X10_messageAt_0.2.2.2.2.2.2.1
theorem dX10_messageAt_11 : decode cX10_messageAt 11 = .ok (.if_icmp .eq 18, 3) := db_X10_messageAt_0.2.2.2.2.2.2.2.1
theorem dX10_messageAt_14 : decode cX10_messageAt 14 = .ok (.iload_n 3, 1) := db_X10_messageAt_0.2.2.2.2.2.2.2.2.1
theorem dX10_messageAt_15 : decode cX10_messageAt 15 = .ok (.ifCond .lt 14, 3) := db_X10_messageAt_0.2.2.2.2.2.2.2.2.2.1
theorem dX10_messageAt_18 : decode cX10_messageAt 18 = .ok (.iload_n 3, 1) := db_X10_messageAt_0.2.2.2.2.2.2.2.2.2.2.1
theorem dX10_messageAt_19 : decode cX10_messageAt 19 = .ok (.aload_n 0, 1) := db_X10_messageAt_0.2.2.2.2.2.2.2.2.2.2.2.1
theorem dX10_messageAt_20 : decode cX10_messageAt 20 = .ok (.getfield 27, 3) := db_X10_messageAt_0.2.2.2.2.2.2.2.2.2.2.2.2.1
theorem dX10_messageAt_23 : decode cX10_messageAt 23 = .ok (.iload 4, 2) := db_X10_messageAt_0.2.2.2.2.2.2.2.2.2.2.2.2.2.1
theorem dX10_messageAt_25 : decode cX10_messageAt 25 = .ok (.iaload, 1) := db_X10_messageAt_0.2.2.2.2.2.2.2.2.2.2.2.2.2.2.1
theorem dX10_messageAt_26 : decode cX10_messageAt 26 = .ok (.if_icmp .lt 5, 3) := db_X10_messageAt_0.2.2.2.2.2.2.2.2.2.2.2.2.2.2.2
theorem db_X10_messageAt_29 : decode cX10_messageAt 29 = .ok (.aconst_null, 1) ∧ decode cX10_messageAt 30 = .ok (.areturn, 1) ∧ decode cX10_messageAt 31 = .ok (.aload_n 0, 1) ∧ decode cX10_messageAt 32 = .ok (.getfield 19, 3) ∧ decode cX10_messageAt 35 = .ok (.iload 4, 2) ∧ decode cX10_messageAt 37 = .ok (.bipush 61, 2) ∧ decode cX10_messageAt 39 = .ok (.imul, 1) ∧ decode cX10_messageAt 40 = .ok (.aload_n 0, 1) ∧ decode cX10_messageAt 41 = .ok (.getfield 23, 3) ∧ decode cX10_messageAt 44 = .ok (.iload 4, 2) ∧ decode cX10_messageAt 46 = .ok (.iaload, 1) ∧ decode cX10_messageAt 47 = .ok (.iload_n 3, 1) ∧ decode cX10_messageAt 48 = .ok (.iadd, 1) ∧ decode cX10_messageAt 49 = .ok (.bipush 61, 2) ∧ decode cX10_messageAt 51 = .ok (.irem, 1) ∧ decode cX10_messageAt 52 = .ok (.iadd, 1) := by decide +kernel
theorem dX10_messageAt_29 : decode cX10_messageAt 29 = .ok (.aconst_null, 1) := db_X10_messageAt_29.1
theorem dX10_messageAt_30 : decode cX10_messageAt 30 = .ok (.areturn, 1) := db_X10_messageAt_29.2.1
theorem dX10_messageAt_31 : decode cX10_messageAt 31 = .ok (.aload_n 0, 1) := db_X10_messageAt_29.2.2.1
theorem dX10_messageAt_32 : decode cX10_messageAt 32 = .ok (.getfield 19, 3) := db_X10_messageAt_29.2.2.2.1
theorem dX10_messageAt_35 : decode cX10_messageAt 35 = .ok (.iload 4, 2) := db_X10_messageAt_29.2.2.2.2.1
theorem dX10_messageAt_37 : decode cX10_messageAt 37 = .ok (.bipush 61, 2) := db_X10_messageAt_29.2.2.2.2.2.1
theorem dX10_messageAt_39 : decode cX10_messageAt 39 = .ok (.imul, 1) := db_X10_messageAt_29.2.2.2.2.2.2.1
theorem dX10_messageAt_40 : decode cX10_messageAt 40 = .ok (.aload_n 0, 1) := db_X10_messageAt_29.2.2.2.2.2.2.2.1
theorem dX10_messageAt_41 : decode cX10_messageAt 41 = .ok (.getfield 23, 3) := db_X10_messageAt_29.2.2.2.2.2.2.2.2.1
theorem dX10_messageAt_44 : decode cX10_messageAt 44 = .ok (.iload 4, 2) := db_X10_messageAt_29.2.2.2.2.2.2.2.2.2.1
theorem dX10_messageAt_46 : decode cX10_messageAt 46 = .ok (.iaload, 1) := db_X10_messageAt_29.2.2.2.2.2.2.2.2.2.2.1
theorem dX10_messageAt_47 : decode cX10_messageAt 47 = .ok (.iload_n 3, 1) := db_X10_messageAt_29.2.2.2.2.2.2.2.2.2.2.2.1
theorem dX10_messageAt_48 : decode cX10_messageAt 48 = .ok (.iadd, 1) := db_X10_messageAt_29.2.2.2.2.2.2.2.2.2.2.2.2.1
theorem dX10_messageAt_49 : decode cX10_messageAt 49 = .ok (.bipush 61, 2) := db_X10_messageAt_29.2.2.2.2.2.2.2.2.2.2.2.2.2.1
theorem dX10_messageAt_51 : decode cX10_messageAt 51 = .ok (.irem, 1) := db_X10_messageAt_29.2.2.2.2.2.2.2.2.2.2.2.2.2.2.1
theorem dX10_messageAt_52 : decode cX10_messageAt 52 = .ok (.iadd, 1) := db_X10_messageAt_29.2.2.2.2.2.2.2.2.2.2.2.2.2.2.2
theorem dX10_messageAt_53 : decode cX10_messageAt 53 = .ok (.aaload, 1) := by decide +kernel
theorem dX10_messageAt_54 : decode cX10_messageAt 54 = .ok (.areturn, 1) := by decide +kernel
theorem db_X10_take_0 : decode cX10_take 0 = .ok (.aload_n 0, 1) ∧ decode cX10_take 1 = .ok (.iload_n 1, 1) ∧ decode cX10_take 2 = .ok (.iload_n 2, 1) ∧ decode cX10_take 3 = .ok (.iconst 0, 1) ∧ decode cX10_take 4 = .ok (.invokevirtual 113, 3) ∧ decode cX10_take 7 = .ok (.astore_n 3, 1) ∧ decode cX10_take 8 = .ok (.aload_n 3, 1) ∧ decode cX10_take 9 = .ok (.ifnull 41, 3) ∧ decode cX10_take 12 = .ok (.aload_n 0, 1) ∧ decode cX10_take 13 = .ok (.iload_n 1, 1) ∧ decode cX10_take 14 = .ok (.iload_n 2, 1) ∧ decode cX10_take 15 = .ok (.invokevirtual 89, 3) ∧ decode cX10_take 18 = .ok (.istore 4, 2) ∧ decode cX10_take 20 = .ok (.aload_n 0, 1) ∧ decode cX10_take 21 = .ok (.getfield 23, 3) ∧ decode cX10_take 24 = .ok (.iload 4, 2) := by decide +kernel
theorem dX10_take_0 : decode cX10_take 0 = .ok (.aload_n 0, 1) := db_X10_take_0.1
theorem dX10_take_1 : decode cX10_take 1 = .ok (.iload_n 1, 1) := db_X10_take_0.2.1
theorem dX10_take_2 : decode cX10_take 2 = .ok (.iload_n 2, 1) := db_X10_take_0.2.2.1
theorem dX10_take_3 : decode cX10_take 3 = .ok (.iconst 0, 1) := db_X10_take_0.2.2.2.1
theorem dX10_take_4 : decode cX10_take 4 = .ok (.invokevirtual 113, 3) := db_X10_take_0.2.2.2.2.1
theorem dX10_take_7 : decode cX10_take 7 = .ok (.astore_n 3, 1) := db_X10_take_0.2.2.2.2.2.1
theorem dX10_take_8 : decode cX10_take 8 = .ok (.aload_n 3, 1) := db_X10_take_0.2.2.2.2.2.2.1
theorem dX10_take_9 : decode cX10_take 9 = .ok (.ifnull 41, 3) := db_X10_take_0.2.2.2.2.2.2.2.1
theorem dX10_take_12 : decode cX10_take 12 = .ok (.aload_n 0, 1) := db_X10_take_0.2.2.2.2.2.2.2.2.1
theorem dX10_take_13 : decode cX10_take 13 = .ok (.iload_n 1, 1) := db_X10_take_0.2.2.2.2.2.2.2.2.2.1
theorem dX10_take_14 : decode cX10_take 14 = .ok (.iload_n 2, 1) := db_X10_take_0.2.2.2.2.2.2.2.2.2.2.1
theorem dX10_take_15 : decode cX10_take 15 = .ok (.invokevirtual 89, 3) := db_X10_take_0.2.2.2.2.2.2.2.2.2.2.2.1
theorem dX10_take_18 : decode cX10_take 18 = .ok (.istore 4, 2) := db_X10_take_0.2.2.2.2.2.2.2.2.2.2.2.2.1
theorem dX10_take_20 : decode cX10_take 20 = .ok (.aload_n 0, 1) := db_X10_take_0.2.2.2.2.2.2.2.2.2.2.2.2.2.1
theorem dX10_take_21 : decode cX10_take 21 = .ok (.getfield 23, 3) := db_X10_take_0.2.2.2.2.2.2.2.2.2.2.2.2.2.2.1
theorem dX10_take_24 : decode cX10_take 24 = .ok (.iload 4, 2) := db_X10_take_0.2.2.2.2.2.2.2.2.2.2.2.2.2.2.2
theorem db_X10_take_26 : decode cX10_take 26 = .ok (.aload_n 0, 1) ∧ decode cX10_take 27 = .ok (.getfield 23, 3) ∧ decode cX10_take 30 = .ok (.iload 4, 2) ∧ decode cX10_take 32 = .ok (.iaload, 1) ∧ decode cX10_take 33 = .ok (.iconst 1, 1) ∧ decode cX10_take 34 = .ok (.iadd, 1) ∧ decode cX10_take 35 = .ok (.bipush 61, 2) ∧ decode cX10_take 37 = .ok (.irem, 1) ∧ decode cX10_take 38 = .ok (.iastore, 1) ∧ decode cX10_take 39 = .ok (.aload_n 0, 1) ∧ decode cX10_take 40 = .ok (.getfield 27, 3) ∧ decode cX10_take 43 = .ok (.iload 4, 2) ∧ decode cX10_take 45 = .ok (.dup2, 1) ∧ decode cX10_take 46 = .ok (.iaload, 1) ∧ decode cX10_take 47 = .ok (.iconst 1, 1) ∧ decode cX10_take 48 = .ok (.isub, 1) := by decide +kernel
theorem dX10_take_26 : decode cX10_take 26 = .ok (.aload_n 0, 1) := db_X10_take_26.1
theorem dX10_take_27 : decode cX10_take 27 = .ok (.getfield 23, 3) := db_X10_take_26.2.1
theorem dX10_take_30 : decode cX10_take 30 = .ok (.iload 4, 2) := db_X10_take_26.2.2.1
theorem dX10_take_32 : decode cX10_take 32 = .ok (.iaload, 1) := db_X10_take_26.2.2.2.1
theorem dX10_take_33 : decode cX10_take 33 = .ok (.iconst 1, 1) := db_X10_take_26.2.2.2.2.1
theorem dX10_take_34 : decode cX10_take 34 = .ok (.iadd, 1) := db_X10_take_26.2.2.2.2.2.1
theorem dX10_take_35 : decode cX10_take 35 = .ok (.bipush 61, 2) := db_X10_take_26.2.2.2.2.2.2.1
theorem dX10_take_37 : decode cX10_take 37 = .ok (.irem, 1) := db_X10_take_26.2.2.2.2.2.2.2.1
theorem dX10_take_38 : decode cX10_take 38 = .ok (.iastore, 1) := db_X10_take_26.2.2.2.2.2.2.2.2.1
theorem dX10_take_39 : decode cX10_take 39 = .ok (.aload_n 0, 1) := db_X10_take_26.2.2.2.2.2.2.2.2.2.1
theorem dX10_take_40 : decode cX10_take 40 = .ok (.getfield 27, 3) := db_X10_take_26.2.2.2.2.2.2.2.2.2.2.1
theorem dX10_take_43 : decode cX10_take 43 = .ok (.iload 4, 2) := db_X10_take_26.2.2.2.2.2.2.2.2.2.2.2.1
theorem dX10_take_45 : decode cX10_take 45 = .ok (.dup2, 1) := db_X10_take_26.2.2.2.2.2.2.2.2.2.2.2.2.1
theorem dX10_take_46 : decode cX10_take 46 = .ok (.iaload, 1) := db_X10_take_26.2.2.2.2.2.2.2.2.2.2.2.2.2.1
theorem dX10_take_47 : decode cX10_take 47 = .ok (.iconst 1, 1) := db_X10_take_26.2.2.2.2.2.2.2.2.2.2.2.2.2.2.1
theorem dX10_take_48 : decode cX10_take 48 = .ok (.isub, 1) := db_X10_take_26.2.2.2.2.2.2.2.2.2.2.2.2.2.2.2
theorem db_X10_take_49 : decode cX10_take 49 = .ok (.iastore, 1) ∧ decode cX10_take 50 = .ok (.aload_n 3, 1) ∧ decode cX10_take 51 = .ok (.areturn, 1) := by decide +kernel
theorem dX10_take_49 : decode cX10_take 49 = .ok (.iastore, 1) := db_X10_take_49.1
theorem dX10_take_50 : decode cX10_take 50 = .ok (.aload_n 3, 1) := db_X10_take_49.2.1
theorem dX10_take_51 : decode cX10_take 51 = .ok (.areturn, 1) := db_X10_take_49.2.2
theorem db_X10_onLinks_0 : decode cX10_onLinks 0 = .ok (.iconst 0, 1) ∧ decode cX10_onLinks 1 = .ok (.istore_n 1, 1) ∧ decode cX10_onLinks 2 = .ok (.iconst 0, 1) ∧ decode cX10_onLinks 3 = .ok (.istore_n 2, 1) ∧ decode cX10_onLinks 4 = .ok (.iload_n 2, 1) ∧ decode cX10_onLinks 5 = .ok (.aload_n 0, 1) ∧ decode cX10_onLinks 6 = .ok (.getfield 27, 3) ∧ decode cX10_onLinks 9 = .ok (.arraylength, 1) ∧ decode cX10_onLinks 10 = .ok (.if_icmp .ge 18, 3) ∧ decode cX10_onLinks 13 = .ok (.iload_n 1, 1) ∧ decode cX10_onLinks 14 = .ok (.aload_n 0, 1) ∧ decode cX10_onLinks 15 = .ok (.getfield 27, 3) ∧ decode cX10_onLinks 18 = .ok (.iload_n 2, 1) ∧ decode cX10_onLinks 19 = .ok (.iaload, 1) ∧ decode cX10_onLinks 20 = .ok (.iadd, 1) ∧ decode cX10_onLinks 21 = .ok (.istore_n 1, 1) := by decide +kernel
theorem dX10_onLinks_0 : decode cX10_onLinks 0 = .ok (.iconst 0, 1) := db_X10_onLinks_0.1
theorem dX10_onLinks_1 : decode cX10_onLinks 1 = .ok (.istore_n 1, 1) := db_X10_onLinks_0.2.1
theorem dX10_onLinks_2 : decode cX10_onLinks 2 = .ok (.iconst 0, 1) := db_X10_onLinks_0.2.2.1
theorem dX10_onLinks_3 : decode cX10_onLinks 3 = .ok (.istore_n 2, 1) := db_X10_onLinks_0.2.2.2.1
theorem dX10_onLinks_4 : decode cX10_onLinks 4 = .ok (.iload_n 2, 1) := db_X10_onLinks_0.2.2.2.2.1
theorem dX10_onLinks_5 : decode cX10_onLinks 5 = .ok (.aload_n 0, 1) := db_X10_onLinks_0.2.2.2.2.2.1
theorem dX10_onLinks_6 : decode cX10_onLinks 6 = .ok (.getfield 27, 3) := db_X10_onLinks_0.2.2.2.2.2.2.1
theorem dX10_onLinks_9 : decode cX10_onLinks 9 = .ok (.arraylength, 1) := db_X10_onLinks_0.2.2.2.2.2.2.2.1
theorem dX10_onLinks_10 : decode cX10_onLinks 10 = .ok (.if_icmp .ge 18, 3) := db_X10_onLinks_0.2.2.2.2.2.2.2.2.1
theorem dX10_onLinks_13 : decode cX10_onLinks 13 = .ok (.iload_n 1, 1) := db_X10_onLinks_0.2.2.2.2.2.2.2.2.2.1
theorem dX10_onLinks_14 : decode cX10_onLinks 14 = .ok (.aload_n 0, 1) := db_X10_onLinks_0.2.2.2.2.2.2.2.2.2.2.1
theorem dX10_onLinks_15 : decode cX10_onLinks 15 = .ok (.getfield 27, 3) := db_X10_onLinks_0.2.2.2.2.2.2.2.2.2.2.2.1
theorem dX10_onLinks_18 : decode cX10_onLinks 18 = .ok (.iload_n 2, 1) := db_X10_onLinks_0.2.2.2.2.2.2.2.2.2.2.2.2.1
theorem dX10_onLinks_19 : decode cX10_onLinks 19 = .ok (.iaload, 1) := db_X10_onLinks_0.2.2.2.2.2.2.2.2.2.2.2.2.2.1
theorem dX10_onLinks_20 : decode cX10_onLinks 20 = .ok (.iadd, 1) := db_X10_onLinks_0.2.2.2.2.2.2.2.2.2.2.2.2.2.2.1
theorem dX10_onLinks_21 : decode cX10_onLinks 21 = .ok (.istore_n 1, 1) := db_X10_onLinks_0.2.2.2.2.2.2.2.2.2.2.2.2.2.2.2
theorem db_X10_onLinks_22 : decode cX10_onLinks 22 = .ok (.iinc 2 1, 3) ∧ decode cX10_onLinks 25 = .ok (.goto (-21), 3) ∧ decode cX10_onLinks 28 = .ok (.iload_n 1, 1) ∧ decode cX10_onLinks 29 = .ok (.ireturn, 1) := by decide +kernel
theorem dX10_onLinks_22 : decode cX10_onLinks 22 = .ok (.iinc 2 1, 3) := db_X10_onLinks_22.1
theorem dX10_onLinks_25 : decode cX10_onLinks 25 = .ok (.goto (-21), 3) := db_X10_onLinks_22.2.1
theorem dX10_onLinks_28 : decode cX10_onLinks 28 = .ok (.iload_n 1, 1) := db_X10_onLinks_22.2.2.1
theorem dX10_onLinks_29 : decode cX10_onLinks 29 = .ok (.ireturn, 1) := db_X10_onLinks_22.2.2.2
theorem db_X10_skipClosed_0 : decode cX10_skipClosed 0 = .ok (.aload_n 0, 1) ∧ decode cX10_skipClosed 1 = .ok (.getfield 61, 3) ∧ decode cX10_skipClosed 4 = .ok (.aload_n 0, 1) ∧ decode cX10_skipClosed 5 = .ok (.getfield 58, 3) ∧ decode cX10_skipClosed 8 = .ok (.if_icmp .ge 30, 3) ∧ decode cX10_skipClosed 38 = .ok (.return_, 1) := by decide +kernel
theorem dX10_skipClosed_0 : decode cX10_skipClosed 0 = .ok (.aload_n 0, 1) := db_X10_skipClosed_0.1
theorem dX10_skipClosed_1 : decode cX10_skipClosed 1 = .ok (.getfield 61, 3) := db_X10_skipClosed_0.2.1
theorem dX10_skipClosed_4 : decode cX10_skipClosed 4 = .ok (.aload_n 0, 1) := db_X10_skipClosed_0.2.2.1
theorem dX10_skipClosed_5 : decode cX10_skipClosed 5 = .ok (.getfield 58, 3) := db_X10_skipClosed_0.2.2.2.1
theorem dX10_skipClosed_8 : decode cX10_skipClosed 8 = .ok (.if_icmp .ge 30, 3) := db_X10_skipClosed_0.2.2.2.2.1
theorem dX10_skipClosed_38 : decode cX10_skipClosed 38 = .ok (.return_, 1) := db_X10_skipClosed_0.2.2.2.2.2
theorem db_X10_ageRequests_0 : decode cX10_ageRequests 0 = .ok (.aload_n 0, 1) ∧ decode cX10_ageRequests 1 = .ok (.getfield 61, 3) ∧ decode cX10_ageRequests 4 = .ok (.istore_n 2, 1) ∧ decode cX10_ageRequests 5 = .ok (.iload_n 2, 1) ∧ decode cX10_ageRequests 6 = .ok (.aload_n 0, 1) ∧ decode cX10_ageRequests 7 = .ok (.getfield 58, 3) ∧ decode cX10_ageRequests 10 = .ok (.if_icmp .ge 39, 3) ∧ decode cX10_ageRequests 49 = .ok (.return_, 1) := by decide +kernel
theorem dX10_ageRequests_0 : decode cX10_ageRequests 0 = .ok (.aload_n 0, 1) := db_X10_ageRequests_0.1
theorem dX10_ageRequests_1 : decode cX10_ageRequests 1 = .ok (.getfield 61, 3) := db_X10_ageRequests_0.2.1
theorem dX10_ageRequests_4 : decode cX10_ageRequests 4 = .ok (.istore_n 2, 1) := db_X10_ageRequests_0.2.2.1
theorem dX10_ageRequests_5 : decode cX10_ageRequests 5 = .ok (.iload_n 2, 1) := db_X10_ageRequests_0.2.2.2.1
theorem dX10_ageRequests_6 : decode cX10_ageRequests 6 = .ok (.aload_n 0, 1) := db_X10_ageRequests_0.2.2.2.2.1
theorem dX10_ageRequests_7 : decode cX10_ageRequests 7 = .ok (.getfield 58, 3) := db_X10_ageRequests_0.2.2.2.2.2.1
theorem dX10_ageRequests_10 : decode cX10_ageRequests 10 = .ok (.if_icmp .ge 39, 3) := db_X10_ageRequests_0.2.2.2.2.2.2.1
theorem dX10_ageRequests_49 : decode cX10_ageRequests 49 = .ok (.return_, 1) := db_X10_ageRequests_0.2.2.2.2.2.2.2
