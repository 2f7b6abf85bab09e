theorem db_L_act_0 : decode cL_act 0 = .ok (.aload 4, 2) ∧ decode cL_act 2 = .ok (.iconst 0, 1) ∧ decode cL_act 3 = .ok (.aload_n 0, 1) ∧ decode cL_act 4 = .ok (.iload_n 1, 1) ∧ decode cL_act 5 = .ok (.iload_n 2, 1) ∧ decode cL_act 6 = .ok (.iload_n 3, 1) ∧ decode cL_act 7 = .ok (.invokevirtual 85, 3) ∧ decode cL_act 10 = .ok (.i2l, 1) ∧ decode cL_act 11 = .ok (.lastore, 1) ∧ decode cL_act 12 = .ok (.goto 7, 3) ∧ decode cL_act 15 = .ok (.astore 5, 2) ∧ decode cL_act 17 = .ok (.iconst 1, 1) ∧ decode cL_act 18 = .ok (.ireturn, 1) ∧ decode cL_act 19 = .ok (.iconst 0, 1) ∧ decode cL_act 20 = .ok (.ireturn, 1) := by decide +kernel
theorem dL_act_0 : decode cL_act 0 = .ok (.aload 4, 2) := db_L_act_0.1
theorem dL_act_2 : decode cL_act 2 = .ok (.iconst 0, 1) := db_L_act_0.2.1
theorem dL_act_3 : decode cL_act 3 = .ok (.aload_n 0, 1) := db_L_act_0.2.2.1
theorem dL_act_4 : decode cL_act 4 = .ok (.iload_n 1, 1) := db_L_act_0.2.2.2.1
theorem dL_act_5 : decode cL_act 5 = .ok (.iload_n 2, 1) := db_L_act_0.2.2.2.2.1
theorem dL_act_6 : decode cL_act 6 = .ok (.iload_n 3, 1) := db_L_act_0.2.2.2.2.2.1
theorem dL_act_7 : decode cL_act 7 = .ok (.invokevirtual 85, 3) := db_L_act_0.2.2.2.2.2.2.1
theorem dL_act_10 : decode cL_act 10 = .ok (.i2l, 1) := db_L_act_0.2.2.2.2.2.2.2.1
theorem dL_act_11 : decode cL_act 11 = .ok (.lastore, 1) := db_L_act_0.2.2.2.2.2.2.2.2.1
theorem dL_act_12 : decode cL_act 12 = .ok (.goto 7, 3) := db_L_act_0.2.2.2.2.2.2.2.2.2.1
theorem dL_act_15 : decode cL_act 15 = .ok (.astore 5, 2) := db_L_act_0.2.2.2.2.2.2.2.2.2.2.1
theorem dL_act_17 : decode cL_act 17 = .ok (.iconst 1, 1) := db_L_act_0.2.2.2.2.2.2.2.2.2.2.2.1
theorem dL_act_18 : decode cL_act 18 = .ok (.ireturn, 1) := db_L_act_0.2.2.2.2.2.2.2.2.2.2.2.2.1
theorem dL_act_19 : decode cL_act 19 = .ok (.iconst 0, 1) := db_L_act_0.2.2.2.2.2.2.2.2.2.2.2.2.2.1
theorem dL_act_20 : decode cL_act 20 = .ok (.ireturn, 1) := db_L_act_0.2.2.2.2.2.2.2.2.2.2.2.2.2.2
theorem db_L_disk_0 : decode cL_disk 0 = .ok (.aload 5, 2) ∧ decode cL_disk 2 = .ok (.iconst 0, 1) ∧ decode cL_disk 3 = .ok (.aload_n 0, 1) ∧ decode cL_disk 4 = .ok (.iload_n 1, 1) ∧ decode cL_disk 5 = .ok (.iload_n 2, 1) ∧ decode cL_disk 6 = .ok (.iload_n 3, 1) ∧ decode cL_disk 7 = .ok (.iload 4, 2) ∧ decode cL_disk 9 = .ok (.invokevirtual 88, 3) ∧ decode cL_disk 12 = .ok (.i2l, 1) ∧ decode cL_disk 13 = .ok (.lastore, 1) ∧ decode cL_disk 14 = .ok (.goto 7, 3) ∧ decode cL_disk 17 = .ok (.astore 6, 2) ∧ decode cL_disk 19 = .ok (.iconst 1, 1) ∧ decode cL_disk 20 = .ok (.ireturn, 1) ∧ decode cL_disk 21 = .ok (.iconst 0, 1) ∧ decode cL_disk 22 = .ok (.ireturn, 1) := by decide +kernel
theorem dL_disk_0 : decode cL_disk 0 = .ok (.aload 5, 2) := db_L_disk_0.1
theorem dL_disk_2 : decode cL_disk 2 = .ok (.iconst 0, 1) := db_L_disk_0.2.1
theorem dL_disk_3 : decode cL_disk 3 = .ok (.aload_n 0, 1) := db_L_disk_0.2.2.1
theorem dL_disk_4 : decode cL_disk 4 = .ok (.iload_n 1, 1) := db_L_disk_0.2.2.2.1
theorem dL_disk_5 : decode cL_disk 5 = .ok (.iload_n 2, 1) := db_L_disk_0.2.2.2.2.1
theorem dL_disk_6 : decode cL_disk 6 = .ok (.iload_n 3, 1) := db_L_disk_0.2.2.2.2.2.1
theorem dL_disk_7 : decode cL_disk 7 = .ok (.iload 4, 2) := db_L_disk_0.2.2.2.2.2.2.1
theorem dL_disk_9 : decode cL_disk 9 = .ok (.invokevirtual 88, 3) := db_L_disk_0.2.2.2.2.2.2.2.1
theorem dL_disk_12 : decode cL_disk 12 = .ok (.i2l, 1) := db_L_disk_0.2.2.2.2.2.2.2.2.1
theorem dL_disk_13 : decode cL_disk 13 = .ok (.lastore, 1) := db_L_disk_0.2.2.2.2.2.2.2.2.2.1
theorem dL_disk_14 : decode cL_disk 14 = .ok (.goto 7, 3) := db_L_disk_0.2.2.2.2.2.2.2.2.2.2.1
theorem dL_disk_17 : decode cL_disk 17 = .ok (.astore 6, 2) := db_L_disk_0.2.2.2.2.2.2.2.2.2.2.2.1
theorem dL_disk_19 : decode cL_disk 19 = .ok (.iconst 1, 1) := db_L_disk_0.2.2.2.2.2.2.2.2.2.2.2.2.1
theorem dL_disk_20 : decode cL_disk 20 = .ok (.ireturn, 1) := db_L_disk_0.2.2.2.2.2.2.2.2.2.2.2.2.2.1
theorem dL_disk_21 : decode cL_disk 21 = .ok (.iconst 0, 1) := db_L_disk_0.2.2.2.2.2.2.2.2.2.2.2.2.2.2.1
theorem dL_disk_22 : decode cL_disk 22 = .ok (.ireturn, 1) := db_L_disk_0.2.2.2.2.2.2.2.2.2.2.2.2.2.2.2
theorem db_L_segment_0 : decode cL_segment 0 = .ok (.aload 5, 2) ∧ decode cL_segment 2 = .ok (.iconst 0, 1) ∧ decode cL_segment 3 = .ok (.aload_n 0, 1) ∧ decode cL_segment 4 = .ok (.iload_n 1, 1) ∧ decode cL_segment 5 = .ok (.iload_n 2, 1) ∧ decode cL_segment 6 = .ok (.iload_n 3, 1) ∧ decode cL_segment 7 = .ok (.iload 4, 2) ∧ decode cL_segment 9 = .ok (.invokevirtual 91, 3) ∧ decode cL_segment 17 = .ok (.astore 6, 2) ∧ decode cL_segment 19 = .ok (.iconst 1, 1) ∧ decode cL_segment 20 = .ok (.ireturn, 1) := by decide +kernel
theorem dL_segment_0 : decode cL_segment 0 = .ok (.aload 5, 2) := db_L_segment_0.1
theorem dL_segment_2 : decode cL_segment 2 = .ok (.iconst 0, 1) := db_L_segment_0.2.1
theorem dL_segment_3 : decode cL_segment 3 = .ok (.aload_n 0, 1) := db_L_segment_0.2.2.1
theorem dL_segment_4 : decode cL_segment 4 = .ok (.iload_n 1, 1) := db_L_segment_0.2.2.2.1
theorem dL_segment_5 : decode cL_segment 5 = .ok (.iload_n 2, 1) := db_L_segment_0.2.2.2.2.1
theorem dL_segment_6 : decode cL_segment 6 = .ok (.iload_n 3, 1) := db_L_segment_0.2.2.2.2.2.1
theorem dL_segment_7 : decode cL_segment 7 = .ok (.iload 4, 2) := db_L_segment_0.2.2.2.2.2.2.1
theorem dL_segment_9 : decode cL_segment 9 = .ok (.invokevirtual 91, 3) := db_L_segment_0.2.2.2.2.2.2.2.1
theorem dL_segment_17 : decode cL_segment 17 = .ok (.astore 6, 2) := db_L_segment_0.2.2.2.2.2.2.2.2.1
theorem dL_segment_19 : decode cL_segment 19 = .ok (.iconst 1, 1) := db_L_segment_0.2.2.2.2.2.2.2.2.2.1
theorem dL_segment_20 : decode cL_segment 20 = .ok (.ireturn, 1) := db_L_segment_0.2.2.2.2.2.2.2.2.2.2
theorem db_L_octet_0 : decode cL_octet 0 = .ok (.aload 5, 2) ∧ decode cL_octet 2 = .ok (.iconst 0, 1) ∧ decode cL_octet 3 = .ok (.aload_n 0, 1) ∧ decode cL_octet 4 = .ok (.iload_n 1, 1) ∧ decode cL_octet 5 = .ok (.iload_n 2, 1) ∧ decode cL_octet 6 = .ok (.iload_n 3, 1) ∧ decode cL_octet 7 = .ok (.iload 4, 2) ∧ decode cL_octet 9 = .ok (.invokevirtual 94, 3) ∧ decode cL_octet 17 = .ok (.astore 6, 2) ∧ decode cL_octet 19 = .ok (.iconst 1, 1) ∧ decode cL_octet 20 = .ok (.ireturn, 1) := by decide +kernel
theorem dL_octet_0 : decode cL_octet 0 = .ok (.aload 5, 2) := db_L_octet_0.1
theorem dL_octet_2 : decode cL_octet 2 = .ok (.iconst 0, 1) := db_L_octet_0.2.1
theorem dL_octet_3 : decode cL_octet 3 = .ok (.aload_n 0, 1) := db_L_octet_0.2.2.1
theorem dL_octet_4 : decode cL_octet 4 = .ok (.iload_n 1, 1) := db_L_octet_0.2.2.2.1
theorem dL_octet_5 : decode cL_octet 5 = .ok (.iload_n 2, 1) := db_L_octet_0.2.2.2.2.1
theorem dL_octet_6 : decode cL_octet 6 = .ok (.iload_n 3, 1) := db_L_octet_0.2.2.2.2.2.1
theorem dL_octet_7 : decode cL_octet 7 = .ok (.iload 4, 2) := db_L_octet_0.2.2.2.2.2.2.1
theorem dL_octet_9 : decode cL_octet 9 = .ok (.invokevirtual 94, 3) := db_L_octet_0.2.2.2.2.2.2.2.1
theorem dL_octet_17 : decode cL_octet 17 = .ok (.astore 6, 2) := db_L_octet_0.2.2.2.2.2.2.2.2.1
theorem dL_octet_19 : decode cL_octet 19 = .ok (.iconst 1, 1) := db_L_octet_0.2.2.2.2.2.2.2.2.2.1
theorem dL_octet_20 : decode cL_octet 20 = .ok (.ireturn, 1) := db_L_octet_0.2.2.2.2.2.2.2.2.2.2
theorem db_L_told_0 : decode cL_told 0 = .ok (.aload_n 2, 1) ∧ decode cL_told 1 = .ok (.iconst 0, 1) ∧ decode cL_told 2 = .ok (.aload_n 0, 1) ∧ decode cL_told 3 = .ok (.iload_n 1, 1) ∧ decode cL_told 4 = .ok (.invokevirtual 97, 3) ∧ decode cL_told 7 = .ok (.i2l, 1) ∧ decode cL_told 8 = .ok (.lastore, 1) ∧ decode cL_told 9 = .ok (.goto 6, 3) ∧ decode cL_told 12 = .ok (.astore_n 3, 1) ∧ decode cL_told 13 = .ok (.iconst 1, 1) ∧ decode cL_told 14 = .ok (.ireturn, 1) ∧ decode cL_told 15 = .ok (.iconst 0, 1) ∧ decode cL_told 16 = .ok (.ireturn, 1) := by decide +kernel
theorem dL_told_0 : decode cL_told 0 = .ok (.aload_n 2, 1) := db_L_told_0.1
theorem dL_told_1 : decode cL_told 1 = .ok (.iconst 0, 1) := db_L_told_0.2.1
theorem dL_told_2 : decode cL_told 2 = .ok (.aload_n 0, 1) := db_L_told_0.2.2.1
theorem dL_told_3 : decode cL_told 3 = .ok (.iload_n 1, 1) := db_L_told_0.2.2.2.1
theorem dL_told_4 : decode cL_told 4 = .ok (.invokevirtual 97, 3) := db_L_told_0.2.2.2.2.1
theorem dL_told_7 : decode cL_told 7 = .ok (.i2l, 1) := db_L_told_0.2.2.2.2.2.1
theorem dL_told_8 : decode cL_told 8 = .ok (.lastore, 1) := db_L_told_0.2.2.2.2.2.2.1
theorem dL_told_9 : decode cL_told 9 = .ok (.goto 6, 3) := db_L_told_0.2.2.2.2.2.2.2.1
theorem dL_told_12 : decode cL_told 12 = .ok (.astore_n 3, 1) := db_L_told_0.2.2.2.2.2.2.2.2.1
theorem dL_told_13 : decode cL_told 13 = .ok (.iconst 1, 1) := db_L_told_0.2.2.2.2.2.2.2.2.2.1
theorem dL_told_14 : decode cL_told 14 = .ok (.ireturn, 1) := db_L_told_0.2.2.2.2.2.2.2.2.2.2.1
theorem dL_told_15 : decode cL_told 15 = .ok (.iconst 0, 1) := db_L_told_0.2.2.2.2.2.2.2.2.2.2.2.1
theorem dL_told_16 : decode cL_told 16 = .ok (.ireturn, 1) := db_L_told_0.2.2.2.2.2.2.2.2.2.2.2.2
theorem db_L_law_0 : decode cL_law 0 = .ok (.new 8, 3) ∧ decode cL_law 3 = .ok (.dup, 1) ∧ decode cL_law 4 = .ok (.invokespecial 100, 3) ∧ decode cL_law 7 = .ok (.astore_n 1, 1) ∧ decode cL_law 8 = .ok (.new 101, 3) ∧ decode cL_law 11 = .ok (.dup, 1) ∧ decode cL_law 12 = .ok (.invokespecial 103, 3) ∧ decode cL_law 15 = .ok (.astore_n 2, 1) ∧ decode cL_law 16 = .ok (.iconst 1, 1) ∧ decode cL_law 17 = .ok (.newarray .long, 2) ∧ decode cL_law 19 = .ok (.astore_n 3, 1) ∧ decode cL_law 20 = .ok (.iconst 0, 1) ∧ decode cL_law 21 = .ok (.istore 4, 2) ∧ decode cL_law 23 = .ok (.iload 4, 2) ∧ decode cL_law 25 = .ok (.aload_n 0, 1) ∧ decode cL_law 26 = .ok (.arraylength, 1) := by decide +kernel
theorem dL_law_0 : decode cL_law 0 = .ok (.new 8, 3) := db_L_law_0.1
theorem dL_law_3 : decode cL_law 3 = .ok (.dup, 1) := db_L_law_0.2.1
theorem dL_law_4 : decode cL_law 4 = .ok (.invokespecial 100, 3) := db_L_law_0.2.2.1
theorem dL_law_7 : decode cL_law 7 = .ok (.astore_n 1, 1) := db_L_law_0.2.2.2.1
theorem dL_law_8 : decode cL_law 8 = .ok (.new 101, 3) := db_L_law_0.2.2.2.2.1
theorem dL_law_11 : decode cL_law 11 = .ok (.dup, 1) := db_L_law_0.2.2.2.2.2.1
theorem dL_law_12 : decode cL_law 12 = .ok (.invokespecial 103, 3) := db_L_law_0.2.2.2.2.2.2.1
theorem dL_law_15 : decode cL_law 15 = .ok (.astore_n 2, 1) := db_L_law_0.2.2.2.2.2.2.2.1
theorem dL_law_16 : decode cL_law 16 = .ok (.iconst 1, 1) := db_L_law_0.2.2.2.2.2.2.2.2.1
theorem dL_law_17 : decode cL_law 17 = .ok (.newarray .long, 2) := db_L_law_0.2.2.2.2.2.2.2.2.2.1
theorem dL_law_19 : decode cL_law 19 = .ok (.astore_n 3, 1) := db_L_law_0.2.2.2.2.2.2.2.2.2.2.1
theorem dL_law_20 : decode cL_law 20 = .ok (.iconst 0, 1) := db_L_law_0.2.2.2.2.2.2.2.2.2.2.2.1
theorem dL_law_21 : decode cL_law 21 = .ok (.istore 4, 2) := db_L_law_0.2.2.2.2.2.2.2.2.2.2.2.2.1
theorem dL_law_23 : decode cL_law 23 = .ok (.iload 4, 2) := db_L_law_0.2.2.2.2.2.2.2.2.2.2.2.2.2.1
theorem dL_law_25 : decode cL_law 25 = .ok (.aload_n 0, 1) := db_L_law_0.2.2.2.2.2.2.2.2.2.2.2.2.2.2.1
theorem dL_law_26 : decode cL_law 26 = .ok (.arraylength, 1) := db_L_law_0.2.2.2.2.2.2.2.2.2.2.2.2.2.2.2
theorem db_L_law_27 : decode cL_law 27 = .ok (.iconst 5, 1) ∧ decode cL_law 28 = .ok (.isub, 1) ∧ decode cL_law 29 = .ok (.if_icmp .gt 2088, 3) ∧ decode cL_law 32 = .ok (.aload_n 0, 1) ∧ decode cL_law 33 = .ok (.iload 4, 2) ∧ decode cL_law 35 = .ok (.iaload, 1) ∧ decode cL_law 36 = .ok (.bipush 31, 2) ∧ decode cL_law 38 = .ok (.iand, 1) ∧ decode cL_law 39 = .ok (.tableswitch 2072 0 26 #[121, 201, 301, 369, 437, 505, 573, 641, 721, 789, 881, 949, 1017, 1030, 1086, 1149, 1205, 1268, 1328, 1408, 1500, 1580, 1660, 1740, 1832, 1924, 2016], 121) ∧ decode cL_law 160 = .ok (.aload_n 1, 1) ∧ decode cL_law 161 = .ok (.aload_n 0, 1) ∧ decode cL_law 162 = .ok (.iload 4, 2) ∧ decode cL_law 164 = .ok (.iconst 1, 1) ∧ decode cL_law 165 = .ok (.iadd, 1) ∧ decode cL_law 166 = .ok (.iaload, 1) ∧ decode cL_law 167 = .ok (.aload_n 0, 1) := by decide +kernel
theorem dL_law_27 : decode cL_law 27 = .ok (.iconst 5, 1) := db_L_law_27.1
theorem dL_law_28 : decode cL_law 28 = .ok (.isub, 1) := db_L_law_27.2.1
theorem dL_law_29 : decode cL_law 29 = .ok (.if_icmp .gt 2088, 3) := db_L_law_27.2.2.1
theorem dL_law_32 : decode cL_law 32 = .ok (.aload_n 0, 1) := db_L_law_27.2.2.2.1
theorem dL_law_33 : decode cL_law 33 = .ok (.iload 4, 2) := db_L_law_27.2.2.2.2.1
theorem dL_law_35 : decode cL_law 35 = .ok (.iaload, 1) := db_L_law_27.2.2.2.2.2.1
theorem dL_law_36 : decode cL_law 36 = .ok (.bipush 31, 2) := db_L_law_27.2.2.2.2.2.2.1
theorem dL_law_38 : decode cL_law 38 = .ok (.iand, 1) := db_L_law_27.2.2.2.2.2.2.2.1
theorem dL_law_39 : decode cL_law 39 = .ok (.tableswitch 2072 0 26 #[121, 201, 301, 369, 437, 505, 573, 641, 721, 789, 881, 949, 1017, 1030, 1086, 1149, 1205, 1268, 1328, 1408, 1500, 1580, 1660, 1740, 1832, 1924, 2016], 121) := db_L_law_27.2.2.2.2.2.2.2.2.1
theorem dL_law_160 : decode cL_law 160 = .ok (.aload_n 1, 1) := db_L_law_27.2.2.2.2.2.2.2.2.2.1
theorem dL_law_161 : decode cL_law 161 = .ok (.aload_n 0, 1) := db_L_law_27.2.2.2.2.2.2.2.2.2.2.1
theorem dL_law_162 : decode cL_law 162 = .ok (.iload 4, 2) := db_L_law_27.2.2.2.2.2.2.2.2.2.2.2.1
theorem dL_law_164 : decode cL_law 164 = .ok (.iconst 1, 1) := db_L_law_27.2.2.2.2.2.2.2.2.2.2.2.2.1
theorem dL_law_165 : decode cL_law 165 = .ok (.iadd, 1) := db_L_law_27.2.2.2.2.2.2.2.2.2.2.2.2.2.1
theorem dL_law_166 : decode cL_law 166 = .ok (.iaload, 1) := db_L_law_27.2.2.2.2.2.2.2.2.2.2.2.2.2.2.1
theorem dL_law_167 : decode cL_law 167 = .ok (.aload_n 0, 1) := db_L_law_27.2.2.2.2.2.2.2.2.2.2.2.2.2.2.2
theorem db_L_law_168 : decode cL_law 168 = .ok (.iload 4, 2) ∧ decode cL_law 170 = .ok (.iconst 2, 1) ∧ decode cL_law 171 = .ok (.iadd, 1) ∧ decode cL_law 172 = .ok (.iaload, 1) ∧ decode cL_law 173 = .ok (.aload_n 0, 1) ∧ decode cL_law 174 = .ok (.iload 4, 2) ∧ decode cL_law 176 = .ok (.iconst 3, 1) ∧ decode cL_law 177 = .ok (.iadd, 1) ∧ decode cL_law 178 = .ok (.iaload, 1) ∧ decode cL_law 179 = .ok (.aload_n 3, 1) ∧ decode cL_law 180 = .ok (.invokestatic 104, 3) ∧ decode cL_law 183 = .ok (.istore 5, 2) ∧ decode cL_law 185 = .ok (.aload_n 2, 1) ∧ decode cL_law 186 = .ok (.aload_n 0, 1) ∧ decode cL_law 187 = .ok (.iload 4, 2) ∧ decode cL_law 189 = .ok (.iconst 1, 1) := by decide +kernel
theorem dL_law_168 : decode cL_law 168 = .ok (.iload 4, 2) := db_L_law_168.1
theorem dL_law_170 : decode cL_law 170 = .ok (.iconst 2, 1) := db_L_law_168.2.1
theorem dL_law_171 : decode cL_law 171 = .ok (.iadd, 1) := db_L_law_168.2.2.1
theorem dL_law_172 : decode cL_law 172 = .ok (.iaload, 1) := db_L_law_168.2.2.2.1
theorem dL_law_173 : decode cL_law 173 = .ok (.aload_n 0, 1) := db_L_law_168.2.2.2.2.1
theorem dL_law_174 : decode cL_law 174 = .ok (.iload 4, 2) := db_L_law_168.2.2.2.2.2.1
theorem dL_law_176 : decode cL_law 176 = .ok (.iconst 3, 1) := db_L_law_168.2.2.2.2.2.2.1
theorem dL_law_177 : decode cL_law 177 = .ok (.iadd, 1) := db_L_law_168.2.2.2.2.2.2.2.1
theorem dL_law_178 : decode cL_law 178 = .ok (.iaload, 1) := db_L_law_168.2.2.2.2.2.2.2.2.1
theorem dL_law_179 : decode cL_law 179 = .ok (.aload_n 3, 1) := db_L_law_168.2.2.2.2.2.2.2.2.2.1
theorem dL_law_180 : decode cL_law 180 = .ok (.invokestatic 104, 3) := db_L_law_168.2.2.2.2.2.2.2.2.2.2.1
theorem dL_law_183 : decode cL_law 183 = .ok (.istore 5, 2) := db_L_law_168.2.2.2.2.2.2.2.2.2.2.2.1
theorem dL_law_185 : decode cL_law 185 = .ok (.aload_n 2, 1) := db_L_law_168.2.2.2.2.2.2.2.2.2.2.2.2.1
theorem dL_law_186 : decode cL_law 186 = .ok (.aload_n 0, 1) := db_L_law_168.2.2.2.2.2.2.2.2.2.2.2.2.2.1
theorem dL_law_187 : decode cL_law 187 = .ok (.iload 4, 2) := db_L_law_168.2.2.2.2.2.2.2.2.2.2.2.2.2.2.1
theorem dL_law_189 : decode cL_law 189 = .ok (.iconst 1, 1) := db_L_law_168.2.2.2.2.2.2.2.2.2.2.2.2.2.2.2
theorem db_L_law_190 : decode cL_law 190 = .ok (.iadd, 1) ∧ decode cL_law 191 = .ok (.iaload, 1) ∧ decode cL_law 192 = .ok (.aload_n 0, 1) ∧ decode cL_law 193 = .ok (.iload 4, 2) ∧ decode cL_law 195 = .ok (.iconst 2, 1) ∧ decode cL_law 196 = .ok (.iadd, 1) ∧ decode cL_law 197 = .ok (.iaload, 1) ∧ decode cL_law 198 = .ok (.aload_n 0, 1) ∧ decode cL_law 199 = .ok (.iload 4, 2) ∧ decode cL_law 201 = .ok (.iconst 3, 1) ∧ decode cL_law 202 = .ok (.iadd, 1) ∧ decode cL_law 203 = .ok (.iaload, 1) ∧ decode cL_law 204 = .ok (.invokevirtual 109, 3) ∧ decode cL_law 207 = .ok (.istore 6, 2) ∧ decode cL_law 209 = .ok (.aload_n 2, 1) ∧ decode cL_law 210 = .ok (.invokevirtual 110, 3) := by decide +kernel
theorem dL_law_190 : decode cL_law 190 = .ok (.iadd, 1) := db_L_law_190.1
theorem dL_law_191 : decode cL_law 191 = .ok (.iaload, 1) := db_L_law_190.2.1
theorem dL_law_192 : decode cL_law 192 = .ok (.aload_n 0, 1) := db_L_law_190.2.2.1
theorem dL_law_193 : decode cL_law 193 = .ok (.iload 4, 2) := db_L_law_190.2.2.2.1
theorem dL_law_195 : decode cL_law 195 = .ok (.iconst 2, 1) := db_L_law_190.2.2.2.2.1
theorem dL_law_196 : decode cL_law 196 = .ok (.iadd, 1) := db_L_law_190.2.2.2.2.2.1
theorem dL_law_197 : decode cL_law 197 = .ok (.iaload, 1) := db_L_law_190.2.2.2.2.2.2.1
theorem dL_law_198 : decode cL_law 198 = .ok (.aload_n 0, 1) := db_L_law_190.2.2.2.2.2.2.2.1
theorem dL_law_199 : decode cL_law 199 = .ok (.iload 4, 2) := db_L_law_190.2.2.2.2.2.2.2.2.1
theorem dL_law_201 : decode cL_law 201 = .ok (.iconst 3, 1) := db_L_law_190.2.2.2.2.2.2.2.2.2.1
theorem dL_law_202 : decode cL_law 202 = .ok (.iadd, 1) := db_L_law_190.2.2.2.2.2.2.2.2.2.2.1
theorem dL_law_203 : decode cL_law 203 = .ok (.iaload, 1) := db_L_law_190.2.2.2.2.2.2.2.2.2.2.2.1
theorem dL_law_204 : decode cL_law 204 = .ok (.invokevirtual 109, 3) := db_L_law_190.2.2.2.2.2.2.2.2.2.2.2.2.1
theorem dL_law_207 : decode cL_law 207 = .ok (.istore 6, 2) := db_L_law_190.2.2.2.2.2.2.2.2.2.2.2.2.2.1
theorem dL_law_209 : decode cL_law 209 = .ok (.aload_n 2, 1) := db_L_law_190.2.2.2.2.2.2.2.2.2.2.2.2.2.2.1
theorem dL_law_210 : decode cL_law 210 = .ok (.invokevirtual 110, 3) := db_L_law_190.2.2.2.2.2.2.2.2.2.2.2.2.2.2.2
theorem db_L_law_213 : decode cL_law 213 = .ok (.iload 5, 2) ∧ decode cL_law 215 = .ok (.if_icmp .eq 5, 3) ∧ decode cL_law 220 = .ok (.iload 5, 2) ∧ decode cL_law 222 = .ok (.ifCond .ne 15, 3) ∧ decode cL_law 225 = .ok (.aload_n 3, 1) ∧ decode cL_law 226 = .ok (.iconst 0, 1) ∧ decode cL_law 227 = .ok (.laload, 1) ∧ decode cL_law 228 = .ok (.iload 6, 2) ∧ decode cL_law 230 = .ok (.i2l, 1) ∧ decode cL_law 231 = .ok (.lcmp, 1) ∧ decode cL_law 232 = .ok (.ifCond .eq 5, 3) ∧ decode cL_law 237 = .ok (.goto 1874, 3) ∧ decode cL_law 240 = .ok (.aload_n 1, 1) ∧ decode cL_law 241 = .ok (.aload_n 0, 1) ∧ decode cL_law 242 = .ok (.iload 4, 2) ∧ decode cL_law 244 = .ok (.iconst 1, 1) := by decide +kernel
theorem dL_law_213 : decode cL_law 213 = .ok (.iload 5, 2) := db_L_law_213.1
theorem dL_law_215 : decode cL_law 215 = .ok (.if_icmp .eq 5, 3) := db_L_law_213.2.1
theorem dL_law_220 : decode cL_law 220 = .ok (.iload 5, 2) := db_L_law_213.2.2.1
theorem dL_law_222 : decode cL_law 222 = .ok (.ifCond .ne 15, 3) := db_L_law_213.2.2.2.1
theorem dL_law_225 : decode cL_law 225 = .ok (.aload_n 3, 1) := db_L_law_213.2.2.2.2.1
theorem dL_law_226 : decode cL_law 226 = .ok (.iconst 0, 1) := db_L_law_213.2.2.2.2.2.1
theorem dL_law_227 : decode cL_law 227 = .ok (.laload, 1) := db_L_law_213.2.2.2.2.2.2.1
theorem dL_law_228 : decode cL_law 228 = .ok (.iload 6, 2) := db_L_law_213.2.2.2.2.2.2.2.1
theorem dL_law_230 : decode cL_law 230 = .ok (.i2l, 1) := db_L_law_213.2.2.2.2.2.2.2.2.1
theorem dL_law_231 : decode cL_law 231 = .ok (.lcmp, 1) := db_L_law_213.2.2.2.2.2.2.2.2.2.1
theorem dL_law_232 : decode cL_law 232 = .ok (.ifCond .eq 5, 3) := db_L_law_213.2.2.2.2.2.2.2.2.2.2.1
theorem dL_law_237 : decode cL_law 237 = .ok (.goto 1874, 3) := db_L_law_213.2.2.2.2.2.2.2.2.2.2.2.1
theorem dL_law_240 : decode cL_law 240 = .ok (.aload_n 1, 1) := db_L_law_213.2.2.2.2.2.2.2.2.2.2.2.2.1
theorem dL_law_241 : decode cL_law 241 = .ok (.aload_n 0, 1) := db_L_law_213.2.2.2.2.2.2.2.2.2.2.2.2.2.1
theorem dL_law_242 : decode cL_law 242 = .ok (.iload 4, 2) := db_L_law_213.2.2.2.2.2.2.2.2.2.2.2.2.2.2.1
theorem dL_law_244 : decode cL_law 244 = .ok (.iconst 1, 1) := db_L_law_213.2.2.2.2.2.2.2.2.2.2.2.2.2.2.2
theorem db_L_law_245 : decode cL_law 245 = .ok (.iadd, 1) ∧ decode cL_law 246 = .ok (.iaload, 1) ∧ decode cL_law 247 = .ok (.aload_n 0, 1) ∧ decode cL_law 248 = .ok (.iload 4, 2) ∧ decode cL_law 250 = .ok (.iconst 2, 1) ∧ decode cL_law 251 = .ok (.iadd, 1) ∧ decode cL_law 252 = .ok (.iaload, 1) ∧ decode cL_law 253 = .ok (.i2l, 1) ∧ decode cL_law 254 = .ok (.bipush 32, 2) ∧ decode cL_law 256 = .ok (.lshl, 1) ∧ decode cL_law 257 = .ok (.aload_n 0, 1) ∧ decode cL_law 258 = .ok (.iload 4, 2) ∧ decode cL_law 260 = .ok (.iconst 3, 1) ∧ decode cL_law 261 = .ok (.iadd, 1) ∧ decode cL_law 262 = .ok (.iaload, 1) ∧ decode cL_law 263 = .ok (.i2l, 1) := by decide +kernel
theorem dL_law_245 : decode cL_law 245 = .ok (.iadd, 1) := db_L_law_245.1
theorem dL_law_246 : decode cL_law 246 = .ok (.iaload, 1) := db_L_law_245.2.1
theorem dL_law_247 : decode cL_law 247 = .ok (.aload_n 0, 1) := db_L_law_245.2.2.1
theorem dL_law_248 : decode cL_law 248 = .ok (.iload 4, 2) := db_L_law_245.2.2.2.1
theorem dL_law_250 : decode cL_law 250 = .ok (.iconst 2, 1) := db_L_law_245.2.2.2.2.1
theorem dL_law_251 : decode cL_law 251 = .ok (.iadd, 1) := db_L_law_245.2.2.2.2.2.1
theorem dL_law_252 : decode cL_law 252 = .ok (.iaload, 1) := db_L_law_245.2.2.2.2.2.2.1
theorem dL_law_253 : decode cL_law 253 = .ok (.i2l, 1) := db_L_law_245.2.2.2.2.2.2.2.1
theorem dL_law_254 : decode cL_law 254 = .ok (.bipush 32, 2) := db_L_law_245.2.2.2.2.2.2.2.2.1
theorem dL_law_256 : decode cL_law 256 = .ok (.lshl, 1) := db_L_law_245.2.2.2.2.2.2.2.2.2.1
theorem dL_law_257 : decode cL_law 257 = .ok (.aload_n 0, 1) := db_L_law_245.2.2.2.2.2.2.2.2.2.2.1
theorem dL_law_258 : decode cL_law 258 = .ok (.iload 4, 2) := db_L_law_245.2.2.2.2.2.2.2.2.2.2.2.1
theorem dL_law_260 : decode cL_law 260 = .ok (.iconst 3, 1) := db_L_law_245.2.2.2.2.2.2.2.2.2.2.2.2.1
theorem dL_law_261 : decode cL_law 261 = .ok (.iadd, 1) := db_L_law_245.2.2.2.2.2.2.2.2.2.2.2.2.2.1
theorem dL_law_262 : decode cL_law 262 = .ok (.iaload, 1) := db_L_law_245.2.2.2.2.2.2.2.2.2.2.2.2.2.2.1
theorem dL_law_263 : decode cL_law 263 = .ok (.i2l, 1) := db_L_law_245.2.2.2.2.2.2.2.2.2.2.2.2.2.2.2
theorem db_L_law_264 : decode cL_law 264 = .ok (.ldc2_w 114, 3) ∧ decode cL_law 267 = .ok (.land, 1) ∧ decode cL_law 268 = .ok (.lor, 1) ∧ decode cL_law 269 = .ok (.aload_n 3, 1) ∧ decode cL_law 270 = .ok (.invokestatic 116, 3) ∧ decode cL_law 273 = .ok (.istore 5, 2) ∧ decode cL_law 275 = .ok (.aload_n 2, 1) ∧ decode cL_law 276 = .ok (.aload_n 0, 1) ∧ decode cL_law 277 = .ok (.iload 4, 2) ∧ decode cL_law 279 = .ok (.iconst 1, 1) ∧ decode cL_law 280 = .ok (.iadd, 1) ∧ decode cL_law 281 = .ok (.iaload, 1) ∧ decode cL_law 282 = .ok (.aload_n 0, 1) ∧ decode cL_law 283 = .ok (.iload 4, 2) ∧ decode cL_law 285 = .ok (.iconst 2, 1) ∧ decode cL_law 286 = .ok (.iadd, 1) := by decide +kernel
theorem dL_law_264 : decode cL_law 264 = .ok (.ldc2_w 114, 3) := db_L_law_264.1
theorem dL_law_267 : decode cL_law 267 = .ok (.land, 1) := db_L_law_264.2.1
theorem dL_law_268 : decode cL_law 268 = .ok (.lor, 1) := db_L_law_264.2.2.1
theorem dL_law_269 : decode cL_law 269 = .ok (.aload_n 3, 1) := db_L_law_264.2.2.2.1
theorem dL_law_270 : decode cL_law 270 = .ok (.invokestatic 116, 3) := db_L_law_264.2.2.2.2.1
theorem dL_law_273 : decode cL_law 273 = .ok (.istore 5, 2) := db_L_law_264.2.2.2.2.2.1
theorem dL_law_275 : decode cL_law 275 = .ok (.aload_n 2, 1) := db_L_law_264.2.2.2.2.2.2.1
theorem dL_law_276 : decode cL_law 276 = .ok (.aload_n 0, 1) := db_L_law_264.2.2.2.2.2.2.2.1
theorem dL_law_277 : decode cL_law 277 = .ok (.iload 4, 2) := db_L_law_264.2.2.2.2.2.2.2.2.1
theorem dL_law_279 : decode cL_law 279 = .ok (.iconst 1, 1) := db_L_law_264.2.2.2.2.2.2.2.2.2.1
theorem dL_law_280 : decode cL_law 280 = .ok (.iadd, 1) := db_L_law_264.2.2.2.2.2.2.2.2.2.2.1
theorem dL_law_281 : decode cL_law 281 = .ok (.iaload, 1) := db_L_law_264.2.2.2.2.2.2.2.2.2.2.2.1
theorem dL_law_282 : decode cL_law 282 = .ok (.aload_n 0, 1) := db_L_law_264.2.2.2.2.2.2.2.2.2.2.2.2.1
theorem dL_law_283 : decode cL_law 283 = .ok (.iload 4, 2) := db_L_law_264.2.2.2.2.2.2.2.2.2.2.2.2.2.1
theorem dL_law_285 : decode cL_law 285 = .ok (.iconst 2, 1) := db_L_law_264.2.2.2.2.2.2.2.2.2.2.2.2.2.2.1
theorem dL_law_286 : decode cL_law 286 = .ok (.iadd, 1) := db_L_law_264.2.2.2.2.2.2.2.2.2.2.2.2.2.2.2
theorem db_L_law_287 : decode cL_law 287 = .ok (.iaload, 1) ∧ decode cL_law 288 = .ok (.i2l, 1) ∧ decode cL_law 289 = .ok (.bipush 32, 2) ∧ decode cL_law 291 = .ok (.lshl, 1) ∧ decode cL_law 292 = .ok (.aload_n 0, 1) ∧ decode cL_law 293 = .ok (.iload 4, 2) ∧ decode cL_law 295 = .ok (.iconst 3, 1) ∧ decode cL_law 296 = .ok (.iadd, 1) ∧ decode cL_law 297 = .ok (.iaload, 1) ∧ decode cL_law 298 = .ok (.i2l, 1) ∧ decode cL_law 299 = .ok (.ldc2_w 114, 3) ∧ decode cL_law 302 = .ok (.land, 1) ∧ decode cL_law 303 = .ok (.lor, 1) ∧ decode cL_law 304 = .ok (.invokevirtual 119, 3) ∧ decode cL_law 307 = .ok (.istore 6, 2) ∧ decode cL_law 309 = .ok (.aload_n 2, 1) := by decide +kernel
theorem dL_law_287 : decode cL_law 287 = .ok (.iaload, 1) := db_L_law_287.1
theorem dL_law_288 : decode cL_law 288 = .ok (.i2l, 1) := db_L_law_287.2.1
theorem dL_law_289 : decode cL_law 289 = .ok (.bipush 32, 2) := db_L_law_287.2.2.1
theorem dL_law_291 : decode cL_law 291 = .ok (.lshl, 1) := db_L_law_287.2.2.2.1
theorem dL_law_292 : decode cL_law 292 = .ok (.aload_n 0, 1) := db_L_law_287.2.2.2.2.1
theorem dL_law_293 : decode cL_law 293 = .ok (.iload 4, 2) := db_L_law_287.2.2.2.2.2.1
theorem dL_law_295 : decode cL_law 295 = .ok (.iconst 3, 1) := db_L_law_287.2.2.2.2.2.2.1
theorem dL_law_296 : decode cL_law 296 = .ok (.iadd, 1) := db_L_law_287.2.2.2.2.2.2.2.1
theorem dL_law_297 : decode cL_law 297 = .ok (.iaload, 1) := db_L_law_287.2.2.2.2.2.2.2.2.1
theorem dL_law_298 : decode cL_law 298 = .ok (.i2l, 1) := db_L_law_287.2.2.2.2.2.2.2.2.2.1
theorem dL_law_299 : decode cL_law 299 = .ok (.ldc2_w 114, 3) := db_L_law_287.2.2.2.2.2.2.2.2.2.2.1
theorem dL_law_302 : decode cL_law 302 = .ok (.land, 1) := db_L_law_287.2.2.2.2.2.2.2.2.2.2.2.1
theorem dL_law_303 : decode cL_law 303 = .ok (.lor, 1) := db_L_law_287.2.2.2.2.2.2.2.2.2.2.2.2.1
theorem dL_law_304 : decode cL_law 304 = .ok (.invokevirtual 119, 3) := db_L_law_287.2.2.2.2.2.2.2.2.2.2.2.2.2.1
theorem dL_law_307 : decode cL_law 307 = .ok (.istore 6, 2) := db_L_law_287.2.2.2.2.2.2.2.2.2.2.2.2.2.2.1
theorem dL_law_309 : decode cL_law 309 = .ok (.aload_n 2, 1) := db_L_law_287.2.2.2.2.2.2.2.2.2.2.2.2.2.2.2
theorem db_L_law_310 : decode cL_law 310 = .ok (.invokevirtual 110, 3) ∧ decode cL_law 313 = .ok (.iload 5, 2) ∧ decode cL_law 315 = .ok (.if_icmp .eq 5, 3) ∧ decode cL_law 320 = .ok (.iload 5, 2) ∧ decode cL_law 322 = .ok (.ifCond .ne 15, 3) ∧ decode cL_law 325 = .ok (.aload_n 3, 1) ∧ decode cL_law 326 = .ok (.iconst 0, 1) ∧ decode cL_law 327 = .ok (.laload, 1) ∧ decode cL_law 328 = .ok (.iload 6, 2) ∧ decode cL_law 330 = .ok (.i2l, 1) ∧ decode cL_law 331 = .ok (.lcmp, 1) ∧ decode cL_law 332 = .ok (.ifCond .eq 5, 3) ∧ decode cL_law 337 = .ok (.goto 1774, 3) ∧ decode cL_law 340 = .ok (.aload_n 1, 1) ∧ decode cL_law 341 = .ok (.aload_n 0, 1) ∧ decode cL_law 342 = .ok (.iload 4, 2) := by decide +kernel
theorem dL_law_310 : decode cL_law 310 = .ok (.invokevirtual 110, 3) := db_L_law_310.1
theorem dL_law_313 : decode cL_law 313 = .ok (.iload 5, 2) := db_L_law_310.2.1
theorem dL_law_315 : decode cL_law 315 = .ok (.if_icmp .eq 5, 3) := db_L_law_310.2.2.1
theorem dL_law_320 : decode cL_law 320 = .ok (.iload 5, 2) := db_L_law_310.2.2.2.1
theorem dL_law_322 : decode cL_law 322 = .ok (.ifCond .ne 15, 3) := db_L_law_310.2.2.2.2.1
theorem dL_law_325 : decode cL_law 325 = .ok (.aload_n 3, 1) := db_L_law_310.2.2.2.2.2.1
theorem dL_law_326 : decode cL_law 326 = .ok (.iconst 0, 1) := db_L_law_310.2.2.2.2.2.2.1
theorem dL_law_327 : decode cL_law 327 = .ok (.laload, 1) := db_L_law_310.2.2.2.2.2.2.2.1
theorem dL_law_328 : decode cL_law 328 = .ok (.iload 6, 2) := db_L_law_310.2.2.2.2.2.2.2.2.1
theorem dL_law_330 : decode cL_law 330 = .ok (.i2l, 1) := db_L_law_310.2.2.2.2.2.2.2.2.2.1
theorem dL_law_331 : decode cL_law 331 = .ok (.lcmp, 1) := db_L_law_310.2.2.2.2.2.2.2.2.2.2.1
theorem dL_law_332 : decode cL_law 332 = .ok (.ifCond .eq 5, 3) := db_L_law_310.2.2.2.2.2.2.2.2.2.2.2.1
theorem dL_law_337 : decode cL_law 337 = .ok (.goto 1774, 3) := db_L_law_310.2.2.2.2.2.2.2.2.2.2.2.2.1
theorem dL_law_340 : decode cL_law 340 = .ok (.aload_n 1, 1) := db_L_law_310.2.2.2.2.2.2.2.2.2.2.2.2.2.1
theorem dL_law_341 : decode cL_law 341 = .ok (.aload_n 0, 1) := db_L_law_310.2.2.2.2.2.2.2.2.2.2.2.2.2.2.1
theorem dL_law_342 : decode cL_law 342 = .ok (.iload 4, 2) := db_L_law_310.2.2.2.2.2.2.2.2.2.2.2.2.2.2.2
theorem db_L_law_344 : decode cL_law 344 = .ok (.iconst 1, 1) ∧ decode cL_law 345 = .ok (.iadd, 1) ∧ decode cL_law 346 = .ok (.iaload, 1) ∧ decode cL_law 347 = .ok (.aload_n 0, 1) ∧ decode cL_law 348 = .ok (.iload 4, 2) ∧ decode cL_law 350 = .ok (.iconst 2, 1) ∧ decode cL_law 351 = .ok (.iadd, 1) ∧ decode cL_law 352 = .ok (.iaload, 1) ∧ decode cL_law 353 = .ok (.aload_n 3, 1) ∧ decode cL_law 354 = .ok (.invokestatic 120, 3) ∧ decode cL_law 357 = .ok (.istore 5, 2) ∧ decode cL_law 359 = .ok (.aload_n 2, 1) ∧ decode cL_law 360 = .ok (.aload_n 0, 1) ∧ decode cL_law 361 = .ok (.iload 4, 2) ∧ decode cL_law 363 = .ok (.iconst 1, 1) ∧ decode cL_law 364 = .ok (.iadd, 1) := by decide +kernel
theorem dL_law_344 : decode cL_law 344 = .ok (.iconst 1, 1) := db_L_law_344.1
theorem dL_law_345 : decode cL_law 345 = .ok (.iadd, 1) := db_L_law_344.2.1
theorem dL_law_346 : decode cL_law 346 = .ok (.iaload, 1) := db_L_law_344.2.2.1
theorem dL_law_347 : decode cL_law 347 = .ok (.aload_n 0, 1) := db_L_law_344.2.2.2.1
theorem dL_law_348 : decode cL_law 348 = .ok (.iload 4, 2) := db_L_law_344.2.2.2.2.1
theorem dL_law_350 : decode cL_law 350 = .ok (.iconst 2, 1) := db_L_law_344.2.2.2.2.2.1
theorem dL_law_351 : decode cL_law 351 = .ok (.iadd, 1) := db_L_law_344.2.2.2.2.2.2.1
theorem dL_law_352 : decode cL_law 352 = .ok (.iaload, 1) := db_L_law_344.2.2.2.2.2.2.2.1
theorem dL_law_353 : decode cL_law 353 = .ok (.aload_n 3, 1) := db_L_law_344.2.2.2.2.2.2.2.2.1
theorem dL_law_354 : decode cL_law 354 = .ok (.invokestatic 120, 3) := db_L_law_344.2.2.2.2.2.2.2.2.2.1
theorem dL_law_357 : decode cL_law 357 = .ok (.istore 5, 2) := db_L_law_344.2.2.2.2.2.2.2.2.2.2.1
theorem dL_law_359 : decode cL_law 359 = .ok (.aload_n 2, 1) := db_L_law_344.2.2.2.2.2.2.2.2.2.2.2.1
theorem dL_law_360 : decode cL_law 360 = .ok (.aload_n 0, 1) := db_L_law_344.2.2.2.2.2.2.2.2.2.2.2.2.1
theorem dL_law_361 : decode cL_law 361 = .ok (.iload 4, 2) := db_L_law_344.2.2.2.2.2.2.2.2.2.2.2.2.2.1
theorem dL_law_363 : decode cL_law 363 = .ok (.iconst 1, 1) := db_L_law_344.2.2.2.2.2.2.2.2.2.2.2.2.2.2.1
theorem dL_law_364 : decode cL_law 364 = .ok (.iadd, 1) := db_L_law_344.2.2.2.2.2.2.2.2.2.2.2.2.2.2.2
theorem db_L_law_365 : decode cL_law 365 = .ok (.iaload, 1) ∧ decode cL_law 366 = .ok (.aload_n 0, 1) ∧ decode cL_law 367 = .ok (.iload 4, 2) ∧ decode cL_law 369 = .ok (.iconst 2, 1) ∧ decode cL_law 370 = .ok (.iadd, 1) ∧ decode cL_law 371 = .ok (.iaload, 1) ∧ decode cL_law 372 = .ok (.invokevirtual 123, 3) ∧ decode cL_law 375 = .ok (.istore 6, 2) ∧ decode cL_law 377 = .ok (.aload_n 2, 1) ∧ decode cL_law 378 = .ok (.invokevirtual 110, 3) ∧ decode cL_law 381 = .ok (.iload 5, 2) ∧ decode cL_law 383 = .ok (.if_icmp .eq 5, 3) ∧ decode cL_law 388 = .ok (.iload 5, 2) ∧ decode cL_law 390 = .ok (.ifCond .ne 15, 3) ∧ decode cL_law 393 = .ok (.aload_n 3, 1) ∧ decode cL_law 394 = .ok (.iconst 0, 1) := by decide +kernel
theorem dL_law_365 : decode cL_law 365 = .ok (.iaload, 1) := db_L_law_365.1
theorem dL_law_366 : decode cL_law 366 = .ok (.aload_n 0, 1) := db_L_law_365.2.1
theorem dL_law_367 : decode cL_law 367 = .ok (.iload 4, 2) := db_L_law_365.2.2.1
theorem dL_law_369 : decode cL_law 369 = .ok (.iconst 2, 1) := db_L_law_365.2.2.2.1
theorem dL_law_370 : decode cL_law 370 = .ok (.iadd, 1) := db_L_law_365.2.2.2.2.1
theorem dL_law_371 : decode cL_law 371 = .ok (.iaload, 1) := db_L_law_365.2.2.2.2.2.1
theorem dL_law_372 : decode cL_law 372 = .ok (.invokevirtual 123, 3) := db_L_law_365.2.2.2.2.2.2.1
theorem dL_law_375 : decode cL_law 375 = .ok (.istore 6, 2) := db_L_law_365.2.2.2.2.2.2.2.1
theorem dL_law_377 : decode cL_law 377 = .ok (.aload_n 2, 1) := db_L_law_365.2.2.2.2.2.2.2.2.1
theorem dL_law_378 : decode cL_law 378 = .ok (.invokevirtual 110, 3) := db_L_law_365.2.2.2.2.2.2.2.2.2.1
theorem dL_law_381 : decode cL_law 381 = .ok (.iload 5, 2) := db_L_law_365.2.2.2.2.2.2.2.2.2.2.1
theorem dL_law_383 : decode cL_law 383 = .ok (.if_icmp .eq 5, 3) := db_L_law_365.2.2.2.2.2.2.2.2.2.2.2.1
theorem dL_law_388 : decode cL_law 388 = .ok (.iload 5, 2) := db_L_law_365.2.2.2.2.2.2.2.2.2.2.2.2.1
theorem dL_law_390 : decode cL_law 390 = .ok (.ifCond .ne 15, 3) := db_L_law_365.2.2.2.2.2.2.2.2.2.2.2.2.2.1
theorem dL_law_393 : decode cL_law 393 = .ok (.aload_n 3, 1) := db_L_law_365.2.2.2.2.2.2.2.2.2.2.2.2.2.2.1
theorem dL_law_394 : decode cL_law 394 = .ok (.iconst 0, 1) := db_L_law_365.2.2.2.2.2.2.2.2.2.2.2.2.2.2.2
theorem db_L_law_395 : decode cL_law 395 = .ok (.laload, 1) ∧ decode cL_law 396 = .ok (.iload 6, 2) ∧ decode cL_law 398 = .ok (.i2l, 1) ∧ decode cL_law 399 = .ok (.lcmp, 1) ∧ decode cL_law 400 = .ok (.ifCond .eq 5, 3) ∧ decode cL_law 405 = .ok (.goto 1706, 3) ∧ decode cL_law 408 = .ok (.aload_n 1, 1) ∧ decode cL_law 409 = .ok (.aload_n 0, 1) ∧ decode cL_law 410 = .ok (.iload 4, 2) ∧ decode cL_law 412 = .ok (.iconst 1, 1) ∧ decode cL_law 413 = .ok (.iadd, 1) ∧ decode cL_law 414 = .ok (.iaload, 1) ∧ decode cL_law 415 = .ok (.aload_n 0, 1) ∧ decode cL_law 416 = .ok (.iload 4, 2) ∧ decode cL_law 418 = .ok (.iconst 2, 1) ∧ decode cL_law 419 = .ok (.iadd, 1) := by decide +kernel
theorem dL_law_395 : decode cL_law 395 = .ok (.laload, 1) := db_L_law_395.1
theorem dL_law_396 : decode cL_law 396 = .ok (.iload 6, 2) := db_L_law_395.2.1
theorem dL_law_398 : decode cL_law 398 = .ok (.i2l, 1) := db_L_law_395.2.2.1
theorem dL_law_399 : decode cL_law 399 = .ok (.lcmp, 1) := db_L_law_395.2.2.2.1
theorem dL_law_400 : decode cL_law 400 = .ok (.ifCond .eq 5, 3) := db_L_law_395.2.2.2.2.1
theorem dL_law_405 : decode cL_law 405 = .ok (.goto 1706, 3) := db_L_law_395.2.2.2.2.2.1
theorem dL_law_408 : decode cL_law 408 = .ok (.aload_n 1, 1) := db_L_law_395.2.2.2.2.2.2.1
theorem dL_law_409 : decode cL_law 409 = .ok (.aload_n 0, 1) := db_L_law_395.2.2.2.2.2.2.2.1
theorem dL_law_410 : decode cL_law 410 = .ok (.iload 4, 2) := db_L_law_395.2.2.2.2.2.2.2.2.1
theorem dL_law_412 : decode cL_law 412 = .ok (.iconst 1, 1) := db_L_law_395.2.2.2.2.2.2.2.2.2.1
theorem dL_law_413 : decode cL_law 413 = .ok (.iadd, 1) := db_L_law_395.2.2.2.2.2.2.2.2.2.2.1
theorem dL_law_414 : decode cL_law 414 = .ok (.iaload, 1) := db_L_law_395.2.2.2.2.2.2.2.2.2.2.2.1
theorem dL_law_415 : decode cL_law 415 = .ok (.aload_n 0, 1) := db_L_law_395.2.2.2.2.2.2.2.2.2.2.2.2.1
theorem dL_law_416 : decode cL_law 416 = .ok (.iload 4, 2) := db_L_law_395.2.2.2.2.2.2.2.2.2.2.2.2.2.1
theorem dL_law_418 : decode cL_law 418 = .ok (.iconst 2, 1) := db_L_law_395.2.2.2.2.2.2.2.2.2.2.2.2.2.2.1
theorem dL_law_419 : decode cL_law 419 = .ok (.iadd, 1) := db_L_law_395.2.2.2.2.2.2.2.2.2.2.2.2.2.2.2
theorem db_L_law_420 : decode cL_law 420 = .ok (.iaload, 1) ∧ decode cL_law 421 = .ok (.aload_n 3, 1) ∧ decode cL_law 422 = .ok (.invokestatic 124, 3) ∧ decode cL_law 425 = .ok (.istore 5, 2) ∧ decode cL_law 427 = .ok (.aload_n 2, 1) ∧ decode cL_law 428 = .ok (.aload_n 0, 1) ∧ decode cL_law 429 = .ok (.iload 4, 2) ∧ decode cL_law 431 = .ok (.iconst 1, 1) ∧ decode cL_law 432 = .ok (.iadd, 1) ∧ decode cL_law 433 = .ok (.iaload, 1) ∧ decode cL_law 434 = .ok (.aload_n 0, 1) ∧ decode cL_law 435 = .ok (.iload 4, 2) ∧ decode cL_law 437 = .ok (.iconst 2, 1) ∧ decode cL_law 438 = .ok (.iadd, 1) ∧ decode cL_law 439 = .ok (.iaload, 1) ∧ decode cL_law 440 = .ok (.invokevirtual 126, 3) := by decide +kernel
theorem dL_law_420 : decode cL_law 420 = .ok (.iaload, 1) := db_L_law_420.1
theorem dL_law_421 : decode cL_law 421 = .ok (.aload_n 3, 1) := db_L_law_420.2.1
theorem dL_law_422 : decode cL_law 422 = .ok (.invokestatic 124, 3) := db_L_law_420.2.2.1
theorem dL_law_425 : decode cL_law 425 = .ok (.istore 5, 2) := db_L_law_420.2.2.2.1
theorem dL_law_427 : decode cL_law 427 = .ok (.aload_n 2, 1) := db_L_law_420.2.2.2.2.1
theorem dL_law_428 : decode cL_law 428 = .ok (.aload_n 0, 1) := db_L_law_420.2.2.2.2.2.1
theorem dL_law_429 : decode cL_law 429 = .ok (.iload 4, 2) := db_L_law_420.2.2.2.2.2.2.1
theorem dL_law_431 : decode cL_law 431 = .ok (.iconst 1, 1) := db_L_law_420.2.2.2.2.2.2.2.1
theorem dL_law_432 : decode cL_law 432 = .ok (.iadd, 1) := db_L_law_420.2.2.2.2.2.2.2.2.1
theorem dL_law_433 : decode cL_law 433 = .ok (.iaload, 1) := db_L_law_420.2.2.2.2.2.2.2.2.2.1
theorem dL_law_434 : decode cL_law 434 = .ok (.aload_n 0, 1) := db_L_law_420.2.2.2.2.2.2.2.2.2.2.1
theorem dL_law_435 : decode cL_law 435 = .ok (.iload 4, 2) := db_L_law_420.2.2.2.2.2.2.2.2.2.2.2.1
theorem dL_law_437 : decode cL_law 437 = .ok (.iconst 2, 1) := db_L_law_420.2.2.2.2.2.2.2.2.2.2.2.2.1
theorem dL_law_438 : decode cL_law 438 = .ok (.iadd, 1) := db_L_law_420.2.2.2.2.2.2.2.2.2.2.2.2.2.1
theorem dL_law_439 : decode cL_law 439 = .ok (.iaload, 1) := db_L_law_420.2.2.2.2.2.2.2.2.2.2.2.2.2.2.1
theorem dL_law_440 : decode cL_law 440 = .ok (.invokevirtual 126, 3) := db_L_law_420.2.2.2.2.2.2.2.2.2.2.2.2.2.2.2
theorem db_L_law_443 : decode cL_law 443 = .ok (.istore 6, 2) ∧ decode cL_law 445 = .ok (.aload_n 2, 1) ∧ decode cL_law 446 = .ok (.invokevirtual 110, 3) ∧ decode cL_law 449 = .ok (.iload 5, 2) ∧ decode cL_law 451 = .ok (.if_icmp .eq 5, 3) ∧ decode cL_law 456 = .ok (.iload 5, 2) ∧ decode cL_law 458 = .ok (.ifCond .ne 15, 3) ∧ decode cL_law 461 = .ok (.aload_n 3, 1) ∧ decode cL_law 462 = .ok (.iconst 0, 1) ∧ decode cL_law 463 = .ok (.laload, 1) ∧ decode cL_law 464 = .ok (.iload 6, 2) ∧ decode cL_law 466 = .ok (.i2l, 1) ∧ decode cL_law 467 = .ok (.lcmp, 1) ∧ decode cL_law 468 = .ok (.ifCond .eq 5, 3) ∧ decode cL_law 473 = .ok (.goto 1638, 3) ∧ decode cL_law 476 = .ok (.aload_n 1, 1) := by decide +kernel
theorem dL_law_443 : decode cL_law 443 = .ok (.istore 6, 2) := db_L_law_443.1
theorem dL_law_445 : decode cL_law 445 = .ok (.aload_n 2, 1) := db_L_law_443.2.1
theorem dL_law_446 : decode cL_law 446 = .ok (.invokevirtual 110, 3) := db_L_law_443.2.2.1
theorem dL_law_449 : decode cL_law 449 = .ok (.iload 5, 2) := db_L_law_443.2.2.2.1
theorem dL_law_451 : decode cL_law 451 = .ok (.if_icmp .eq 5, 3) := db_L_law_443.2.2.2.2.1
theorem dL_law_456 : decode cL_law 456 = .ok (.iload 5, 2) := db_L_law_443.2.2.2.2.2.1
theorem dL_law_458 : decode cL_law 458 = .ok (.ifCond .ne 15, 3) := db_L_law_443.2.2.2.2.2.2.1
theorem dL_law_461 : decode cL_law 461 = .ok (.aload_n 3, 1) := db_L_law_443.2.2.2.2.2.2.2.1
theorem dL_law_462 : decode cL_law 462 = .ok (.iconst 0, 1) := db_L_law_443.2.2.2.2.2.2.2.2.1
theorem dL_law_463 : decode cL_law 463 = .ok (.laload, 1) := db_L_law_443.2.2.2.2.2.2.2.2.2.1
theorem dL_law_464 : decode cL_law 464 = .ok (.iload 6, 2) := db_L_law_443.2.2.2.2.2.2.2.2.2.2.1
theorem dL_law_466 : decode cL_law 466 = .ok (.i2l, 1) := db_L_law_443.2.2.2.2.2.2.2.2.2.2.2.1
theorem dL_law_467 : decode cL_law 467 = .ok (.lcmp, 1) := db_L_law_443.2.2.2.2.2.2.2.2.2.2.2.2.1
theorem dL_law_468 : decode cL_law 468 = .ok (.ifCond .eq 5, 3) := db_L_law_443.2.2.2.2.2.2.2.2.2.2.2.2.2.1
theorem dL_law_473 : decode cL_law 473 = .ok (.goto 1638, 3) := db_L_law_443.2.2.2.2.2.2.2.2.2.2.2.2.2.2.1
theorem dL_law_476 : decode cL_law 476 = .ok (.aload_n 1, 1) := db_L_law_443.2.2.2.2.2.2.2.2.2.2.2.2.2.2.2
theorem db_L_law_477 : decode cL_law 477 = .ok (.aload_n 0, 1) ∧ decode cL_law 478 = .ok (.iload 4, 2) ∧ decode cL_law 480 = .ok (.iconst 1, 1) ∧ decode cL_law 481 = .ok (.iadd, 1) ∧ decode cL_law 482 = .ok (.iaload, 1) ∧ decode cL_law 483 = .ok (.aload_n 0, 1) ∧ decode cL_law 484 = .ok (.iload 4, 2) ∧ decode cL_law 486 = .ok (.iconst 2, 1) ∧ decode cL_law 487 = .ok (.iadd, 1) ∧ decode cL_law 488 = .ok (.iaload, 1) ∧ decode cL_law 489 = .ok (.aload_n 3, 1) ∧ decode cL_law 490 = .ok (.invokestatic 127, 3) ∧ decode cL_law 493 = .ok (.istore 5, 2) ∧ decode cL_law 495 = .ok (.aload_n 2, 1) ∧ decode cL_law 496 = .ok (.aload_n 0, 1) ∧ decode cL_law 497 = .ok (.iload 4, 2) := by decide +kernel
theorem dL_law_477 : decode cL_law 477 = .ok (.aload_n 0, 1) := db_L_law_477.1
theorem dL_law_478 : decode cL_law 478 = .ok (.iload 4, 2) := db_L_law_477.2.1
theorem dL_law_480 : decode cL_law 480 = .ok (.iconst 1, 1) := db_L_law_477.2.2.1
theorem dL_law_481 : decode cL_law 481 = .ok (.iadd, 1) := db_L_law_477.2.2.2.1
theorem dL_law_482 : decode cL_law 482 = .ok (.iaload, 1) := db_L_law_477.2.2.2.2.1
theorem dL_law_483 : decode cL_law 483 = .ok (.aload_n 0, 1) := db_L_law_477.2.2.2.2.2.1
theorem dL_law_484 : decode cL_law 484 = .ok (.iload 4, 2) := db_L_law_477.2.2.2.2.2.2.1
theorem dL_law_486 : decode cL_law 486 = .ok (.iconst 2, 1) := db_L_law_477.2.2.2.2.2.2.2.1
theorem dL_law_487 : decode cL_law 487 = .ok (.iadd, 1) := db_L_law_477.2.2.2.2.2.2.2.2.1
theorem dL_law_488 : decode cL_law 488 = .ok (.iaload, 1) := db_L_law_477.2.2.2.2.2.2.2.2.2.1
theorem dL_law_489 : decode cL_law 489 = .ok (.aload_n 3, 1) := db_L_law_477.2.2.2.2.2.2.2.2.2.2.1
theorem dL_law_490 : decode cL_law 490 = .ok (.invokestatic 127, 3) := db_L_law_477.2.2.2.2.2.2.2.2.2.2.2.1
theorem dL_law_493 : decode cL_law 493 = .ok (.istore 5, 2) := db_L_law_477.2.2.2.2.2.2.2.2.2.2.2.2.1
theorem dL_law_495 : decode cL_law 495 = .ok (.aload_n 2, 1) := db_L_law_477.2.2.2.2.2.2.2.2.2.2.2.2.2.1
theorem dL_law_496 : decode cL_law 496 = .ok (.aload_n 0, 1) := db_L_law_477.2.2.2.2.2.2.2.2.2.2.2.2.2.2.1
theorem dL_law_497 : decode cL_law 497 = .ok (.iload 4, 2) := db_L_law_477.2.2.2.2.2.2.2.2.2.2.2.2.2.2.2
theorem db_L_law_499 : decode cL_law 499 = .ok (.iconst 1, 1) ∧ decode cL_law 500 = .ok (.iadd, 1) ∧ decode cL_law 501 = .ok (.iaload, 1) ∧ decode cL_law 502 = .ok (.aload_n 0, 1) ∧ decode cL_law 503 = .ok (.iload 4, 2) ∧ decode cL_law 505 = .ok (.iconst 2, 1) ∧ decode cL_law 506 = .ok (.iadd, 1) ∧ decode cL_law 507 = .ok (.iaload, 1) ∧ decode cL_law 508 = .ok (.invokevirtual 129, 3) ∧ decode cL_law 511 = .ok (.istore 6, 2) ∧ decode cL_law 513 = .ok (.aload_n 2, 1) ∧ decode cL_law 514 = .ok (.invokevirtual 110, 3) ∧ decode cL_law 517 = .ok (.iload 5, 2) ∧ decode cL_law 519 = .ok (.if_icmp .eq 5, 3) ∧ decode cL_law 524 = .ok (.iload 5, 2) ∧ decode cL_law 526 = .ok (.ifCond .ne 15, 3) := by decide +kernel
theorem dL_law_499 : decode cL_law 499 = .ok (.iconst 1, 1) := db_L_law_499.1
theorem dL_law_500 : decode cL_law 500 = .ok (.iadd, 1) := db_L_law_499.2.1
theorem dL_law_501 : decode cL_law 501 = .ok (.iaload, 1) := db_L_law_499.2.2.1
theorem dL_law_502 : decode cL_law 502 = .ok (.aload_n 0, 1) := db_L_law_499.2.2.2.1
theorem dL_law_503 : decode cL_law 503 = .ok (.iload 4, 2) := db_L_law_499.2.2.2.2.1
theorem dL_law_505 : decode cL_law 505 = .ok (.iconst 2, 1) := db_L_law_499.2.2.2.2.2.1
theorem dL_law_506 : decode cL_law 506 = .ok (.iadd, 1) := db_L_law_499.2.2.2.2.2.2.1
theorem dL_law_507 : decode cL_law 507 = .ok (.iaload, 1) := db_L_law_499.2.2.2.2.2.2.2.1
theorem dL_law_508 : decode cL_law 508 = .ok (.invokevirtual 129, 3) := db_L_law_499.2.2.2.2.2.2.2.2.1
theorem dL_law_511 : decode cL_law 511 = .ok (.istore 6, 2) := db_L_law_499.2.2.2.2.2.2.2.2.2.1
theorem dL_law_513 : decode cL_law 513 = .ok (.aload_n 2, 1) := db_L_law_499.2.2.2.2.2.2.2.2.2.2.1
theorem dL_law_514 : decode cL_law 514 = .ok (.invokevirtual 110, 3) := db_L_law_499.2.2.2.2.2.2.2.2.2.2.2.1
theorem dL_law_517 : decode cL_law 517 = .ok (.iload 5, 2) := db_L_law_499.2.2.2.2.2.2.2.2.2.2.2.2.1
theorem dL_law_519 : decode cL_law 519 = .ok (.if_icmp .eq 5, 3) := db_L_law_499.2.2.2.2.2.2.2.2.2.2.2.2.2.1
theorem dL_law_524 : decode cL_law 524 = .ok (.iload 5, 2) := db_L_law_499.2.2.2.2.2.2.2.2.2.2.2.2.2.2.1
theorem dL_law_526 : decode cL_law 526 = .ok (.ifCond .ne 15, 3) := db_L_law_499.2.2.2.2.2.2.2.2.2.2.2.2.2.2.2
theorem db_L_law_529 : decode cL_law 529 = .ok (.aload_n 3, 1) ∧ decode cL_law 530 = .ok (.iconst 0, 1) ∧ decode cL_law 531 = .ok (.laload, 1) ∧ decode cL_law 532 = .ok (.iload 6, 2) ∧ decode cL_law 534 = .ok (.i2l, 1) ∧ decode cL_law 535 = .ok (.lcmp, 1) ∧ decode cL_law 536 = .ok (.ifCond .eq 5, 3) ∧ decode cL_law 541 = .ok (.goto 1570, 3) ∧ decode cL_law 544 = .ok (.aload_n 1, 1) ∧ decode cL_law 545 = .ok (.aload_n 0, 1) ∧ decode cL_law 546 = .ok (.iload 4, 2) ∧ decode cL_law 548 = .ok (.iconst 1, 1) ∧ decode cL_law 549 = .ok (.iadd, 1) ∧ decode cL_law 550 = .ok (.iaload, 1) ∧ decode cL_law 551 = .ok (.aload_n 0, 1) ∧ decode cL_law 552 = .ok (.iload 4, 2) := by decide +kernel
theorem dL_law_529 : decode cL_law 529 = .ok (.aload_n 3, 1) := db_L_law_529.1
theorem dL_law_530 : decode cL_law 530 = .ok (.iconst 0, 1) := db_L_law_529.2.1
theorem dL_law_531 : decode cL_law 531 = .ok (.laload, 1) := db_L_law_529.2.2.1
theorem dL_law_532 : decode cL_law 532 = .ok (.iload 6, 2) := db_L_law_529.2.2.2.1
theorem dL_law_534 : decode cL_law 534 = .ok (.i2l, 1) := db_L_law_529.2.2.2.2.1
theorem dL_law_535 : decode cL_law 535 = .ok (.lcmp, 1) := db_L_law_529.2.2.2.2.2.1
theorem dL_law_536 : decode cL_law 536 = .ok (.ifCond .eq 5, 3) := db_L_law_529.2.2.2.2.2.2.1
theorem dL_law_541 : decode cL_law 541 = .ok (.goto 1570, 3) := db_L_law_529.2.2.2.2.2.2.2.1
theorem dL_law_544 : decode cL_law 544 = .ok (.aload_n 1, 1) := db_L_law_529.2.2.2.2.2.2.2.2.1
theorem dL_law_545 : decode cL_law 545 = .ok (.aload_n 0, 1) := db_L_law_529.2.2.2.2.2.2.2.2.2.1
theorem dL_law_546 : decode cL_law 546 = .ok (.iload 4, 2) := db_L_law_529.2.2.2.2.2.2.2.2.2.2.1
theorem dL_law_548 : decode cL_law 548 = .ok (.iconst 1, 1) := db_L_law_529.2.2.2.2.2.2.2.2.2.2.2.1
theorem dL_law_549 : decode cL_law 549 = .ok (.iadd, 1) := db_L_law_529.2.2.2.2.2.2.2.2.2.2.2.2.1
theorem dL_law_550 : decode cL_law 550 = .ok (.iaload, 1) := db_L_law_529.2.2.2.2.2.2.2.2.2.2.2.2.2.1
theorem dL_law_551 : decode cL_law 551 = .ok (.aload_n 0, 1) := db_L_law_529.2.2.2.2.2.2.2.2.2.2.2.2.2.2.1
theorem dL_law_552 : decode cL_law 552 = .ok (.iload 4, 2) := db_L_law_529.2.2.2.2.2.2.2.2.2.2.2.2.2.2.2
theorem db_L_law_554 : decode cL_law 554 = .ok (.iconst 2, 1) ∧ decode cL_law 555 = .ok (.iadd, 1) ∧ decode cL_law 556 = .ok (.iaload, 1) ∧ decode cL_law 557 = .ok (.aload_n 3, 1) ∧ decode cL_law 558 = .ok (.invokestatic 130, 3) ∧ decode cL_law 561 = .ok (.istore 5, 2) ∧ decode cL_law 563 = .ok (.aload_n 2, 1) ∧ decode cL_law 564 = .ok (.aload_n 0, 1) ∧ decode cL_law 565 = .ok (.iload 4, 2) ∧ decode cL_law 567 = .ok (.iconst 1, 1) ∧ decode cL_law 568 = .ok (.iadd, 1) ∧ decode cL_law 569 = .ok (.iaload, 1) ∧ decode cL_law 570 = .ok (.aload_n 0, 1) ∧ decode cL_law 571 = .ok (.iload 4, 2) ∧ decode cL_law 573 = .ok (.iconst 2, 1) ∧ decode cL_law 574 = .ok (.iadd, 1) := by decide +kernel
theorem dL_law_554 : decode cL_law 554 = .ok (.iconst 2, 1) := db_L_law_554.1
theorem dL_law_555 : decode cL_law 555 = .ok (.iadd, 1) := db_L_law_554.2.1
theorem dL_law_556 : decode cL_law 556 = .ok (.iaload, 1) := db_L_law_554.2.2.1
theorem dL_law_557 : decode cL_law 557 = .ok (.aload_n 3, 1) := db_L_law_554.2.2.2.1
theorem dL_law_558 : decode cL_law 558 = .ok (.invokestatic 130, 3) := db_L_law_554.2.2.2.2.1
theorem dL_law_561 : decode cL_law 561 = .ok (.istore 5, 2) := db_L_law_554.2.2.2.2.2.1
theorem dL_law_563 : decode cL_law 563 = .ok (.aload_n 2, 1) := db_L_law_554.2.2.2.2.2.2.1
theorem dL_law_564 : decode cL_law 564 = .ok (.aload_n 0, 1) := db_L_law_554.2.2.2.2.2.2.2.1
theorem dL_law_565 : decode cL_law 565 = .ok (.iload 4, 2) := db_L_law_554.2.2.2.2.2.2.2.2.1
theorem dL_law_567 : decode cL_law 567 = .ok (.iconst 1, 1) := db_L_law_554.2.2.2.2.2.2.2.2.2.1
theorem dL_law_568 : decode cL_law 568 = .ok (.iadd, 1) := db_L_law_554.2.2.2.2.2.2.2.2.2.2.1
theorem dL_law_569 : decode cL_law 569 = .ok (.iaload, 1) := db_L_law_554.2.2.2.2.2.2.2.2.2.2.2.1
theorem dL_law_570 : decode cL_law 570 = .ok (.aload_n 0, 1) := db_L_law_554.2.2.2.2.2.2.2.2.2.2.2.2.1
theorem dL_law_571 : decode cL_law 571 = .ok (.iload 4, 2) := db_L_law_554.2.2.2.2.2.2.2.2.2.2.2.2.2.1
theorem dL_law_573 : decode cL_law 573 = .ok (.iconst 2, 1) := db_L_law_554.2.2.2.2.2.2.2.2.2.2.2.2.2.2.1
theorem dL_law_574 : decode cL_law 574 = .ok (.iadd, 1) := db_L_law_554.2.2.2.2.2.2.2.2.2.2.2.2.2.2.2
theorem db_L_law_575 : decode cL_law 575 = .ok (.iaload, 1) ∧ decode cL_law 576 = .ok (.invokevirtual 132, 3) ∧ decode cL_law 579 = .ok (.istore 6, 2) ∧ decode cL_law 581 = .ok (.aload_n 2, 1) ∧ decode cL_law 582 = .ok (.invokevirtual 110, 3) ∧ decode cL_law 585 = .ok (.iload 5, 2) ∧ decode cL_law 587 = .ok (.if_icmp .eq 5, 3) ∧ decode cL_law 592 = .ok (.iload 5, 2) ∧ decode cL_law 594 = .ok (.ifCond .ne 15, 3) ∧ decode cL_law 597 = .ok (.aload_n 3, 1) ∧ decode cL_law 598 = .ok (.iconst 0, 1) ∧ decode cL_law 599 = .ok (.laload, 1) ∧ decode cL_law 600 = .ok (.iload 6, 2) ∧ decode cL_law 602 = .ok (.i2l, 1) ∧ decode cL_law 603 = .ok (.lcmp, 1) ∧ decode cL_law 604 = .ok (.ifCond .eq 5, 3) := by decide +kernel
theorem dL_law_575 : decode cL_law 575 = .ok (.iaload, 1) := db_L_law_575.1
theorem dL_law_576 : decode cL_law 576 = .ok (.invokevirtual 132, 3) := db_L_law_575.2.1
theorem dL_law_579 : decode cL_law 579 = .ok (.istore 6, 2) := db_L_law_575.2.2.1
theorem dL_law_581 : decode cL_law 581 = .ok (.aload_n 2, 1) := db_L_law_575.2.2.2.1
theorem dL_law_582 : decode cL_law 582 = .ok (.invokevirtual 110, 3) := db_L_law_575.2.2.2.2.1
theorem dL_law_585 : decode cL_law 585 = .ok (.iload 5, 2) := db_L_law_575.2.2.2.2.2.1
theorem dL_law_587 : decode cL_law 587 = .ok (.if_icmp .eq 5, 3) := db_L_law_575.2.2.2.2.2.2.1
theorem dL_law_592 : decode cL_law 592 = .ok (.iload 5, 2) := db_L_law_575.2.2.2.2.2.2.2.1
theorem dL_law_594 : decode cL_law 594 = .ok (.ifCond .ne 15, 3) := db_L_law_575.2.2.2.2.2.2.2.2.1
theorem dL_law_597 : decode cL_law 597 = .ok (.aload_n 3, 1) := db_L_law_575.2.2.2.2.2.2.2.2.2.1
theorem dL_law_598 : decode cL_law 598 = .ok (.iconst 0, 1) := db_L_law_575.2.2.2.2.2.2.2.2.2.2.1
theorem dL_law_599 : decode cL_law 599 = .ok (.laload, 1) := db_L_law_575.2.2.2.2.2.2.2.2.2.2.2.1
theorem dL_law_600 : decode cL_law 600 = .ok (.iload 6, 2) := db_L_law_575.2.2.2.2.2.2.2.2.2.2.2.2.1
theorem dL_law_602 : decode cL_law 602 = .ok (.i2l, 1) := db_L_law_575.2.2.2.2.2.2.2.2.2.2.2.2.2.1
theorem dL_law_603 : decode cL_law 603 = .ok (.lcmp, 1) := db_L_law_575.2.2.2.2.2.2.2.2.2.2.2.2.2.2.1
theorem dL_law_604 : decode cL_law 604 = .ok (.ifCond .eq 5, 3) := db_L_law_575.2.2.2.2.2.2.2.2.2.2.2.2.2.2.2
theorem db_L_law_609 : decode cL_law 609 = .ok (.goto 1502, 3) ∧ decode cL_law 612 = .ok (.aload_n 1, 1) ∧ decode cL_law 613 = .ok (.aload_n 0, 1) ∧ decode cL_law 614 = .ok (.iload 4, 2) ∧ decode cL_law 616 = .ok (.iconst 1, 1) ∧ decode cL_law 617 = .ok (.iadd, 1) ∧ decode cL_law 618 = .ok (.iaload, 1) ∧ decode cL_law 619 = .ok (.aload_n 0, 1) ∧ decode cL_law 620 = .ok (.iload 4, 2) ∧ decode cL_law 622 = .ok (.iconst 2, 1) ∧ decode cL_law 623 = .ok (.iadd, 1) ∧ decode cL_law 624 = .ok (.iaload, 1) ∧ decode cL_law 625 = .ok (.aload_n 3, 1) ∧ decode cL_law 626 = .ok (.invokestatic 133, 3) ∧ decode cL_law 629 = .ok (.istore 5, 2) ∧ decode cL_law 631 = .ok (.aload_n 2, 1) := by decide +kernel
theorem dL_law_609 : decode cL_law 609 = .ok (.goto 1502, 3) := db_L_law_609.1
theorem dL_law_612 : decode cL_law 612 = .ok (.aload_n 1, 1) := db_L_law_609.2.1
theorem dL_law_613 : decode cL_law 613 = .ok (.aload_n 0, 1) := db_L_law_609.2.2.1
theorem dL_law_614 : decode cL_law 614 = .ok (.iload 4, 2) := db_L_law_609.2.2.2.1
theorem dL_law_616 : decode cL_law 616 = .ok (.iconst 1, 1) := db_L_law_609.2.2.2.2.1
theorem dL_law_617 : decode cL_law 617 = .ok (.iadd, 1) := db_L_law_609.2.2.2.2.2.1
theorem dL_law_618 : decode cL_law 618 = .ok (.iaload, 1) := db_L_law_609.2.2.2.2.2.2.1
theorem dL_law_619 : decode cL_law 619 = .ok (.aload_n 0, 1) := db_L_law_609.2.2.2.2.2.2.2.1
theorem dL_law_620 : decode cL_law 620 = .ok (.iload 4, 2) := db_L_law_609.2.2.2.2.2.2.2.2.1
theorem dL_law_622 : decode cL_law 622 = .ok (.iconst 2, 1) := db_L_law_609.2.2.2.2.2.2.2.2.2.1
theorem dL_law_623 : decode cL_law 623 = .ok (.iadd, 1) := db_L_law_609.2.2.2.2.2.2.2.2.2.2.1
theorem dL_law_624 : decode cL_law 624 = .ok (.iaload, 1) := db_L_law_609.2.2.2.2.2.2.2.2.2.2.2.1
theorem dL_law_625 : decode cL_law 625 = .ok (.aload_n 3, 1) := db_L_law_609.2.2.2.2.2.2.2.2.2.2.2.2.1
theorem dL_law_626 : decode cL_law 626 = .ok (.invokestatic 133, 3) := db_L_law_609.2.2.2.2.2.2.2.2.2.2.2.2.2.1
theorem dL_law_629 : decode cL_law 629 = .ok (.istore 5, 2) := db_L_law_609.2.2.2.2.2.2.2.2.2.2.2.2.2.2.1
theorem dL_law_631 : decode cL_law 631 = .ok (.aload_n 2, 1) := db_L_law_609.2.2.2.2.2.2.2.2.2.2.2.2.2.2.2
theorem db_L_law_632 : decode cL_law 632 = .ok (.aload_n 0, 1) ∧ decode cL_law 633 = .ok (.iload 4, 2) ∧ decode cL_law 635 = .ok (.iconst 1, 1) ∧ decode cL_law 636 = .ok (.iadd, 1) ∧ decode cL_law 637 = .ok (.iaload, 1) ∧ decode cL_law 638 = .ok (.aload_n 0, 1) ∧ decode cL_law 639 = .ok (.iload 4, 2) ∧ decode cL_law 641 = .ok (.iconst 2, 1) ∧ decode cL_law 642 = .ok (.iadd, 1) ∧ decode cL_law 643 = .ok (.iaload, 1) ∧ decode cL_law 644 = .ok (.invokevirtual 135, 3) ∧ decode cL_law 647 = .ok (.istore 6, 2) ∧ decode cL_law 649 = .ok (.aload_n 2, 1) ∧ decode cL_law 650 = .ok (.invokevirtual 110, 3) ∧ decode cL_law 653 = .ok (.iload 5, 2) ∧ decode cL_law 655 = .ok (.if_icmp .eq 5, 3) := by decide +kernel
theorem dL_law_632 : decode cL_law 632 = .ok (.aload_n 0, 1) := db_L_law_632.1
theorem dL_law_633 : decode cL_law 633 = .ok (.iload 4, 2) := db_L_law_632.2.1
theorem dL_law_635 : decode cL_law 635 = .ok (.iconst 1, 1) := db_L_law_632.2.2.1
theorem dL_law_636 : decode cL_law 636 = .ok (.iadd, 1) := db_L_law_632.2.2.2.1
theorem dL_law_637 : decode cL_law 637 = .ok (.iaload, 1) := db_L_law_632.2.2.2.2.1
theorem dL_law_638 : decode cL_law 638 = .ok (.aload_n 0, 1) := db_L_law_632.2.2.2.2.2.1
theorem dL_law_639 : decode cL_law 639 = .ok (.iload 4, 2) := db_L_law_632.2.2.2.2.2.2.1
theorem dL_law_641 : decode cL_law 641 = .ok (.iconst 2, 1) := db_L_law_632.2.2.2.2.2.2.2.1
theorem dL_law_642 : decode cL_law 642 = .ok (.iadd, 1) := db_L_law_632.2.2.2.2.2.2.2.2.1
theorem dL_law_643 : decode cL_law 643 = .ok (.iaload, 1) := db_L_law_632.2.2.2.2.2.2.2.2.2.1
theorem dL_law_644 : decode cL_law 644 = .ok (.invokevirtual 135, 3) := db_L_law_632.2.2.2.2.2.2.2.2.2.2.1
theorem dL_law_647 : decode cL_law 647 = .ok (.istore 6, 2) := db_L_law_632.2.2.2.2.2.2.2.2.2.2.2.1
theorem dL_law_649 : decode cL_law 649 = .ok (.aload_n 2, 1) := db_L_law_632.2.2.2.2.2.2.2.2.2.2.2.2.1
theorem dL_law_650 : decode cL_law 650 = .ok (.invokevirtual 110, 3) := db_L_law_632.2.2.2.2.2.2.2.2.2.2.2.2.2.1
theorem dL_law_653 : decode cL_law 653 = .ok (.iload 5, 2) := db_L_law_632.2.2.2.2.2.2.2.2.2.2.2.2.2.2.1
theorem dL_law_655 : decode cL_law 655 = .ok (.if_icmp .eq 5, 3) := db_L_law_632.2.2.2.2.2.2.2.2.2.2.2.2.2.2.2
theorem db_L_law_660 : decode cL_law 660 = .ok (.iload 5, 2) ∧ decode cL_law 662 = .ok (.ifCond .ne 15, 3) ∧ decode cL_law 677 = .ok (.goto 1434, 3) ∧ decode cL_law 680 = .ok (.aload_n 1, 1) ∧ decode cL_law 681 = .ok (.aload_n 0, 1) ∧ decode cL_law 682 = .ok (.iload 4, 2) ∧ decode cL_law 684 = .ok (.iconst 1, 1) ∧ decode cL_law 685 = .ok (.iadd, 1) ∧ decode cL_law 686 = .ok (.iaload, 1) ∧ decode cL_law 687 = .ok (.aload_n 0, 1) ∧ decode cL_law 688 = .ok (.iload 4, 2) ∧ decode cL_law 690 = .ok (.iconst 2, 1) ∧ decode cL_law 691 = .ok (.iadd, 1) ∧ decode cL_law 692 = .ok (.iaload, 1) ∧ decode cL_law 693 = .ok (.aload_n 0, 1) ∧ decode cL_law 694 = .ok (.iload 4, 2) := by decide +kernel
theorem dL_law_660 : decode cL_law 660 = .ok (.iload 5, 2) := db_L_law_660.1
theorem dL_law_662 : decode cL_law 662 = .ok (.ifCond .ne 15, 3) := db_L_law_660.2.1
theorem dL_law_677 : decode cL_law 677 = .ok (.goto 1434, 3) := db_L_law_660.2.2.1
theorem dL_law_680 : decode cL_law 680 = .ok (.aload_n 1, 1) := db_L_law_660.2.2.2.1
theorem dL_law_681 : decode cL_law 681 = .ok (.aload_n 0, 1) := db_L_law_660.2.2.2.2.1
theorem dL_law_682 : decode cL_law 682 = .ok (.iload 4, 2) := db_L_law_660.2.2.2.2.2.1
theorem dL_law_684 : decode cL_law 684 = .ok (.iconst 1, 1) := db_L_law_660.2.2.2.2.2.2.1
theorem dL_law_685 : decode cL_law 685 = .ok (.iadd, 1) := db_L_law_660.2.2.2.2.2.2.2.1
theorem dL_law_686 : decode cL_law 686 = .ok (.iaload, 1) := db_L_law_660.2.2.2.2.2.2.2.2.1
theorem dL_law_687 : decode cL_law 687 = .ok (.aload_n 0, 1) := db_L_law_660.2.2.2.2.2.2.2.2.2.1
theorem dL_law_688 : decode cL_law 688 = .ok (.iload 4, 2) := db_L_law_660.2.2.2.2.2.2.2.2.2.2.1
theorem dL_law_690 : decode cL_law 690 = .ok (.iconst 2, 1) := db_L_law_660.2.2.2.2.2.2.2.2.2.2.2.1
theorem dL_law_691 : decode cL_law 691 = .ok (.iadd, 1) := db_L_law_660.2.2.2.2.2.2.2.2.2.2.2.2.1
theorem dL_law_692 : decode cL_law 692 = .ok (.iaload, 1) := db_L_law_660.2.2.2.2.2.2.2.2.2.2.2.2.2.1
theorem dL_law_693 : decode cL_law 693 = .ok (.aload_n 0, 1) := db_L_law_660.2.2.2.2.2.2.2.2.2.2.2.2.2.2.1
theorem dL_law_694 : decode cL_law 694 = .ok (.iload 4, 2) := db_L_law_660.2.2.2.2.2.2.2.2.2.2.2.2.2.2.2
theorem db_L_law_696 : decode cL_law 696 = .ok (.iconst 3, 1) ∧ decode cL_law 697 = .ok (.iadd, 1) ∧ decode cL_law 698 = .ok (.iaload, 1) ∧ decode cL_law 699 = .ok (.aload_n 3, 1) ∧ decode cL_law 700 = .ok (.invokestatic 136, 3) ∧ decode cL_law 703 = .ok (.istore 5, 2) ∧ decode cL_law 705 = .ok (.aload_n 2, 1) ∧ decode cL_law 706 = .ok (.aload_n 0, 1) ∧ decode cL_law 707 = .ok (.iload 4, 2) ∧ decode cL_law 709 = .ok (.iconst 1, 1) ∧ decode cL_law 710 = .ok (.iadd, 1) ∧ decode cL_law 711 = .ok (.iaload, 1) ∧ decode cL_law 712 = .ok (.aload_n 0, 1) ∧ decode cL_law 713 = .ok (.iload 4, 2) ∧ decode cL_law 715 = .ok (.iconst 2, 1) ∧ decode cL_law 716 = .ok (.iadd, 1) := by decide +kernel
theorem dL_law_696 : decode cL_law 696 = .ok (.iconst 3, 1) := db_L_law_696.1
theorem dL_law_697 : decode cL_law 697 = .ok (.iadd, 1) := db_L_law_696.2.1
theorem dL_law_698 : decode cL_law 698 = .ok (.iaload, 1) := db_L_law_696.2.2.1
theorem dL_law_699 : decode cL_law 699 = .ok (.aload_n 3, 1) := db_L_law_696.2.2.2.1
theorem dL_law_700 : decode cL_law 700 = .ok (.invokestatic 136, 3) := db_L_law_696.2.2.2.2.1
theorem dL_law_703 : decode cL_law 703 = .ok (.istore 5, 2) := db_L_law_696.2.2.2.2.2.1
theorem dL_law_705 : decode cL_law 705 = .ok (.aload_n 2, 1) := db_L_law_696.2.2.2.2.2.2.1
theorem dL_law_706 : decode cL_law 706 = .ok (.aload_n 0, 1) := db_L_law_696.2.2.2.2.2.2.2.1
theorem dL_law_707 : decode cL_law 707 = .ok (.iload 4, 2) := db_L_law_696.2.2.2.2.2.2.2.2.1
theorem dL_law_709 : decode cL_law 709 = .ok (.iconst 1, 1) := db_L_law_696.2.2.2.2.2.2.2.2.2.1
theorem dL_law_710 : decode cL_law 710 = .ok (.iadd, 1) := db_L_law_696.2.2.2.2.2.2.2.2.2.2.1
theorem dL_law_711 : decode cL_law 711 = .ok (.iaload, 1) := db_L_law_696.2.2.2.2.2.2.2.2.2.2.2.1
theorem dL_law_712 : decode cL_law 712 = .ok (.aload_n 0, 1) := db_L_law_696.2.2.2.2.2.2.2.2.2.2.2.2.1
theorem dL_law_713 : decode cL_law 713 = .ok (.iload 4, 2) := db_L_law_696.2.2.2.2.2.2.2.2.2.2.2.2.2.1
theorem dL_law_715 : decode cL_law 715 = .ok (.iconst 2, 1) := db_L_law_696.2.2.2.2.2.2.2.2.2.2.2.2.2.2.1
theorem dL_law_716 : decode cL_law 716 = .ok (.iadd, 1) := db_L_law_696.2.2.2.2.2.2.2.2.2.2.2.2.2.2.2
theorem db_L_law_717 : decode cL_law 717 = .ok (.iaload, 1) ∧ decode cL_law 718 = .ok (.aload_n 0, 1) ∧ decode cL_law 719 = .ok (.iload 4, 2) ∧ decode cL_law 721 = .ok (.iconst 3, 1) ∧ decode cL_law 722 = .ok (.iadd, 1) ∧ decode cL_law 723 = .ok (.iaload, 1) ∧ decode cL_law 724 = .ok (.invokevirtual 138, 3) ∧ decode cL_law 727 = .ok (.istore 6, 2) ∧ decode cL_law 729 = .ok (.aload_n 2, 1) ∧ decode cL_law 730 = .ok (.invokevirtual 110, 3) ∧ decode cL_law 733 = .ok (.iload 5, 2) ∧ decode cL_law 735 = .ok (.if_icmp .eq 5, 3) ∧ decode cL_law 740 = .ok (.iload 5, 2) ∧ decode cL_law 742 = .ok (.ifCond .ne 15, 3) ∧ decode cL_law 757 = .ok (.goto 1354, 3) ∧ decode cL_law 760 = .ok (.aload_n 1, 1) := by decide +kernel
theorem dL_law_717 : decode cL_law 717 = .ok (.iaload, 1) := db_L_law_717.1
theorem dL_law_718 : decode cL_law 718 = .ok (.aload_n 0, 1) := db_L_law_717.2.1
theorem dL_law_719 : decode cL_law 719 = .ok (.iload 4, 2) := db_L_law_717.2.2.1
theorem dL_law_721 : decode cL_law 721 = .ok (.iconst 3, 1) := db_L_law_717.2.2.2.1
theorem dL_law_722 : decode cL_law 722 = .ok (.iadd, 1) := db_L_law_717.2.2.2.2.1
theorem dL_law_723 : decode cL_law 723 = .ok (.iaload, 1) := db_L_law_717.2.2.2.2.2.1
theorem dL_law_724 : decode cL_law 724 = .ok (.invokevirtual 138, 3) := db_L_law_717.2.2.2.2.2.2.1
theorem dL_law_727 : decode cL_law 727 = .ok (.istore 6, 2) := db_L_law_717.2.2.2.2.2.2.2.1
theorem dL_law_729 : decode cL_law 729 = .ok (.aload_n 2, 1) := db_L_law_717.2.2.2.2.2.2.2.2.1
theorem dL_law_730 : decode cL_law 730 = .ok (.invokevirtual 110, 3) := db_L_law_717.2.2.2.2.2.2.2.2.2.1
theorem dL_law_733 : decode cL_law 733 = .ok (.iload 5, 2) := db_L_law_717.2.2.2.2.2.2.2.2.2.2.1
theorem dL_law_735 : decode cL_law 735 = .ok (.if_icmp .eq 5, 3) := db_L_law_717.2.2.2.2.2.2.2.2.2.2.2.1
theorem dL_law_740 : decode cL_law 740 = .ok (.iload 5, 2) := db_L_law_717.2.2.2.2.2.2.2.2.2.2.2.2.1
theorem dL_law_742 : decode cL_law 742 = .ok (.ifCond .ne 15, 3) := db_L_law_717.2.2.2.2.2.2.2.2.2.2.2.2.2.1
theorem dL_law_757 : decode cL_law 757 = .ok (.goto 1354, 3) := db_L_law_717.2.2.2.2.2.2.2.2.2.2.2.2.2.2.1
theorem dL_law_760 : decode cL_law 760 = .ok (.aload_n 1, 1) := db_L_law_717.2.2.2.2.2.2.2.2.2.2.2.2.2.2.2
theorem db_L_law_761 : decode cL_law 761 = .ok (.aload_n 0, 1) ∧ decode cL_law 762 = .ok (.iload 4, 2) ∧ decode cL_law 764 = .ok (.iconst 1, 1) ∧ decode cL_law 765 = .ok (.iadd, 1) ∧ decode cL_law 766 = .ok (.iaload, 1) ∧ decode cL_law 767 = .ok (.aload_n 0, 1) ∧ decode cL_law 768 = .ok (.iload 4, 2) ∧ decode cL_law 770 = .ok (.iconst 2, 1) ∧ decode cL_law 771 = .ok (.iadd, 1) ∧ decode cL_law 772 = .ok (.iaload, 1) ∧ decode cL_law 773 = .ok (.aload_n 3, 1) ∧ decode cL_law 774 = .ok (.invokestatic 139, 3) ∧ decode cL_law 777 = .ok (.istore 5, 2) ∧ decode cL_law 779 = .ok (.aload_n 2, 1) ∧ decode cL_law 780 = .ok (.aload_n 0, 1) ∧ decode cL_law 781 = .ok (.iload 4, 2) := by decide +kernel
theorem dL_law_761 : decode cL_law 761 = .ok (.aload_n 0, 1) := db_L_law_761.1
theorem dL_law_762 : decode cL_law 762 = .ok (.iload 4, 2) := db_L_law_761.2.1
theorem dL_law_764 : decode cL_law 764 = .ok (.iconst 1, 1) := db_L_law_761.2.2.1
theorem dL_law_765 : decode cL_law 765 = .ok (.iadd, 1) := db_L_law_761.2.2.2.1
theorem dL_law_766 : decode cL_law 766 = .ok (.iaload, 1) := db_L_law_761.2.2.2.2.1
theorem dL_law_767 : decode cL_law 767 = .ok (.aload_n 0, 1) := db_L_law_761.2.2.2.2.2.1
theorem dL_law_768 : decode cL_law 768 = .ok (.iload 4, 2) := db_L_law_761.2.2.2.2.2.2.1
theorem dL_law_770 : decode cL_law 770 = .ok (.iconst 2, 1) := db_L_law_761.2.2.2.2.2.2.2.1
theorem dL_law_771 : decode cL_law 771 = .ok (.iadd, 1) := db_L_law_761.2.2.2.2.2.2.2.2.1
theorem dL_law_772 : decode cL_law 772 = .ok (.iaload, 1) := db_L_law_761.2.2.2.2.2.2.2.2.2.1
theorem dL_law_773 : decode cL_law 773 = .ok (.aload_n 3, 1) := db_L_law_761.2.2.2.2.2.2.2.2.2.2.1
theorem dL_law_774 : decode cL_law 774 = .ok (.invokestatic 139, 3) := db_L_law_761.2.2.2.2.2.2.2.2.2.2.2.1
theorem dL_law_777 : decode cL_law 777 = .ok (.istore 5, 2) := db_L_law_761.2.2.2.2.2.2.2.2.2.2.2.2.1
theorem dL_law_779 : decode cL_law 779 = .ok (.aload_n 2, 1) := db_L_law_761.2.2.2.2.2.2.2.2.2.2.2.2.2.1
theorem dL_law_780 : decode cL_law 780 = .ok (.aload_n 0, 1) := db_L_law_761.2.2.2.2.2.2.2.2.2.2.2.2.2.2.1
theorem dL_law_781 : decode cL_law 781 = .ok (.iload 4, 2) := db_L_law_761.2.2.2.2.2.2.2.2.2.2.2.2.2.2.2
theorem db_L_law_783 : decode cL_law 783 = .ok (.iconst 1, 1) ∧ decode cL_law 784 = .ok (.iadd, 1) ∧ decode cL_law 785 = .ok (.iaload, 1) ∧ decode cL_law 786 = .ok (.aload_n 0, 1) ∧ decode cL_law 787 = .ok (.iload 4, 2) ∧ decode cL_law 789 = .ok (.iconst 2, 1) ∧ decode cL_law 790 = .ok (.iadd, 1) ∧ decode cL_law 791 = .ok (.iaload, 1) ∧ decode cL_law 792 = .ok (.invokevirtual 141, 3) ∧ decode cL_law 795 = .ok (.istore 6, 2) ∧ decode cL_law 797 = .ok (.aload_n 2, 1) ∧ decode cL_law 798 = .ok (.invokevirtual 110, 3) ∧ decode cL_law 801 = .ok (.iload 5, 2) ∧ decode cL_law 803 = .ok (.if_icmp .eq 5, 3) ∧ decode cL_law 808 = .ok (.iload 5, 2) ∧ decode cL_law 810 = .ok (.ifCond .ne 15, 3) := by decide +kernel
theorem dL_law_783 : decode cL_law 783 = .ok (.iconst 1, 1) := db_L_law_783.1
theorem dL_law_784 : decode cL_law 784 = .ok (.iadd, 1) := db_L_law_783.2.1
theorem dL_law_785 : decode cL_law 785 = .ok (.iaload, 1) := db_L_law_783.2.2.1
theorem dL_law_786 : decode cL_law 786 = .ok (.aload_n 0, 1) := db_L_law_783.2.2.2.1
theorem dL_law_787 : decode cL_law 787 = .ok (.iload 4, 2) := db_L_law_783.2.2.2.2.1
theorem dL_law_789 : decode cL_law 789 = .ok (.iconst 2, 1) := db_L_law_783.2.2.2.2.2.1
theorem dL_law_790 : decode cL_law 790 = .ok (.iadd, 1) := db_L_law_783.2.2.2.2.2.2.1
theorem dL_law_791 : decode cL_law 791 = .ok (.iaload, 1) := db_L_law_783.2.2.2.2.2.2.2.1
theorem dL_law_792 : decode cL_law 792 = .ok (.invokevirtual 141, 3) := db_L_law_783.2.2.2.2.2.2.2.2.1
theorem dL_law_795 : decode cL_law 795 = .ok (.istore 6, 2) := db_L_law_783.2.2.2.2.2.2.2.2.2.1
theorem dL_law_797 : decode cL_law 797 = .ok (.aload_n 2, 1) := db_L_law_783.2.2.2.2.2.2.2.2.2.2.1
theorem dL_law_798 : decode cL_law 798 = .ok (.invokevirtual 110, 3) := db_L_law_783.2.2.2.2.2.2.2.2.2.2.2.1
theorem dL_law_801 : decode cL_law 801 = .ok (.iload 5, 2) := db_L_law_783.2.2.2.2.2.2.2.2.2.2.2.2.1
theorem dL_law_803 : decode cL_law 803 = .ok (.if_icmp .eq 5, 3) := db_L_law_783.2.2.2.2.2.2.2.2.2.2.2.2.2.1
theorem dL_law_808 : decode cL_law 808 = .ok (.iload 5, 2) := db_L_law_783.2.2.2.2.2.2.2.2.2.2.2.2.2.2.1
theorem dL_law_810 : decode cL_law 810 = .ok (.ifCond .ne 15, 3) := db_L_law_783.2.2.2.2.2.2.2.2.2.2.2.2.2.2.2
theorem db_L_law_813 : decode cL_law 813 = .ok (.aload_n 3, 1) ∧ decode cL_law 814 = .ok (.iconst 0, 1) ∧ decode cL_law 815 = .ok (.laload, 1) ∧ decode cL_law 816 = .ok (.iload 6, 2) ∧ decode cL_law 818 = .ok (.i2l, 1) ∧ decode cL_law 819 = .ok (.lcmp, 1) ∧ decode cL_law 820 = .ok (.ifCond .eq 5, 3) ∧ decode cL_law 825 = .ok (.goto 1286, 3) ∧ decode cL_law 828 = .ok (.aload_n 1, 1) ∧ decode cL_law 829 = .ok (.aload_n 0, 1) ∧ decode cL_law 830 = .ok (.iload 4, 2) ∧ decode cL_law 832 = .ok (.iconst 1, 1) ∧ decode cL_law 833 = .ok (.iadd, 1) ∧ decode cL_law 834 = .ok (.iaload, 1) ∧ decode cL_law 835 = .ok (.aload_n 0, 1) ∧ decode cL_law 836 = .ok (.iload 4, 2) := by decide +kernel
theorem dL_law_813 : decode cL_law 813 = .ok (.aload_n 3, 1) := db_L_law_813.1
theorem dL_law_814 : decode cL_law 814 = .ok (.iconst 0, 1) := db_L_law_813.2.1
theorem dL_law_815 : decode cL_law 815 = .ok (.laload, 1) := db_L_law_813.2.2.1
theorem dL_law_816 : decode cL_law 816 = .ok (.iload 6, 2) := db_L_law_813.2.2.2.1
theorem dL_law_818 : decode cL_law 818 = .ok (.i2l, 1) := db_L_law_813.2.2.2.2.1
theorem dL_law_819 : decode cL_law 819 = .ok (.lcmp, 1) := db_L_law_813.2.2.2.2.2.1
theorem dL_law_820 : decode cL_law 820 = .ok (.ifCond .eq 5, 3) := db_L_law_813.2.2.2.2.2.2.1
theorem dL_law_825 : decode cL_law 825 = .ok (.goto 1286, 3) := db_L_law_813.2.2.2.2.2.2.2.1
theorem dL_law_828 : decode cL_law 828 = .ok (.aload_n 1, 1) := db_L_law_813.2.2.2.2.2.2.2.2.1
theorem dL_law_829 : decode cL_law 829 = .ok (.aload_n 0, 1) := db_L_law_813.2.2.2.2.2.2.2.2.2.1
theorem dL_law_830 : decode cL_law 830 = .ok (.iload 4, 2) := db_L_law_813.2.2.2.2.2.2.2.2.2.2.1
theorem dL_law_832 : decode cL_law 832 = .ok (.iconst 1, 1) := db_L_law_813.2.2.2.2.2.2.2.2.2.2.2.1
theorem dL_law_833 : decode cL_law 833 = .ok (.iadd, 1) := db_L_law_813.2.2.2.2.2.2.2.2.2.2.2.2.1
theorem dL_law_834 : decode cL_law 834 = .ok (.iaload, 1) := db_L_law_813.2.2.2.2.2.2.2.2.2.2.2.2.2.1
theorem dL_law_835 : decode cL_law 835 = .ok (.aload_n 0, 1) := db_L_law_813.2.2.2.2.2.2.2.2.2.2.2.2.2.2.1
theorem dL_law_836 : decode cL_law 836 = .ok (.iload 4, 2) := db_L_law_813.2.2.2.2.2.2.2.2.2.2.2.2.2.2.2
theorem db_L_law_838 : decode cL_law 838 = .ok (.iconst 2, 1) ∧ decode cL_law 839 = .ok (.iadd, 1) ∧ decode cL_law 840 = .ok (.iaload, 1) ∧ decode cL_law 841 = .ok (.aload_n 0, 1) ∧ decode cL_law 842 = .ok (.iload 4, 2) ∧ decode cL_law 844 = .ok (.iconst 3, 1) ∧ decode cL_law 845 = .ok (.iadd, 1) ∧ decode cL_law 846 = .ok (.iaload, 1) ∧ decode cL_law 847 = .ok (.aload_n 0, 1) ∧ decode cL_law 848 = .ok (.iload 4, 2) ∧ decode cL_law 850 = .ok (.iconst 4, 1) ∧ decode cL_law 851 = .ok (.iadd, 1) ∧ decode cL_law 852 = .ok (.iaload, 1) ∧ decode cL_law 853 = .ok (.aload_n 3, 1) ∧ decode cL_law 854 = .ok (.invokestatic 142, 3) ∧ decode cL_law 857 = .ok (.istore 5, 2) := by decide +kernel
theorem dL_law_838 : decode cL_law 838 = .ok (.iconst 2, 1) := db_L_law_838.1
theorem dL_law_839 : decode cL_law 839 = .ok (.iadd, 1) := db_L_law_838.2.1
theorem dL_law_840 : decode cL_law 840 = .ok (.iaload, 1) := db_L_law_838.2.2.1
theorem dL_law_841 : decode cL_law 841 = .ok (.aload_n 0, 1) := db_L_law_838.2.2.2.1
theorem dL_law_842 : decode cL_law 842 = .ok (.iload 4, 2) := db_L_law_838.2.2.2.2.1
theorem dL_law_844 : decode cL_law 844 = .ok (.iconst 3, 1) := db_L_law_838.2.2.2.2.2.1
theorem dL_law_845 : decode cL_law 845 = .ok (.iadd, 1) := db_L_law_838.2.2.2.2.2.2.1
theorem dL_law_846 : decode cL_law 846 = .ok (.iaload, 1) := db_L_law_838.2.2.2.2.2.2.2.1
theorem dL_law_847 : decode cL_law 847 = .ok (.aload_n 0, 1) := db_L_law_838.2.2.2.2.2.2.2.2.1
theorem dL_law_848 : decode cL_law 848 = .ok (.iload 4, 2) := db_L_law_838.2.2.2.2.2.2.2.2.2.1
theorem dL_law_850 : decode cL_law 850 = .ok (.iconst 4, 1) := db_L_law_838.2.2.2.2.2.2.2.2.2.2.1
theorem dL_law_851 : decode cL_law 851 = .ok (.iadd, 1) := db_L_law_838.2.2.2.2.2.2.2.2.2.2.2.1
theorem dL_law_852 : decode cL_law 852 = .ok (.iaload, 1) := db_L_law_838.2.2.2.2.2.2.2.2.2.2.2.2.1
theorem dL_law_853 : decode cL_law 853 = .ok (.aload_n 3, 1) := db_L_law_838.2.2.2.2.2.2.2.2.2.2.2.2.2.1
theorem dL_law_854 : decode cL_law 854 = .ok (.invokestatic 142, 3) := db_L_law_838.2.2.2.2.2.2.2.2.2.2.2.2.2.2.1
theorem dL_law_857 : decode cL_law 857 = .ok (.istore 5, 2) := db_L_law_838.2.2.2.2.2.2.2.2.2.2.2.2.2.2.2
theorem db_L_law_859 : decode cL_law 859 = .ok (.aload_n 2, 1) ∧ decode cL_law 860 = .ok (.aload_n 0, 1) ∧ decode cL_law 861 = .ok (.iload 4, 2) ∧ decode cL_law 863 = .ok (.iconst 1, 1) ∧ decode cL_law 864 = .ok (.iadd, 1) ∧ decode cL_law 865 = .ok (.iaload, 1) ∧ decode cL_law 866 = .ok (.aload_n 0, 1) ∧ decode cL_law 867 = .ok (.iload 4, 2) ∧ decode cL_law 869 = .ok (.iconst 2, 1) ∧ decode cL_law 870 = .ok (.iadd, 1) ∧ decode cL_law 871 = .ok (.iaload, 1) ∧ decode cL_law 872 = .ok (.aload_n 0, 1) ∧ decode cL_law 873 = .ok (.iload 4, 2) ∧ decode cL_law 875 = .ok (.iconst 3, 1) ∧ decode cL_law 876 = .ok (.iadd, 1) ∧ decode cL_law 877 = .ok (.iaload, 1) := by decide +kernel
theorem dL_law_859 : decode cL_law 859 = .ok (.aload_n 2, 1) := db_L_law_859.1
theorem dL_law_860 : decode cL_law 860 = .ok (.aload_n 0, 1) := db_L_law_859.2.1
theorem dL_law_861 : decode cL_law 861 = .ok (.iload 4, 2) := db_L_law_859.2.2.1
theorem dL_law_863 : decode cL_law 863 = .ok (.iconst 1, 1) := db_L_law_859.2.2.2.1
theorem dL_law_864 : decode cL_law 864 = .ok (.iadd, 1) := db_L_law_859.2.2.2.2.1
theorem dL_law_865 : decode cL_law 865 = .ok (.iaload, 1) := db_L_law_859.2.2.2.2.2.1
theorem dL_law_866 : decode cL_law 866 = .ok (.aload_n 0, 1) := db_L_law_859.2.2.2.2.2.2.1
theorem dL_law_867 : decode cL_law 867 = .ok (.iload 4, 2) := db_L_law_859.2.2.2.2.2.2.2.1
theorem dL_law_869 : decode cL_law 869 = .ok (.iconst 2, 1) := db_L_law_859.2.2.2.2.2.2.2.2.1
theorem dL_law_870 : decode cL_law 870 = .ok (.iadd, 1) := db_L_law_859.2.2.2.2.2.2.2.2.2.1
theorem dL_law_871 : decode cL_law 871 = .ok (.iaload, 1) := db_L_law_859.2.2.2.2.2.2.2.2.2.2.1
theorem dL_law_872 : decode cL_law 872 = .ok (.aload_n 0, 1) := db_L_law_859.2.2.2.2.2.2.2.2.2.2.2.1
theorem dL_law_873 : decode cL_law 873 = .ok (.iload 4, 2) := db_L_law_859.2.2.2.2.2.2.2.2.2.2.2.2.1
theorem dL_law_875 : decode cL_law 875 = .ok (.iconst 3, 1) := db_L_law_859.2.2.2.2.2.2.2.2.2.2.2.2.2.1
theorem dL_law_876 : decode cL_law 876 = .ok (.iadd, 1) := db_L_law_859.2.2.2.2.2.2.2.2.2.2.2.2.2.2.1
theorem dL_law_877 : decode cL_law 877 = .ok (.iaload, 1) := db_L_law_859.2.2.2.2.2.2.2.2.2.2.2.2.2.2.2
theorem db_L_law_878 : decode cL_law 878 = .ok (.aload_n 0, 1) ∧ decode cL_law 879 = .ok (.iload 4, 2) ∧ decode cL_law 881 = .ok (.iconst 4, 1) ∧ decode cL_law 882 = .ok (.iadd, 1) ∧ decode cL_law 883 = .ok (.iaload, 1) ∧ decode cL_law 884 = .ok (.invokevirtual 145, 3) ∧ decode cL_law 887 = .ok (.istore 6, 2) ∧ decode cL_law 889 = .ok (.aload_n 2, 1) ∧ decode cL_law 890 = .ok (.invokevirtual 110, 3) ∧ decode cL_law 893 = .ok (.iload 5, 2) ∧ decode cL_law 895 = .ok (.if_icmp .eq 5, 3) ∧ decode cL_law 900 = .ok (.iload 5, 2) ∧ decode cL_law 902 = .ok (.ifCond .ne 15, 3) ∧ decode cL_law 917 = .ok (.goto 1194, 3) ∧ decode cL_law 920 = .ok (.aload_n 1, 1) ∧ decode cL_law 921 = .ok (.aload_n 0, 1) := by decide +kernel
theorem dL_law_878 : decode cL_law 878 = .ok (.aload_n 0, 1) := db_L_law_878.1
theorem dL_law_879 : decode cL_law 879 = .ok (.iload 4, 2) := db_L_law_878.2.1
theorem dL_law_881 : decode cL_law 881 = .ok (.iconst 4, 1) := db_L_law_878.2.2.1
theorem dL_law_882 : decode cL_law 882 = .ok (.iadd, 1) := db_L_law_878.2.2.2.1
theorem dL_law_883 : decode cL_law 883 = .ok (.iaload, 1) := db_L_law_878.2.2.2.2.1
theorem dL_law_884 : decode cL_law 884 = .ok (.invokevirtual 145, 3) := db_L_law_878.2.2.2.2.2.1
theorem dL_law_887 : decode cL_law 887 = .ok (.istore 6, 2) := db_L_law_878.2.2.2.2.2.2.1
theorem dL_law_889 : decode cL_law 889 = .ok (.aload_n 2, 1) := db_L_law_878.2.2.2.2.2.2.2.1
theorem dL_law_890 : decode cL_law 890 = .ok (.invokevirtual 110, 3) := db_L_law_878.2.2.2.2.2.2.2.2.1
theorem dL_law_893 : decode cL_law 893 = .ok (.iload 5, 2) := db_L_law_878.2.2.2.2.2.2.2.2.2.1
theorem dL_law_895 : decode cL_law 895 = .ok (.if_icmp .eq 5, 3) := db_L_law_878.2.2.2.2.2.2.2.2.2.2.1
theorem dL_law_900 : decode cL_law 900 = .ok (.iload 5, 2) := db_L_law_878.2.2.2.2.2.2.2.2.2.2.2.1
theorem dL_law_902 : decode cL_law 902 = .ok (.ifCond .ne 15, 3) := db_L_law_878.2.2.2.2.2.2.2.2.2.2.2.2.1
theorem dL_law_917 : decode cL_law 917 = .ok (.goto 1194, 3) := db_L_law_878.2.2.2.2.2.2.2.2.2.2.2.2.2.1
theorem dL_law_920 : decode cL_law 920 = .ok (.aload_n 1, 1) := db_L_law_878.2.2.2.2.2.2.2.2.2.2.2.2.2.2.1
theorem dL_law_921 : decode cL_law 921 = .ok (.aload_n 0, 1) := db_L_law_878.2.2.2.2.2.2.2.2.2.2.2.2.2.2.2
theorem db_L_law_922 : decode cL_law 922 = .ok (.iload 4, 2) ∧ decode cL_law 924 = .ok (.iconst 1, 1) ∧ decode cL_law 925 = .ok (.iadd, 1) ∧ decode cL_law 926 = .ok (.iaload, 1) ∧ decode cL_law 927 = .ok (.aload_n 0, 1) ∧ decode cL_law 928 = .ok (.iload 4, 2) ∧ decode cL_law 930 = .ok (.iconst 2, 1) ∧ decode cL_law 931 = .ok (.iadd, 1) ∧ decode cL_law 932 = .ok (.iaload, 1) ∧ decode cL_law 933 = .ok (.aload_n 3, 1) ∧ decode cL_law 934 = .ok (.invokestatic 146, 3) ∧ decode cL_law 937 = .ok (.istore 5, 2) ∧ decode cL_law 939 = .ok (.aload_n 2, 1) ∧ decode cL_law 940 = .ok (.aload_n 0, 1) ∧ decode cL_law 941 = .ok (.iload 4, 2) ∧ decode cL_law 943 = .ok (.iconst 1, 1) := by decide +kernel
theorem dL_law_922 : decode cL_law 922 = .ok (.iload 4, 2) := db_L_law_922.1
theorem dL_law_924 : decode cL_law 924 = .ok (.iconst 1, 1) := db_L_law_922.2.1
theorem dL_law_925 : decode cL_law 925 = .ok (.iadd, 1) := db_L_law_922.2.2.1
theorem dL_law_926 : decode cL_law 926 = .ok (.iaload, 1) := db_L_law_922.2.2.2.1
theorem dL_law_927 : decode cL_law 927 = .ok (.aload_n 0, 1) := db_L_law_922.2.2.2.2.1
theorem dL_law_928 : decode cL_law 928 = .ok (.iload 4, 2) := db_L_law_922.2.2.2.2.2.1
theorem dL_law_930 : decode cL_law 930 = .ok (.iconst 2, 1) := db_L_law_922.2.2.2.2.2.2.1
theorem dL_law_931 : decode cL_law 931 = .ok (.iadd, 1) := db_L_law_922.2.2.2.2.2.2.2.1
theorem dL_law_932 : decode cL_law 932 = .ok (.iaload, 1) := db_L_law_922.2.2.2.2.2.2.2.2.1
theorem dL_law_933 : decode cL_law 933 = .ok (.aload_n 3, 1) := db_L_law_922.2.2.2.2.2.2.2.2.2.1
theorem dL_law_934 : decode cL_law 934 = .ok (.invokestatic 146, 3) := db_L_law_922.2.2.2.2.2.2.2.2.2.2.1
theorem dL_law_937 : decode cL_law 937 = .ok (.istore 5, 2) := db_L_law_922.2.2.2.2.2.2.2.2.2.2.2.1
theorem dL_law_939 : decode cL_law 939 = .ok (.aload_n 2, 1) := db_L_law_922.2.2.2.2.2.2.2.2.2.2.2.2.1
theorem dL_law_940 : decode cL_law 940 = .ok (.aload_n 0, 1) := db_L_law_922.2.2.2.2.2.2.2.2.2.2.2.2.2.1
theorem dL_law_941 : decode cL_law 941 = .ok (.iload 4, 2) := db_L_law_922.2.2.2.2.2.2.2.2.2.2.2.2.2.2.1
theorem dL_law_943 : decode cL_law 943 = .ok (.iconst 1, 1) := db_L_law_922.2.2.2.2.2.2.2.2.2.2.2.2.2.2.2
theorem db_L_law_944 : decode cL_law 944 = .ok (.iadd, 1) ∧ decode cL_law 945 = .ok (.iaload, 1) ∧ decode cL_law 946 = .ok (.aload_n 0, 1) ∧ decode cL_law 947 = .ok (.iload 4, 2) ∧ decode cL_law 949 = .ok (.iconst 2, 1) ∧ decode cL_law 950 = .ok (.iadd, 1) ∧ decode cL_law 951 = .ok (.iaload, 1) ∧ decode cL_law 952 = .ok (.invokevirtual 148, 3) ∧ decode cL_law 955 = .ok (.istore 6, 2) ∧ decode cL_law 957 = .ok (.aload_n 2, 1) ∧ decode cL_law 958 = .ok (.invokevirtual 110, 3) ∧ decode cL_law 961 = .ok (.iload 5, 2) ∧ decode cL_law 963 = .ok (.if_icmp .eq 5, 3) ∧ decode cL_law 968 = .ok (.iload 5, 2) ∧ decode cL_law 970 = .ok (.ifCond .ne 15, 3) ∧ decode cL_law 973 = .ok (.aload_n 3, 1) := by decide +kernel
theorem dL_law_944 : decode cL_law 944 = .ok (.iadd, 1) := db_L_law_944.1
theorem dL_law_945 : decode cL_law 945 = .ok (.iaload, 1) := db_L_law_944.2.1
theorem dL_law_946 : decode cL_law 946 = .ok (.aload_n 0, 1) := db_L_law_944.2.2.1
theorem dL_law_947 : decode cL_law 947 = .ok (.iload 4, 2) := db_L_law_944.2.2.2.1
theorem dL_law_949 : decode cL_law 949 = .ok (.iconst 2, 1) := db_L_law_944.2.2.2.2.1
theorem dL_law_950 : decode cL_law 950 = .ok (.iadd, 1) := db_L_law_944.2.2.2.2.2.1
theorem dL_law_951 : decode cL_law 951 = .ok (.iaload, 1) := db_L_law_944.2.2.2.2.2.2.1
theorem dL_law_952 : decode cL_law 952 = .ok (.invokevirtual 148, 3) := db_L_law_944.2.2.2.2.2.2.2.1
theorem dL_law_955 : decode cL_law 955 = .ok (.istore 6, 2) := db_L_law_944.2.2.2.2.2.2.2.2.1
theorem dL_law_957 : decode cL_law 957 = .ok (.aload_n 2, 1) := db_L_law_944.2.2.2.2.2.2.2.2.2.1
theorem dL_law_958 : decode cL_law 958 = .ok (.invokevirtual 110, 3) := db_L_law_944.2.2.2.2.2.2.2.2.2.2.1
theorem dL_law_961 : decode cL_law 961 = .ok (.iload 5, 2) := db_L_law_944.2.2.2.2.2.2.2.2.2.2.2.1
theorem dL_law_963 : decode cL_law 963 = .ok (.if_icmp .eq 5, 3) := db_L_law_944.2.2.2.2.2.2.2.2.2.2.2.2.1
theorem dL_law_968 : decode cL_law 968 = .ok (.iload 5, 2) := db_L_law_944.2.2.2.2.2.2.2.2.2.2.2.2.2.1
theorem dL_law_970 : decode cL_law 970 = .ok (.ifCond .ne 15, 3) := db_L_law_944.2.2.2.2.2.2.2.2.2.2.2.2.2.2.1
theorem dL_law_973 : decode cL_law 973 = .ok (.aload_n 3, 1) := db_L_law_944.2.2.2.2.2.2.2.2.2.2.2.2.2.2.2
theorem db_L_law_974 : decode cL_law 974 = .ok (.iconst 0, 1) ∧ decode cL_law 975 = .ok (.laload, 1) ∧ decode cL_law 976 = .ok (.iload 6, 2) ∧ decode cL_law 978 = .ok (.i2l, 1) ∧ decode cL_law 979 = .ok (.lcmp, 1) ∧ decode cL_law 980 = .ok (.ifCond .eq 5, 3) ∧ decode cL_law 985 = .ok (.goto 1126, 3) ∧ decode cL_law 988 = .ok (.aload_n 1, 1) ∧ decode cL_law 989 = .ok (.aload_n 0, 1) ∧ decode cL_law 990 = .ok (.iload 4, 2) ∧ decode cL_law 992 = .ok (.iconst 1, 1) ∧ decode cL_law 993 = .ok (.iadd, 1) ∧ decode cL_law 994 = .ok (.iaload, 1) ∧ decode cL_law 995 = .ok (.aload_n 0, 1) ∧ decode cL_law 996 = .ok (.iload 4, 2) ∧ decode cL_law 998 = .ok (.iconst 2, 1) := by decide +kernel
theorem dL_law_974 : decode cL_law 974 = .ok (.iconst 0, 1) := db_L_law_974.1
theorem dL_law_975 : decode cL_law 975 = .ok (.laload, 1) := db_L_law_974.2.1
theorem dL_law_976 : decode cL_law 976 = .ok (.iload 6, 2) := db_L_law_974.2.2.1
theorem dL_law_978 : decode cL_law 978 = .ok (.i2l, 1) := db_L_law_974.2.2.2.1
theorem dL_law_979 : decode cL_law 979 = .ok (.lcmp, 1) := db_L_law_974.2.2.2.2.1
theorem dL_law_980 : decode cL_law 980 = .ok (.ifCond .eq 5, 3) := db_L_law_974.2.2.2.2.2.1
theorem dL_law_985 : decode cL_law 985 = .ok (.goto 1126, 3) := db_L_law_974.2.2.2.2.2.2.1
theorem dL_law_988 : decode cL_law 988 = .ok (.aload_n 1, 1) := db_L_law_974.2.2.2.2.2.2.2.1
theorem dL_law_989 : decode cL_law 989 = .ok (.aload_n 0, 1) := db_L_law_974.2.2.2.2.2.2.2.2.1
theorem dL_law_990 : decode cL_law 990 = .ok (.iload 4, 2) := db_L_law_974.2.2.2.2.2.2.2.2.2.1
theorem dL_law_992 : decode cL_law 992 = .ok (.iconst 1, 1) := db_L_law_974.2.2.2.2.2.2.2.2.2.2.1
theorem dL_law_993 : decode cL_law 993 = .ok (.iadd, 1) := db_L_law_974.2.2.2.2.2.2.2.2.2.2.2.1
theorem dL_law_994 : decode cL_law 994 = .ok (.iaload, 1) := db_L_law_974.2.2.2.2.2.2.2.2.2.2.2.2.1
theorem dL_law_995 : decode cL_law 995 = .ok (.aload_n 0, 1) := db_L_law_974.2.2.2.2.2.2.2.2.2.2.2.2.2.1
theorem dL_law_996 : decode cL_law 996 = .ok (.iload 4, 2) := db_L_law_974.2.2.2.2.2.2.2.2.2.2.2.2.2.2.1
theorem dL_law_998 : decode cL_law 998 = .ok (.iconst 2, 1) := db_L_law_974.2.2.2.2.2.2.2.2.2.2.2.2.2.2.2
theorem db_L_law_999 : decode cL_law 999 = .ok (.iadd, 1) ∧ decode cL_law 1000 = .ok (.iaload, 1) ∧ decode cL_law 1001 = .ok (.aload_n 3, 1) ∧ decode cL_law 1002 = .ok (.invokestatic 149, 3) ∧ decode cL_law 1005 = .ok (.istore 5, 2) ∧ decode cL_law 1007 = .ok (.aload_n 2, 1) ∧ decode cL_law 1008 = .ok (.aload_n 0, 1) ∧ decode cL_law 1009 = .ok (.iload 4, 2) ∧ decode cL_law 1011 = .ok (.iconst 1, 1) ∧ decode cL_law 1012 = .ok (.iadd, 1) ∧ decode cL_law 1013 = .ok (.iaload, 1) ∧ decode cL_law 1014 = .ok (.aload_n 0, 1) ∧ decode cL_law 1015 = .ok (.iload 4, 2) ∧ decode cL_law 1017 = .ok (.iconst 2, 1) ∧ decode cL_law 1018 = .ok (.iadd, 1) ∧ decode cL_law 1019 = .ok (.iaload, 1) := by decide +kernel
theorem dL_law_999 : decode cL_law 999 = .ok (.iadd, 1) := db_L_law_999.1
theorem dL_law_1000 : decode cL_law 1000 = .ok (.iaload, 1) := db_L_law_999.2.1
theorem dL_law_1001 : decode cL_law 1001 = .ok (.aload_n 3, 1) := db_L_law_999.2.2.1
theorem dL_law_1002 : decode cL_law 1002 = .ok (.invokestatic 149, 3) := db_L_law_999.2.2.2.1
theorem dL_law_1005 : decode cL_law 1005 = .ok (.istore 5, 2) := db_L_law_999.2.2.2.2.1
theorem dL_law_1007 : decode cL_law 1007 = .ok (.aload_n 2, 1) := db_L_law_999.2.2.2.2.2.1
theorem dL_law_1008 : decode cL_law 1008 = .ok (.aload_n 0, 1) := db_L_law_999.2.2.2.2.2.2.1
theorem dL_law_1009 : decode cL_law 1009 = .ok (.iload 4, 2) := db_L_law_999.2.2.2.2.2.2.2.1
theorem dL_law_1011 : decode cL_law 1011 = .ok (.iconst 1, 1) := db_L_law_999.2.2.2.2.2.2.2.2.1
theorem dL_law_1012 : decode cL_law 1012 = .ok (.iadd, 1) := db_L_law_999.2.2.2.2.2.2.2.2.2.1
theorem dL_law_1013 : decode cL_law 1013 = .ok (.iaload, 1) := db_L_law_999.2.2.2.2.2.2.2.2.2.2.1
theorem dL_law_1014 : decode cL_law 1014 = .ok (.aload_n 0, 1) := db_L_law_999.2.2.2.2.2.2.2.2.2.2.2.1
theorem dL_law_1015 : decode cL_law 1015 = .ok (.iload 4, 2) := db_L_law_999.2.2.2.2.2.2.2.2.2.2.2.2.1
theorem dL_law_1017 : decode cL_law 1017 = .ok (.iconst 2, 1) := db_L_law_999.2.2.2.2.2.2.2.2.2.2.2.2.2.1
theorem dL_law_1018 : decode cL_law 1018 = .ok (.iadd, 1) := db_L_law_999.2.2.2.2.2.2.2.2.2.2.2.2.2.2.1
theorem dL_law_1019 : decode cL_law 1019 = .ok (.iaload, 1) := db_L_law_999.2.2.2.2.2.2.2.2.2.2.2.2.2.2.2
theorem db_L_law_1020 : decode cL_law 1020 = .ok (.invokevirtual 151, 3) ∧ decode cL_law 1023 = .ok (.istore 6, 2) ∧ decode cL_law 1025 = .ok (.aload_n 2, 1) ∧ decode cL_law 1026 = .ok (.invokevirtual 110, 3) ∧ decode cL_law 1029 = .ok (.iload 5, 2) ∧ decode cL_law 1031 = .ok (.if_icmp .eq 5, 3) ∧ decode cL_law 1036 = .ok (.iload 5, 2) ∧ decode cL_law 1038 = .ok (.ifCond .ne 15, 3) ∧ decode cL_law 1041 = .ok (.aload_n 3, 1) ∧ decode cL_law 1042 = .ok (.iconst 0, 1) ∧ decode cL_law 1043 = .ok (.laload, 1) ∧ decode cL_law 1044 = .ok (.iload 6, 2) ∧ decode cL_law 1046 = .ok (.i2l, 1) ∧ decode cL_law 1047 = .ok (.lcmp, 1) ∧ decode cL_law 1048 = .ok (.ifCond .eq 5, 3) ∧ decode cL_law 1053 = .ok (.goto 1058, 3) := by decide +kernel
theorem dL_law_1020 : decode cL_law 1020 = .ok (.invokevirtual 151, 3) := db_L_law_1020.1
theorem dL_law_1023 : decode cL_law 1023 = .ok (.istore 6, 2) := db_L_law_1020.2.1
theorem dL_law_1025 : decode cL_law 1025 = .ok (.aload_n 2, 1) := db_L_law_1020.2.2.1
theorem dL_law_1026 : decode cL_law 1026 = .ok (.invokevirtual 110, 3) := db_L_law_1020.2.2.2.1
theorem dL_law_1029 : decode cL_law 1029 = .ok (.iload 5, 2) := db_L_law_1020.2.2.2.2.1
theorem dL_law_1031 : decode cL_law 1031 = .ok (.if_icmp .eq 5, 3) := db_L_law_1020.2.2.2.2.2.1
theorem dL_law_1036 : decode cL_law 1036 = .ok (.iload 5, 2) := db_L_law_1020.2.2.2.2.2.2.1
theorem dL_law_1038 : decode cL_law 1038 = .ok (.ifCond .ne 15, 3) := db_L_law_1020.2.2.2.2.2.2.2.1
theorem dL_law_1041 : decode cL_law 1041 = .ok (.aload_n 3, 1) := db_L_law_1020.2.2.2.2.2.2.2.2.1
theorem dL_law_1042 : decode cL_law 1042 = .ok (.iconst 0, 1) := db_L_law_1020.2.2.2.2.2.2.2.2.2.1
theorem dL_law_1043 : decode cL_law 1043 = .ok (.laload, 1) := db_L_law_1020.2.2.2.2.2.2.2.2.2.2.1
theorem dL_law_1044 : decode cL_law 1044 = .ok (.iload 6, 2) := db_L_law_1020.2.2.2.2.2.2.2.2.2.2.2.1
theorem dL_law_1046 : decode cL_law 1046 = .ok (.i2l, 1) := db_L_law_1020.2.2.2.2.2.2.2.2.2.2.2.2.1
theorem dL_law_1047 : decode cL_law 1047 = .ok (.lcmp, 1) := db_L_law_1020.2.2.2.2.2.2.2.2.2.2.2.2.2.1
theorem dL_law_1048 : decode cL_law 1048 = .ok (.ifCond .eq 5, 3) := db_L_law_1020.2.2.2.2.2.2.2.2.2.2.2.2.2.2.1
theorem dL_law_1053 : decode cL_law 1053 = .ok (.goto 1058, 3) := db_L_law_1020.2.2.2.2.2.2.2.2.2.2.2.2.2.2.2
theorem db_L_law_1056 : decode cL_law 1056 = .ok (.aload_n 1, 1) ∧ decode cL_law 1057 = .ok (.invokevirtual 152, 3) ∧ decode cL_law 1060 = .ok (.aload_n 2, 1) ∧ decode cL_law 1061 = .ok (.invokevirtual 155, 3) ∧ decode cL_law 1064 = .ok (.if_icmp .eq 1047, 3) ∧ decode cL_law 1069 = .ok (.aload_n 1, 1) ∧ decode cL_law 1070 = .ok (.aload_n 0, 1) ∧ decode cL_law 1071 = .ok (.iload 4, 2) ∧ decode cL_law 1073 = .ok (.iconst 1, 1) ∧ decode cL_law 1074 = .ok (.iadd, 1) ∧ decode cL_law 1075 = .ok (.iaload, 1) ∧ decode cL_law 1076 = .ok (.aload_n 3, 1) ∧ decode cL_law 1077 = .ok (.invokestatic 156, 3) ∧ decode cL_law 1080 = .ok (.istore 5, 2) ∧ decode cL_law 1082 = .ok (.aload_n 2, 1) ∧ decode cL_law 1083 = .ok (.aload_n 0, 1) := by decide +kernel
theorem dL_law_1056 : decode cL_law 1056 = .ok (.aload_n 1, 1) := db_L_law_1056.1
theorem dL_law_1057 : decode cL_law 1057 = .ok (.invokevirtual 152, 3) := db_L_law_1056.2.1
theorem dL_law_1060 : decode cL_law 1060 = .ok (.aload_n 2, 1) := db_L_law_1056.2.2.1
theorem dL_law_1061 : decode cL_law 1061 = .ok (.invokevirtual 155, 3) := db_L_law_1056.2.2.2.1
theorem dL_law_1064 : decode cL_law 1064 = .ok (.if_icmp .eq 1047, 3) := db_L_law_1056.2.2.2.2.1
theorem dL_law_1069 : decode cL_law 1069 = .ok (.aload_n 1, 1) := db_L_law_1056.2.2.2.2.2.1
theorem dL_law_1070 : decode cL_law 1070 = .ok (.aload_n 0, 1) := db_L_law_1056.2.2.2.2.2.2.1
theorem dL_law_1071 : decode cL_law 1071 = .ok (.iload 4, 2) := db_L_law_1056.2.2.2.2.2.2.2.1
theorem dL_law_1073 : decode cL_law 1073 = .ok (.iconst 1, 1) := db_L_law_1056.2.2.2.2.2.2.2.2.1
theorem dL_law_1074 : decode cL_law 1074 = .ok (.iadd, 1) := db_L_law_1056.2.2.2.2.2.2.2.2.2.1
theorem dL_law_1075 : decode cL_law 1075 = .ok (.iaload, 1) := db_L_law_1056.2.2.2.2.2.2.2.2.2.2.1
theorem dL_law_1076 : decode cL_law 1076 = .ok (.aload_n 3, 1) := db_L_law_1056.2.2.2.2.2.2.2.2.2.2.2.1
theorem dL_law_1077 : decode cL_law 1077 = .ok (.invokestatic 156, 3) := db_L_law_1056.2.2.2.2.2.2.2.2.2.2.2.2.1
theorem dL_law_1080 : decode cL_law 1080 = .ok (.istore 5, 2) := db_L_law_1056.2.2.2.2.2.2.2.2.2.2.2.2.2.1
theorem dL_law_1082 : decode cL_law 1082 = .ok (.aload_n 2, 1) := db_L_law_1056.2.2.2.2.2.2.2.2.2.2.2.2.2.2.1
theorem dL_law_1083 : decode cL_law 1083 = .ok (.aload_n 0, 1) := db_L_law_1056.2.2.2.2.2.2.2.2.2.2.2.2.2.2.2
theorem db_L_law_1084 : decode cL_law 1084 = .ok (.iload 4, 2) ∧ decode cL_law 1086 = .ok (.iconst 1, 1) ∧ decode cL_law 1087 = .ok (.iadd, 1) ∧ decode cL_law 1088 = .ok (.iaload, 1) ∧ decode cL_law 1089 = .ok (.invokevirtual 159, 3) ∧ decode cL_law 1092 = .ok (.istore 6, 2) ∧ decode cL_law 1094 = .ok (.aload_n 2, 1) ∧ decode cL_law 1095 = .ok (.invokevirtual 110, 3) ∧ decode cL_law 1098 = .ok (.iload 5, 2) ∧ decode cL_law 1100 = .ok (.if_icmp .eq 5, 3) ∧ decode cL_law 1105 = .ok (.iload 5, 2) ∧ decode cL_law 1107 = .ok (.ifCond .ne 15, 3) ∧ decode cL_law 1110 = .ok (.aload_n 3, 1) ∧ decode cL_law 1111 = .ok (.iconst 0, 1) ∧ decode cL_law 1112 = .ok (.laload, 1) ∧ decode cL_law 1113 = .ok (.iload 6, 2) := by decide +kernel
theorem dL_law_1084 : decode cL_law 1084 = .ok (.iload 4, 2) := db_L_law_1084.1
theorem dL_law_1086 : decode cL_law 1086 = .ok (.iconst 1, 1) := db_L_law_1084.2.1
theorem dL_law_1087 : decode cL_law 1087 = .ok (.iadd, 1) := db_L_law_1084.2.2.1
theorem dL_law_1088 : decode cL_law 1088 = .ok (.iaload, 1) := db_L_law_1084.2.2.2.1
theorem dL_law_1089 : decode cL_law 1089 = .ok (.invokevirtual 159, 3) := db_L_law_1084.2.2.2.2.1
theorem dL_law_1092 : decode cL_law 1092 = .ok (.istore 6, 2) := db_L_law_1084.2.2.2.2.2.1
theorem dL_law_1094 : decode cL_law 1094 = .ok (.aload_n 2, 1) := db_L_law_1084.2.2.2.2.2.2.1
theorem dL_law_1095 : decode cL_law 1095 = .ok (.invokevirtual 110, 3) := db_L_law_1084.2.2.2.2.2.2.2.1
theorem dL_law_1098 : decode cL_law 1098 = .ok (.iload 5, 2) := db_L_law_1084.2.2.2.2.2.2.2.2.1
theorem dL_law_1100 : decode cL_law 1100 = .ok (.if_icmp .eq 5, 3) := db_L_law_1084.2.2.2.2.2.2.2.2.2.1
theorem dL_law_1105 : decode cL_law 1105 = .ok (.iload 5, 2) := db_L_law_1084.2.2.2.2.2.2.2.2.2.2.1
theorem dL_law_1107 : decode cL_law 1107 = .ok (.ifCond .ne 15, 3) := db_L_law_1084.2.2.2.2.2.2.2.2.2.2.2.1
theorem dL_law_1110 : decode cL_law 1110 = .ok (.aload_n 3, 1) := db_L_law_1084.2.2.2.2.2.2.2.2.2.2.2.2.1
theorem dL_law_1111 : decode cL_law 1111 = .ok (.iconst 0, 1) := db_L_law_1084.2.2.2.2.2.2.2.2.2.2.2.2.2.1
theorem dL_law_1112 : decode cL_law 1112 = .ok (.laload, 1) := db_L_law_1084.2.2.2.2.2.2.2.2.2.2.2.2.2.2.1
theorem dL_law_1113 : decode cL_law 1113 = .ok (.iload 6, 2) := db_L_law_1084.2.2.2.2.2.2.2.2.2.2.2.2.2.2.2
theorem db_L_law_1115 : decode cL_law 1115 = .ok (.i2l, 1) ∧ decode cL_law 1116 = .ok (.lcmp, 1) ∧ decode cL_law 1117 = .ok (.ifCond .eq 5, 3) ∧ decode cL_law 1122 = .ok (.goto 989, 3) ∧ decode cL_law 1125 = .ok (.aload_n 1, 1) ∧ decode cL_law 1126 = .ok (.aload_n 0, 1) ∧ decode cL_law 1127 = .ok (.iload 4, 2) ∧ decode cL_law 1129 = .ok (.iconst 1, 1) ∧ decode cL_law 1130 = .ok (.iadd, 1) ∧ decode cL_law 1131 = .ok (.iaload, 1) ∧ decode cL_law 1132 = .ok (.aload_n 3, 1) ∧ decode cL_law 1133 = .ok (.invokestatic 160, 3) ∧ decode cL_law 1136 = .ok (.istore 5, 2) ∧ decode cL_law 1138 = .ok (.aload_n 2, 1) ∧ decode cL_law 1139 = .ok (.aload_n 0, 1) ∧ decode cL_law 1140 = .ok (.iload 4, 2) := by decide +kernel
theorem dL_law_1115 : decode cL_law 1115 = .ok (.i2l, 1) := db_L_law_1115.1
theorem dL_law_1116 : decode cL_law 1116 = .ok (.lcmp, 1) := db_L_law_1115.2.1
theorem dL_law_1117 : decode cL_law 1117 = .ok (.ifCond .eq 5, 3) := db_L_law_1115.2.2.1
theorem dL_law_1122 : decode cL_law 1122 = .ok (.goto 989, 3) := db_L_law_1115.2.2.2.1
theorem dL_law_1125 : decode cL_law 1125 = .ok (.aload_n 1, 1) := db_L_law_1115.2.2.2.2.1
theorem dL_law_1126 : decode cL_law 1126 = .ok (.aload_n 0, 1) := db_L_law_1115.2.2.2.2.2.1
theorem dL_law_1127 : decode cL_law 1127 = .ok (.iload 4, 2) := db_L_law_1115.2.2.2.2.2.2.1
theorem dL_law_1129 : decode cL_law 1129 = .ok (.iconst 1, 1) := db_L_law_1115.2.2.2.2.2.2.2.1
theorem dL_law_1130 : decode cL_law 1130 = .ok (.iadd, 1) := db_L_law_1115.2.2.2.2.2.2.2.2.1
theorem dL_law_1131 : decode cL_law 1131 = .ok (.iaload, 1) := db_L_law_1115.2.2.2.2.2.2.2.2.2.1
theorem dL_law_1132 : decode cL_law 1132 = .ok (.aload_n 3, 1) := db_L_law_1115.2.2.2.2.2.2.2.2.2.2.1
theorem dL_law_1133 : decode cL_law 1133 = .ok (.invokestatic 160, 3) := db_L_law_1115.2.2.2.2.2.2.2.2.2.2.2.1
theorem dL_law_1136 : decode cL_law 1136 = .ok (.istore 5, 2) := db_L_law_1115.2.2.2.2.2.2.2.2.2.2.2.2.1
theorem dL_law_1138 : decode cL_law 1138 = .ok (.aload_n 2, 1) := db_L_law_1115.2.2.2.2.2.2.2.2.2.2.2.2.2.1
theorem dL_law_1139 : decode cL_law 1139 = .ok (.aload_n 0, 1) := db_L_law_1115.2.2.2.2.2.2.2.2.2.2.2.2.2.2.1
theorem dL_law_1140 : decode cL_law 1140 = .ok (.iload 4, 2) := db_L_law_1115.2.2.2.2.2.2.2.2.2.2.2.2.2.2.2
theorem db_L_law_1142 : decode cL_law 1142 = .ok (.iconst 1, 1) ∧ decode cL_law 1143 = .ok (.iadd, 1) ∧ decode cL_law 1144 = .ok (.iaload, 1) ∧ decode cL_law 1145 = .ok (.invokevirtual 162, 3) ∧ decode cL_law 1148 = .ok (.istore 6, 2) ∧ decode cL_law 1150 = .ok (.aload_n 2, 1) ∧ decode cL_law 1151 = .ok (.invokevirtual 110, 3) ∧ decode cL_law 1154 = .ok (.iload 5, 2) ∧ decode cL_law 1156 = .ok (.if_icmp .eq 5, 3) ∧ decode cL_law 1161 = .ok (.iload 5, 2) ∧ decode cL_law 1163 = .ok (.ifCond .ne 22, 3) ∧ decode cL_law 1166 = .ok (.aload_n 3, 1) ∧ decode cL_law 1167 = .ok (.iconst 0, 1) ∧ decode cL_law 1168 = .ok (.laload, 1) ∧ decode cL_law 1169 = .ok (.iload 6, 2) ∧ decode cL_law 1171 = .ok (.ifCond .eq 7, 3) := by decide +kernel
theorem dL_law_1142 : decode cL_law 1142 = .ok (.iconst 1, 1) := db_L_law_1142.1
theorem dL_law_1143 : decode cL_law 1143 = .ok (.iadd, 1) := db_L_law_1142.2.1
theorem dL_law_1144 : decode cL_law 1144 = .ok (.iaload, 1) := db_L_law_1142.2.2.1
theorem dL_law_1145 : decode cL_law 1145 = .ok (.invokevirtual 162, 3) := db_L_law_1142.2.2.2.1
theorem dL_law_1148 : decode cL_law 1148 = .ok (.istore 6, 2) := db_L_law_1142.2.2.2.2.1
theorem dL_law_1150 : decode cL_law 1150 = .ok (.aload_n 2, 1) := db_L_law_1142.2.2.2.2.2.1
theorem dL_law_1151 : decode cL_law 1151 = .ok (.invokevirtual 110, 3) := db_L_law_1142.2.2.2.2.2.2.1
theorem dL_law_1154 : decode cL_law 1154 = .ok (.iload 5, 2) := db_L_law_1142.2.2.2.2.2.2.2.1
theorem dL_law_1156 : decode cL_law 1156 = .ok (.if_icmp .eq 5, 3) := db_L_law_1142.2.2.2.2.2.2.2.2.1
theorem dL_law_1161 : decode cL_law 1161 = .ok (.iload 5, 2) := db_L_law_1142.2.2.2.2.2.2.2.2.2.1
theorem dL_law_1163 : decode cL_law 1163 = .ok (.ifCond .ne 22, 3) := db_L_law_1142.2.2.2.2.2.2.2.2.2.2.1
theorem dL_law_1166 : decode cL_law 1166 = .ok (.aload_n 3, 1) := db_L_law_1142.2.2.2.2.2.2.2.2.2.2.2.1
theorem dL_law_1167 : decode cL_law 1167 = .ok (.iconst 0, 1) := db_L_law_1142.2.2.2.2.2.2.2.2.2.2.2.2.1
theorem dL_law_1168 : decode cL_law 1168 = .ok (.laload, 1) := db_L_law_1142.2.2.2.2.2.2.2.2.2.2.2.2.2.1
theorem dL_law_1169 : decode cL_law 1169 = .ok (.iload 6, 2) := db_L_law_1142.2.2.2.2.2.2.2.2.2.2.2.2.2.2.1
theorem dL_law_1171 : decode cL_law 1171 = .ok (.ifCond .eq 7, 3) := db_L_law_1142.2.2.2.2.2.2.2.2.2.2.2.2.2.2.2
theorem db_L_law_1174 : decode cL_law 1174 = .ok (.lconst 1, 1) ∧ decode cL_law 1175 = .ok (.goto 4, 3) ∧ decode cL_law 1179 = .ok (.lcmp, 1) ∧ decode cL_law 1180 = .ok (.ifCond .eq 5, 3) ∧ decode cL_law 1185 = .ok (.goto 926, 3) ∧ decode cL_law 1188 = .ok (.aload_n 1, 1) ∧ decode cL_law 1189 = .ok (.aload_n 0, 1) ∧ decode cL_law 1190 = .ok (.iload 4, 2) ∧ decode cL_law 1192 = .ok (.iconst 1, 1) ∧ decode cL_law 1193 = .ok (.iadd, 1) ∧ decode cL_law 1194 = .ok (.iaload, 1) ∧ decode cL_law 1195 = .ok (.aload_n 3, 1) ∧ decode cL_law 1196 = .ok (.invokestatic 163, 3) ∧ decode cL_law 1199 = .ok (.istore 5, 2) ∧ decode cL_law 1201 = .ok (.aload_n 2, 1) ∧ decode cL_law 1202 = .ok (.aload_n 0, 1) := by decide +kernel
theorem dL_law_1174 : decode cL_law 1174 = .ok (.lconst 1, 1) := db_L_law_1174.1
theorem dL_law_1175 : decode cL_law 1175 = .ok (.goto 4, 3) := db_L_law_1174.2.1
theorem dL_law_1179 : decode cL_law 1179 = .ok (.lcmp, 1) := db_L_law_1174.2.2.1
theorem dL_law_1180 : decode cL_law 1180 = .ok (.ifCond .eq 5, 3) := db_L_law_1174.2.2.2.1
theorem dL_law_1185 : decode cL_law 1185 = .ok (.goto 926, 3) := db_L_law_1174.2.2.2.2.1
theorem dL_law_1188 : decode cL_law 1188 = .ok (.aload_n 1, 1) := db_L_law_1174.2.2.2.2.2.1
theorem dL_law_1189 : decode cL_law 1189 = .ok (.aload_n 0, 1) := db_L_law_1174.2.2.2.2.2.2.1
theorem dL_law_1190 : decode cL_law 1190 = .ok (.iload 4, 2) := db_L_law_1174.2.2.2.2.2.2.2.1
theorem dL_law_1192 : decode cL_law 1192 = .ok (.iconst 1, 1) := db_L_law_1174.2.2.2.2.2.2.2.2.1
theorem dL_law_1193 : decode cL_law 1193 = .ok (.iadd, 1) := db_L_law_1174.2.2.2.2.2.2.2.2.2.1
theorem dL_law_1194 : decode cL_law 1194 = .ok (.iaload, 1) := db_L_law_1174.2.2.2.2.2.2.2.2.2.2.1
theorem dL_law_1195 : decode cL_law 1195 = .ok (.aload_n 3, 1) := db_L_law_1174.2.2.2.2.2.2.2.2.2.2.2.1
theorem dL_law_1196 : decode cL_law 1196 = .ok (.invokestatic 163, 3) := db_L_law_1174.2.2.2.2.2.2.2.2.2.2.2.2.1
theorem dL_law_1199 : decode cL_law 1199 = .ok (.istore 5, 2) := db_L_law_1174.2.2.2.2.2.2.2.2.2.2.2.2.2.1
theorem dL_law_1201 : decode cL_law 1201 = .ok (.aload_n 2, 1) := db_L_law_1174.2.2.2.2.2.2.2.2.2.2.2.2.2.2.1
theorem dL_law_1202 : decode cL_law 1202 = .ok (.aload_n 0, 1) := db_L_law_1174.2.2.2.2.2.2.2.2.2.2.2.2.2.2.2
theorem db_L_law_1203 : decode cL_law 1203 = .ok (.iload 4, 2) ∧ decode cL_law 1205 = .ok (.iconst 1, 1) ∧ decode cL_law 1206 = .ok (.iadd, 1) ∧ decode cL_law 1207 = .ok (.iaload, 1) ∧ decode cL_law 1208 = .ok (.invokevirtual 165, 3) ∧ decode cL_law 1211 = .ok (.istore 6, 2) ∧ decode cL_law 1213 = .ok (.aload_n 2, 1) ∧ decode cL_law 1214 = .ok (.invokevirtual 110, 3) ∧ decode cL_law 1217 = .ok (.iload 5, 2) ∧ decode cL_law 1219 = .ok (.if_icmp .eq 5, 3) ∧ decode cL_law 1224 = .ok (.iload 5, 2) ∧ decode cL_law 1226 = .ok (.ifCond .ne 15, 3) ∧ decode cL_law 1229 = .ok (.aload_n 3, 1) ∧ decode cL_law 1230 = .ok (.iconst 0, 1) ∧ decode cL_law 1231 = .ok (.laload, 1) ∧ decode cL_law 1232 = .ok (.iload 6, 2) := by decide +kernel
theorem dL_law_1203 : decode cL_law 1203 = .ok (.iload 4, 2) := db_L_law_1203.1
theorem dL_law_1205 : decode cL_law 1205 = .ok (.iconst 1, 1) := db_L_law_1203.2.1
theorem dL_law_1206 : decode cL_law 1206 = .ok (.iadd, 1) := db_L_law_1203.2.2.1
theorem dL_law_1207 : decode cL_law 1207 = .ok (.iaload, 1) := db_L_law_1203.2.2.2.1
theorem dL_law_1208 : decode cL_law 1208 = .ok (.invokevirtual 165, 3) := db_L_law_1203.2.2.2.2.1
theorem dL_law_1211 : decode cL_law 1211 = .ok (.istore 6, 2) := db_L_law_1203.2.2.2.2.2.1
theorem dL_law_1213 : decode cL_law 1213 = .ok (.aload_n 2, 1) := db_L_law_1203.2.2.2.2.2.2.1
theorem dL_law_1214 : decode cL_law 1214 = .ok (.invokevirtual 110, 3) := db_L_law_1203.2.2.2.2.2.2.2.1
theorem dL_law_1217 : decode cL_law 1217 = .ok (.iload 5, 2) := db_L_law_1203.2.2.2.2.2.2.2.2.1
theorem dL_law_1219 : decode cL_law 1219 = .ok (.if_icmp .eq 5, 3) := db_L_law_1203.2.2.2.2.2.2.2.2.2.1
theorem dL_law_1224 : decode cL_law 1224 = .ok (.iload 5, 2) := db_L_law_1203.2.2.2.2.2.2.2.2.2.2.1
theorem dL_law_1226 : decode cL_law 1226 = .ok (.ifCond .ne 15, 3) := db_L_law_1203.2.2.2.2.2.2.2.2.2.2.2.1
theorem dL_law_1229 : decode cL_law 1229 = .ok (.aload_n 3, 1) := db_L_law_1203.2.2.2.2.2.2.2.2.2.2.2.2.1
theorem dL_law_1230 : decode cL_law 1230 = .ok (.iconst 0, 1) := db_L_law_1203.2.2.2.2.2.2.2.2.2.2.2.2.2.1
theorem dL_law_1231 : decode cL_law 1231 = .ok (.laload, 1) := db_L_law_1203.2.2.2.2.2.2.2.2.2.2.2.2.2.2.1
theorem dL_law_1232 : decode cL_law 1232 = .ok (.iload 6, 2) := db_L_law_1203.2.2.2.2.2.2.2.2.2.2.2.2.2.2.2
theorem db_L_law_1234 : decode cL_law 1234 = .ok (.i2l, 1) ∧ decode cL_law 1235 = .ok (.lcmp, 1) ∧ decode cL_law 1236 = .ok (.ifCond .eq 5, 3) ∧ decode cL_law 1241 = .ok (.goto 870, 3) ∧ decode cL_law 1244 = .ok (.aload_n 1, 1) ∧ decode cL_law 1245 = .ok (.aload_n 0, 1) ∧ decode cL_law 1246 = .ok (.iload 4, 2) ∧ decode cL_law 1248 = .ok (.iconst 1, 1) ∧ decode cL_law 1249 = .ok (.iadd, 1) ∧ decode cL_law 1250 = .ok (.iaload, 1) ∧ decode cL_law 1251 = .ok (.aload_n 3, 1) ∧ decode cL_law 1252 = .ok (.invokestatic 166, 3) ∧ decode cL_law 1255 = .ok (.istore 5, 2) ∧ decode cL_law 1257 = .ok (.aload_n 2, 1) ∧ decode cL_law 1258 = .ok (.aload_n 0, 1) ∧ decode cL_law 1259 = .ok (.iload 4, 2) := by decide +kernel
theorem dL_law_1234 : decode cL_law 1234 = .ok (.i2l, 1) := db_L_law_1234.1
theorem dL_law_1235 : decode cL_law 1235 = .ok (.lcmp, 1) := db_L_law_1234.2.1
theorem dL_law_1236 : decode cL_law 1236 = .ok (.ifCond .eq 5, 3) := db_L_law_1234.2.2.1
theorem dL_law_1241 : decode cL_law 1241 = .ok (.goto 870, 3) := db_L_law_1234.2.2.2.1
theorem dL_law_1244 : decode cL_law 1244 = .ok (.aload_n 1, 1) := db_L_law_1234.2.2.2.2.1
theorem dL_law_1245 : decode cL_law 1245 = .ok (.aload_n 0, 1) := db_L_law_1234.2.2.2.2.2.1
theorem dL_law_1246 : decode cL_law 1246 = .ok (.iload 4, 2) := db_L_law_1234.2.2.2.2.2.2.1
theorem dL_law_1248 : decode cL_law 1248 = .ok (.iconst 1, 1) := db_L_law_1234.2.2.2.2.2.2.2.1
theorem dL_law_1249 : decode cL_law 1249 = .ok (.iadd, 1) := db_L_law_1234.2.2.2.2.2.2.2.2.1
theorem dL_law_1250 : decode cL_law 1250 = .ok (.iaload, 1) := db_L_law_1234.2.2.2.2.2.2.2.2.2.1
theorem dL_law_1251 : decode cL_law 1251 = .ok (.aload_n 3, 1) := db_L_law_1234.2.2.2.2.2.2.2.2.2.2.1
theorem dL_law_1252 : decode cL_law 1252 = .ok (.invokestatic 166, 3) := db_L_law_1234.2.2.2.2.2.2.2.2.2.2.2.1
theorem dL_law_1255 : decode cL_law 1255 = .ok (.istore 5, 2) := db_L_law_1234.2.2.2.2.2.2.2.2.2.2.2.2.1
theorem dL_law_1257 : decode cL_law 1257 = .ok (.aload_n 2, 1) := db_L_law_1234.2.2.2.2.2.2.2.2.2.2.2.2.2.1
theorem dL_law_1258 : decode cL_law 1258 = .ok (.aload_n 0, 1) := db_L_law_1234.2.2.2.2.2.2.2.2.2.2.2.2.2.2.1
theorem dL_law_1259 : decode cL_law 1259 = .ok (.iload 4, 2) := db_L_law_1234.2.2.2.2.2.2.2.2.2.2.2.2.2.2.2
theorem db_L_law_1261 : decode cL_law 1261 = .ok (.iconst 1, 1) ∧ decode cL_law 1262 = .ok (.iadd, 1) ∧ decode cL_law 1263 = .ok (.iaload, 1) ∧ decode cL_law 1264 = .ok (.invokevirtual 168, 3) ∧ decode cL_law 1267 = .ok (.istore 6, 2) ∧ decode cL_law 1269 = .ok (.aload_n 2, 1) ∧ decode cL_law 1270 = .ok (.invokevirtual 110, 3) ∧ decode cL_law 1273 = .ok (.iload 5, 2) ∧ decode cL_law 1275 = .ok (.if_icmp .eq 5, 3) ∧ decode cL_law 1280 = .ok (.iload 5, 2) ∧ decode cL_law 1282 = .ok (.ifCond .ne 22, 3) ∧ decode cL_law 1304 = .ok (.goto 807, 3) ∧ decode cL_law 1307 = .ok (.aload_n 1, 1) ∧ decode cL_law 1308 = .ok (.aload_n 0, 1) ∧ decode cL_law 1309 = .ok (.iload 4, 2) ∧ decode cL_law 1311 = .ok (.iconst 1, 1) := by decide +kernel
theorem dL_law_1261 : decode cL_law 1261 = .ok (.iconst 1, 1) := db_L_law_1261.1
theorem dL_law_1262 : decode cL_law 1262 = .ok (.iadd, 1) := db_L_law_1261.2.1
theorem dL_law_1263 : decode cL_law 1263 = .ok (.iaload, 1) := db_L_law_1261.2.2.1
theorem dL_law_1264 : decode cL_law 1264 = .ok (.invokevirtual 168, 3) := db_L_law_1261.2.2.2.1
theorem dL_law_1267 : decode cL_law 1267 = .ok (.istore 6, 2) := db_L_law_1261.2.2.2.2.1
theorem dL_law_1269 : decode cL_law 1269 = .ok (.aload_n 2, 1) := db_L_law_1261.2.2.2.2.2.1
theorem dL_law_1270 : decode cL_law 1270 = .ok (.invokevirtual 110, 3) := db_L_law_1261.2.2.2.2.2.2.1
theorem dL_law_1273 : decode cL_law 1273 = .ok (.iload 5, 2) := db_L_law_1261.2.2.2.2.2.2.2.1
theorem dL_law_1275 : decode cL_law 1275 = .ok (.if_icmp .eq 5, 3) := db_L_law_1261.2.2.2.2.2.2.2.2.1
theorem dL_law_1280 : decode cL_law 1280 = .ok (.iload 5, 2) := db_L_law_1261.2.2.2.2.2.2.2.2.2.1
theorem dL_law_1282 : decode cL_law 1282 = .ok (.ifCond .ne 22, 3) := db_L_law_1261.2.2.2.2.2.2.2.2.2.2.1
theorem dL_law_1304 : decode cL_law 1304 = .ok (.goto 807, 3) := db_L_law_1261.2.2.2.2.2.2.2.2.2.2.2.1
theorem dL_law_1307 : decode cL_law 1307 = .ok (.aload_n 1, 1) := db_L_law_1261.2.2.2.2.2.2.2.2.2.2.2.2.1
theorem dL_law_1308 : decode cL_law 1308 = .ok (.aload_n 0, 1) := db_L_law_1261.2.2.2.2.2.2.2.2.2.2.2.2.2.1
theorem dL_law_1309 : decode cL_law 1309 = .ok (.iload 4, 2) := db_L_law_1261.2.2.2.2.2.2.2.2.2.2.2.2.2.2.1
theorem dL_law_1311 : decode cL_law 1311 = .ok (.iconst 1, 1) := db_L_law_1261.2.2.2.2.2.2.2.2.2.2.2.2.2.2.2
theorem db_L_law_1312 : decode cL_law 1312 = .ok (.iadd, 1) ∧ decode cL_law 1313 = .ok (.iaload, 1) ∧ decode cL_law 1314 = .ok (.aload_n 0, 1) ∧ decode cL_law 1315 = .ok (.iload 4, 2) ∧ decode cL_law 1317 = .ok (.iconst 2, 1) ∧ decode cL_law 1318 = .ok (.iadd, 1) ∧ decode cL_law 1319 = .ok (.iaload, 1) ∧ decode cL_law 1320 = .ok (.aload_n 0, 1) ∧ decode cL_law 1321 = .ok (.iload 4, 2) ∧ decode cL_law 1323 = .ok (.iconst 3, 1) ∧ decode cL_law 1324 = .ok (.iadd, 1) ∧ decode cL_law 1325 = .ok (.iaload, 1) ∧ decode cL_law 1326 = .ok (.invokestatic 169, 3) ∧ decode cL_law 1329 = .ok (.istore 5, 2) ∧ decode cL_law 1331 = .ok (.aload_n 2, 1) ∧ decode cL_law 1332 = .ok (.aload_n 0, 1) := by decide +kernel
theorem dL_law_1312 : decode cL_law 1312 = .ok (.iadd, 1) := db_L_law_1312.1
theorem dL_law_1313 : decode cL_law 1313 = .ok (.iaload, 1) := db_L_law_1312.2.1
theorem dL_law_1314 : decode cL_law 1314 = .ok (.aload_n 0, 1) := db_L_law_1312.2.2.1
theorem dL_law_1315 : decode cL_law 1315 = .ok (.iload 4, 2) := db_L_law_1312.2.2.2.1
theorem dL_law_1317 : decode cL_law 1317 = .ok (.iconst 2, 1) := db_L_law_1312.2.2.2.2.1
theorem dL_law_1318 : decode cL_law 1318 = .ok (.iadd, 1) := db_L_law_1312.2.2.2.2.2.1
theorem dL_law_1319 : decode cL_law 1319 = .ok (.iaload, 1) := db_L_law_1312.2.2.2.2.2.2.1
theorem dL_law_1320 : decode cL_law 1320 = .ok (.aload_n 0, 1) := db_L_law_1312.2.2.2.2.2.2.2.1
theorem dL_law_1321 : decode cL_law 1321 = .ok (.iload 4, 2) := db_L_law_1312.2.2.2.2.2.2.2.2.1
theorem dL_law_1323 : decode cL_law 1323 = .ok (.iconst 3, 1) := db_L_law_1312.2.2.2.2.2.2.2.2.2.1
theorem dL_law_1324 : decode cL_law 1324 = .ok (.iadd, 1) := db_L_law_1312.2.2.2.2.2.2.2.2.2.2.1
theorem dL_law_1325 : decode cL_law 1325 = .ok (.iaload, 1) := db_L_law_1312.2.2.2.2.2.2.2.2.2.2.2.1
theorem dL_law_1326 : decode cL_law 1326 = .ok (.invokestatic 169, 3) := db_L_law_1312.2.2.2.2.2.2.2.2.2.2.2.2.1
theorem dL_law_1329 : decode cL_law 1329 = .ok (.istore 5, 2) := db_L_law_1312.2.2.2.2.2.2.2.2.2.2.2.2.2.1
theorem dL_law_1331 : decode cL_law 1331 = .ok (.aload_n 2, 1) := db_L_law_1312.2.2.2.2.2.2.2.2.2.2.2.2.2.2.1
theorem dL_law_1332 : decode cL_law 1332 = .ok (.aload_n 0, 1) := db_L_law_1312.2.2.2.2.2.2.2.2.2.2.2.2.2.2.2
theorem db_L_law_1333 : decode cL_law 1333 = .ok (.iload 4, 2) ∧ decode cL_law 1335 = .ok (.iconst 1, 1) ∧ decode cL_law 1336 = .ok (.iadd, 1) ∧ decode cL_law 1337 = .ok (.iaload, 1) ∧ decode cL_law 1338 = .ok (.aload_n 0, 1) ∧ decode cL_law 1339 = .ok (.iload 4, 2) ∧ decode cL_law 1341 = .ok (.iconst 2, 1) ∧ decode cL_law 1342 = .ok (.iadd, 1) ∧ decode cL_law 1343 = .ok (.iaload, 1) ∧ decode cL_law 1344 = .ok (.aload_n 0, 1) ∧ decode cL_law 1345 = .ok (.iload 4, 2) ∧ decode cL_law 1347 = .ok (.iconst 3, 1) ∧ decode cL_law 1348 = .ok (.iadd, 1) ∧ decode cL_law 1349 = .ok (.iaload, 1) ∧ decode cL_law 1350 = .ok (.invokevirtual 172, 3) ∧ decode cL_law 1353 = .ok (.aload_n 2, 1) := by decide +kernel
theorem dL_law_1333 : decode cL_law 1333 = .ok (.iload 4, 2) := db_L_law_1333.1
theorem dL_law_1335 : decode cL_law 1335 = .ok (.iconst 1, 1) := db_L_law_1333.2.1
theorem dL_law_1336 : decode cL_law 1336 = .ok (.iadd, 1) := db_L_law_1333.2.2.1
theorem dL_law_1337 : decode cL_law 1337 = .ok (.iaload, 1) := db_L_law_1333.2.2.2.1
theorem dL_law_1338 : decode cL_law 1338 = .ok (.aload_n 0, 1) := db_L_law_1333.2.2.2.2.1
theorem dL_law_1339 : decode cL_law 1339 = .ok (.iload 4, 2) := db_L_law_1333.2.2.2.2.2.1
theorem dL_law_1341 : decode cL_law 1341 = .ok (.iconst 2, 1) := db_L_law_1333.2.2.2.2.2.2.1
theorem dL_law_1342 : decode cL_law 1342 = .ok (.iadd, 1) := db_L_law_1333.2.2.2.2.2.2.2.1
theorem dL_law_1343 : decode cL_law 1343 = .ok (.iaload, 1) := db_L_law_1333.2.2.2.2.2.2.2.2.1
theorem dL_law_1344 : decode cL_law 1344 = .ok (.aload_n 0, 1) := db_L_law_1333.2.2.2.2.2.2.2.2.2.1
theorem dL_law_1345 : decode cL_law 1345 = .ok (.iload 4, 2) := db_L_law_1333.2.2.2.2.2.2.2.2.2.2.1
theorem dL_law_1347 : decode cL_law 1347 = .ok (.iconst 3, 1) := db_L_law_1333.2.2.2.2.2.2.2.2.2.2.2.1
theorem dL_law_1348 : decode cL_law 1348 = .ok (.iadd, 1) := db_L_law_1333.2.2.2.2.2.2.2.2.2.2.2.2.1
theorem dL_law_1349 : decode cL_law 1349 = .ok (.iaload, 1) := db_L_law_1333.2.2.2.2.2.2.2.2.2.2.2.2.2.1
theorem dL_law_1350 : decode cL_law 1350 = .ok (.invokevirtual 172, 3) := db_L_law_1333.2.2.2.2.2.2.2.2.2.2.2.2.2.2.1
theorem dL_law_1353 : decode cL_law 1353 = .ok (.aload_n 2, 1) := db_L_law_1333.2.2.2.2.2.2.2.2.2.2.2.2.2.2.2
theorem db_L_law_1354 : decode cL_law 1354 = .ok (.invokevirtual 110, 3) ∧ decode cL_law 1357 = .ok (.iload 5, 2) ∧ decode cL_law 1359 = .ok (.if_icmp .eq 5, 3) ∧ decode cL_law 1364 = .ok (.goto 747, 3) ∧ decode cL_law 1367 = .ok (.aload_n 1, 1) ∧ decode cL_law 1368 = .ok (.aload_n 0, 1) ∧ decode cL_law 1369 = .ok (.iload 4, 2) ∧ decode cL_law 1371 = .ok (.iconst 1, 1) ∧ decode cL_law 1372 = .ok (.iadd, 1) ∧ decode cL_law 1373 = .ok (.iaload, 1) ∧ decode cL_law 1374 = .ok (.aload_n 0, 1) ∧ decode cL_law 1375 = .ok (.iload 4, 2) ∧ decode cL_law 1377 = .ok (.iconst 2, 1) ∧ decode cL_law 1378 = .ok (.iadd, 1) ∧ decode cL_law 1379 = .ok (.iaload, 1) ∧ decode cL_law 1380 = .ok (.aload_n 0, 1) := by decide +kernel
theorem dL_law_1354 : decode cL_law 1354 = .ok (.invokevirtual 110, 3) := db_L_law_1354.1
theorem dL_law_1357 : decode cL_law 1357 = .ok (.iload 5, 2) := db_L_law_1354.2.1
theorem dL_law_1359 : decode cL_law 1359 = .ok (.if_icmp .eq 5, 3) := db_L_law_1354.2.2.1
theorem dL_law_1364 : decode cL_law 1364 = .ok (.goto 747, 3) := db_L_law_1354.2.2.2.1
theorem dL_law_1367 : decode cL_law 1367 = .ok (.aload_n 1, 1) := db_L_law_1354.2.2.2.2.1
theorem dL_law_1368 : decode cL_law 1368 = .ok (.aload_n 0, 1) := db_L_law_1354.2.2.2.2.2.1
theorem dL_law_1369 : decode cL_law 1369 = .ok (.iload 4, 2) := db_L_law_1354.2.2.2.2.2.2.1
theorem dL_law_1371 : decode cL_law 1371 = .ok (.iconst 1, 1) := db_L_law_1354.2.2.2.2.2.2.2.1
theorem dL_law_1372 : decode cL_law 1372 = .ok (.iadd, 1) := db_L_law_1354.2.2.2.2.2.2.2.2.1
theorem dL_law_1373 : decode cL_law 1373 = .ok (.iaload, 1) := db_L_law_1354.2.2.2.2.2.2.2.2.2.1
theorem dL_law_1374 : decode cL_law 1374 = .ok (.aload_n 0, 1) := db_L_law_1354.2.2.2.2.2.2.2.2.2.2.1
theorem dL_law_1375 : decode cL_law 1375 = .ok (.iload 4, 2) := db_L_law_1354.2.2.2.2.2.2.2.2.2.2.2.1
theorem dL_law_1377 : decode cL_law 1377 = .ok (.iconst 2, 1) := db_L_law_1354.2.2.2.2.2.2.2.2.2.2.2.2.1
theorem dL_law_1378 : decode cL_law 1378 = .ok (.iadd, 1) := db_L_law_1354.2.2.2.2.2.2.2.2.2.2.2.2.2.1
theorem dL_law_1379 : decode cL_law 1379 = .ok (.iaload, 1) := db_L_law_1354.2.2.2.2.2.2.2.2.2.2.2.2.2.2.1
theorem dL_law_1380 : decode cL_law 1380 = .ok (.aload_n 0, 1) := db_L_law_1354.2.2.2.2.2.2.2.2.2.2.2.2.2.2.2
theorem db_L_law_1381 : decode cL_law 1381 = .ok (.iload 4, 2) ∧ decode cL_law 1383 = .ok (.iconst 3, 1) ∧ decode cL_law 1384 = .ok (.iadd, 1) ∧ decode cL_law 1385 = .ok (.iaload, 1) ∧ decode cL_law 1386 = .ok (.aload_n 3, 1) ∧ decode cL_law 1387 = .ok (.invokestatic 173, 3) ∧ decode cL_law 1390 = .ok (.istore 5, 2) ∧ decode cL_law 1392 = .ok (.aload_n 2, 1) ∧ decode cL_law 1393 = .ok (.aload_n 0, 1) ∧ decode cL_law 1394 = .ok (.iload 4, 2) ∧ decode cL_law 1396 = .ok (.iconst 1, 1) ∧ decode cL_law 1397 = .ok (.iadd, 1) ∧ decode cL_law 1398 = .ok (.iaload, 1) ∧ decode cL_law 1399 = .ok (.aload_n 0, 1) ∧ decode cL_law 1400 = .ok (.iload 4, 2) ∧ decode cL_law 1402 = .ok (.iconst 2, 1) := by decide +kernel
theorem dL_law_1381 : decode cL_law 1381 = .ok (.iload 4, 2) := db_L_law_1381.1
theorem dL_law_1383 : decode cL_law 1383 = .ok (.iconst 3, 1) := db_L_law_1381.2.1
theorem dL_law_1384 : decode cL_law 1384 = .ok (.iadd, 1) := db_L_law_1381.2.2.1
theorem dL_law_1385 : decode cL_law 1385 = .ok (.iaload, 1) := db_L_law_1381.2.2.2.1
theorem dL_law_1386 : decode cL_law 1386 = .ok (.aload_n 3, 1) := db_L_law_1381.2.2.2.2.1
theorem dL_law_1387 : decode cL_law 1387 = .ok (.invokestatic 173, 3) := db_L_law_1381.2.2.2.2.2.1
theorem dL_law_1390 : decode cL_law 1390 = .ok (.istore 5, 2) := db_L_law_1381.2.2.2.2.2.2.1
theorem dL_law_1392 : decode cL_law 1392 = .ok (.aload_n 2, 1) := db_L_law_1381.2.2.2.2.2.2.2.1
theorem dL_law_1393 : decode cL_law 1393 = .ok (.aload_n 0, 1) := db_L_law_1381.2.2.2.2.2.2.2.2.1
theorem dL_law_1394 : decode cL_law 1394 = .ok (.iload 4, 2) := db_L_law_1381.2.2.2.2.2.2.2.2.2.1
theorem dL_law_1396 : decode cL_law 1396 = .ok (.iconst 1, 1) := db_L_law_1381.2.2.2.2.2.2.2.2.2.2.1
theorem dL_law_1397 : decode cL_law 1397 = .ok (.iadd, 1) := db_L_law_1381.2.2.2.2.2.2.2.2.2.2.2.1
theorem dL_law_1398 : decode cL_law 1398 = .ok (.iaload, 1) := db_L_law_1381.2.2.2.2.2.2.2.2.2.2.2.2.1
theorem dL_law_1399 : decode cL_law 1399 = .ok (.aload_n 0, 1) := db_L_law_1381.2.2.2.2.2.2.2.2.2.2.2.2.2.1
theorem dL_law_1400 : decode cL_law 1400 = .ok (.iload 4, 2) := db_L_law_1381.2.2.2.2.2.2.2.2.2.2.2.2.2.2.1
theorem dL_law_1402 : decode cL_law 1402 = .ok (.iconst 2, 1) := db_L_law_1381.2.2.2.2.2.2.2.2.2.2.2.2.2.2.2
theorem db_L_law_1403 : decode cL_law 1403 = .ok (.iadd, 1) ∧ decode cL_law 1404 = .ok (.iaload, 1) ∧ decode cL_law 1405 = .ok (.aload_n 0, 1) ∧ decode cL_law 1406 = .ok (.iload 4, 2) ∧ decode cL_law 1408 = .ok (.iconst 3, 1) ∧ decode cL_law 1409 = .ok (.iadd, 1) ∧ decode cL_law 1410 = .ok (.iaload, 1) ∧ decode cL_law 1411 = .ok (.invokevirtual 175, 3) ∧ decode cL_law 1414 = .ok (.istore 6, 2) ∧ decode cL_law 1416 = .ok (.aload_n 2, 1) ∧ decode cL_law 1417 = .ok (.invokevirtual 110, 3) ∧ decode cL_law 1420 = .ok (.iload 5, 2) ∧ decode cL_law 1422 = .ok (.if_icmp .eq 5, 3) ∧ decode cL_law 1427 = .ok (.iload 5, 2) ∧ decode cL_law 1429 = .ok (.ifCond .ne 15, 3) ∧ decode cL_law 1432 = .ok (.aload_n 3, 1) := by decide +kernel
theorem dL_law_1403 : decode cL_law 1403 = .ok (.iadd, 1) := db_L_law_1403.1
theorem dL_law_1404 : decode cL_law 1404 = .ok (.iaload, 1) := db_L_law_1403.2.1
theorem dL_law_1405 : decode cL_law 1405 = .ok (.aload_n 0, 1) := db_L_law_1403.2.2.1
theorem dL_law_1406 : decode cL_law 1406 = .ok (.iload 4, 2) := db_L_law_1403.2.2.2.1
theorem dL_law_1408 : decode cL_law 1408 = .ok (.iconst 3, 1) := db_L_law_1403.2.2.2.2.1
theorem dL_law_1409 : decode cL_law 1409 = .ok (.iadd, 1) := db_L_law_1403.2.2.2.2.2.1
theorem dL_law_1410 : decode cL_law 1410 = .ok (.iaload, 1) := db_L_law_1403.2.2.2.2.2.2.1
theorem dL_law_1411 : decode cL_law 1411 = .ok (.invokevirtual 175, 3) := db_L_law_1403.2.2.2.2.2.2.2.1
theorem dL_law_1414 : decode cL_law 1414 = .ok (.istore 6, 2) := db_L_law_1403.2.2.2.2.2.2.2.2.1
theorem dL_law_1416 : decode cL_law 1416 = .ok (.aload_n 2, 1) := db_L_law_1403.2.2.2.2.2.2.2.2.2.1
theorem dL_law_1417 : decode cL_law 1417 = .ok (.invokevirtual 110, 3) := db_L_law_1403.2.2.2.2.2.2.2.2.2.2.1
theorem dL_law_1420 : decode cL_law 1420 = .ok (.iload 5, 2) := db_L_law_1403.2.2.2.2.2.2.2.2.2.2.2.1
theorem dL_law_1422 : decode cL_law 1422 = .ok (.if_icmp .eq 5, 3) := db_L_law_1403.2.2.2.2.2.2.2.2.2.2.2.2.1
theorem dL_law_1427 : decode cL_law 1427 = .ok (.iload 5, 2) := db_L_law_1403.2.2.2.2.2.2.2.2.2.2.2.2.2.1
theorem dL_law_1429 : decode cL_law 1429 = .ok (.ifCond .ne 15, 3) := db_L_law_1403.2.2.2.2.2.2.2.2.2.2.2.2.2.2.1
theorem dL_law_1432 : decode cL_law 1432 = .ok (.aload_n 3, 1) := db_L_law_1403.2.2.2.2.2.2.2.2.2.2.2.2.2.2.2
theorem db_L_law_1433 : decode cL_law 1433 = .ok (.iconst 0, 1) ∧ decode cL_law 1434 = .ok (.laload, 1) ∧ decode cL_law 1435 = .ok (.iload 6, 2) ∧ decode cL_law 1437 = .ok (.i2l, 1) ∧ decode cL_law 1438 = .ok (.lcmp, 1) ∧ decode cL_law 1439 = .ok (.ifCond .eq 5, 3) ∧ decode cL_law 1444 = .ok (.goto 667, 3) ∧ decode cL_law 1447 = .ok (.aload_n 1, 1) ∧ decode cL_law 1448 = .ok (.aload_n 0, 1) ∧ decode cL_law 1449 = .ok (.iload 4, 2) ∧ decode cL_law 1451 = .ok (.iconst 1, 1) ∧ decode cL_law 1452 = .ok (.iadd, 1) ∧ decode cL_law 1453 = .ok (.iaload, 1) ∧ decode cL_law 1454 = .ok (.aload_n 0, 1) ∧ decode cL_law 1455 = .ok (.iload 4, 2) ∧ decode cL_law 1457 = .ok (.iconst 2, 1) := by decide +kernel
theorem dL_law_1433 : decode cL_law 1433 = .ok (.iconst 0, 1) := db_L_law_1433.1
theorem dL_law_1434 : decode cL_law 1434 = .ok (.laload, 1) := db_L_law_1433.2.1
theorem dL_law_1435 : decode cL_law 1435 = .ok (.iload 6, 2) := db_L_law_1433.2.2.1
theorem dL_law_1437 : decode cL_law 1437 = .ok (.i2l, 1) := db_L_law_1433.2.2.2.1
theorem dL_law_1438 : decode cL_law 1438 = .ok (.lcmp, 1) := db_L_law_1433.2.2.2.2.1
theorem dL_law_1439 : decode cL_law 1439 = .ok (.ifCond .eq 5, 3) := db_L_law_1433.2.2.2.2.2.1
theorem dL_law_1444 : decode cL_law 1444 = .ok (.goto 667, 3) := db_L_law_1433.2.2.2.2.2.2.1
theorem dL_law_1447 : decode cL_law 1447 = .ok (.aload_n 1, 1) := db_L_law_1433.2.2.2.2.2.2.2.1
theorem dL_law_1448 : decode cL_law 1448 = .ok (.aload_n 0, 1) := db_L_law_1433.2.2.2.2.2.2.2.2.1
theorem dL_law_1449 : decode cL_law 1449 = .ok (.iload 4, 2) := db_L_law_1433.2.2.2.2.2.2.2.2.2.1
theorem dL_law_1451 : decode cL_law 1451 = .ok (.iconst 1, 1) := db_L_law_1433.2.2.2.2.2.2.2.2.2.2.1
theorem dL_law_1452 : decode cL_law 1452 = .ok (.iadd, 1) := db_L_law_1433.2.2.2.2.2.2.2.2.2.2.2.1
theorem dL_law_1453 : decode cL_law 1453 = .ok (.iaload, 1) := db_L_law_1433.2.2.2.2.2.2.2.2.2.2.2.2.1
theorem dL_law_1454 : decode cL_law 1454 = .ok (.aload_n 0, 1) := db_L_law_1433.2.2.2.2.2.2.2.2.2.2.2.2.2.1
theorem dL_law_1455 : decode cL_law 1455 = .ok (.iload 4, 2) := db_L_law_1433.2.2.2.2.2.2.2.2.2.2.2.2.2.2.1
theorem dL_law_1457 : decode cL_law 1457 = .ok (.iconst 2, 1) := db_L_law_1433.2.2.2.2.2.2.2.2.2.2.2.2.2.2.2
theorem db_L_law_1458 : decode cL_law 1458 = .ok (.iadd, 1) ∧ decode cL_law 1459 = .ok (.iaload, 1) ∧ decode cL_law 1460 = .ok (.aload_n 0, 1) ∧ decode cL_law 1461 = .ok (.iload 4, 2) ∧ decode cL_law 1463 = .ok (.iconst 3, 1) ∧ decode cL_law 1464 = .ok (.iadd, 1) ∧ decode cL_law 1465 = .ok (.iaload, 1) ∧ decode cL_law 1466 = .ok (.aload_n 0, 1) ∧ decode cL_law 1467 = .ok (.iload 4, 2) ∧ decode cL_law 1469 = .ok (.iconst 4, 1) ∧ decode cL_law 1470 = .ok (.iadd, 1) ∧ decode cL_law 1471 = .ok (.iaload, 1) ∧ decode cL_law 1472 = .ok (.aload_n 3, 1) ∧ decode cL_law 1473 = .ok (.invokestatic 176, 3) ∧ decode cL_law 1476 = .ok (.istore 5, 2) ∧ decode cL_law 1478 = .ok (.aload_n 2, 1) := by decide +kernel
theorem dL_law_1458 : decode cL_law 1458 = .ok (.iadd, 1) := db_L_law_1458.1
theorem dL_law_1459 : decode cL_law 1459 = .ok (.iaload, 1) := db_L_law_1458.2.1
theorem dL_law_1460 : decode cL_law 1460 = .ok (.aload_n 0, 1) := db_L_law_1458.2.2.1
theorem dL_law_1461 : decode cL_law 1461 = .ok (.iload 4, 2) := db_L_law_1458.2.2.2.1
theorem dL_law_1463 : decode cL_law 1463 = .ok (.iconst 3, 1) := db_L_law_1458.2.2.2.2.1
theorem dL_law_1464 : decode cL_law 1464 = .ok (.iadd, 1) := db_L_law_1458.2.2.2.2.2.1
theorem dL_law_1465 : decode cL_law 1465 = .ok (.iaload, 1) := db_L_law_1458.2.2.2.2.2.2.1
theorem dL_law_1466 : decode cL_law 1466 = .ok (.aload_n 0, 1) := db_L_law_1458.2.2.2.2.2.2.2.1
theorem dL_law_1467 : decode cL_law 1467 = .ok (.iload 4, 2) := db_L_law_1458.2.2.2.2.2.2.2.2.1
theorem dL_law_1469 : decode cL_law 1469 = .ok (.iconst 4, 1) := db_L_law_1458.2.2.2.2.2.2.2.2.2.1
theorem dL_law_1470 : decode cL_law 1470 = .ok (.iadd, 1) := db_L_law_1458.2.2.2.2.2.2.2.2.2.2.1
theorem dL_law_1471 : decode cL_law 1471 = .ok (.iaload, 1) := db_L_law_1458.2.2.2.2.2.2.2.2.2.2.2.1
theorem dL_law_1472 : decode cL_law 1472 = .ok (.aload_n 3, 1) := db_L_law_1458.2.2.2.2.2.2.2.2.2.2.2.2.1
theorem dL_law_1473 : decode cL_law 1473 = .ok (.invokestatic 176, 3) := db_L_law_1458.2.2.2.2.2.2.2.2.2.2.2.2.2.1
theorem dL_law_1476 : decode cL_law 1476 = .ok (.istore 5, 2) := db_L_law_1458.2.2.2.2.2.2.2.2.2.2.2.2.2.2.1
theorem dL_law_1478 : decode cL_law 1478 = .ok (.aload_n 2, 1) := db_L_law_1458.2.2.2.2.2.2.2.2.2.2.2.2.2.2.2
theorem db_L_law_1479 : decode cL_law 1479 = .ok (.aload_n 0, 1) ∧ decode cL_law 1480 = .ok (.iload 4, 2) ∧ decode cL_law 1482 = .ok (.iconst 1, 1) ∧ decode cL_law 1483 = .ok (.iadd, 1) ∧ decode cL_law 1484 = .ok (.iaload, 1) ∧ decode cL_law 1485 = .ok (.aload_n 0, 1) ∧ decode cL_law 1486 = .ok (.iload 4, 2) ∧ decode cL_law 1488 = .ok (.iconst 2, 1) ∧ decode cL_law 1489 = .ok (.iadd, 1) ∧ decode cL_law 1490 = .ok (.iaload, 1) ∧ decode cL_law 1491 = .ok (.aload_n 0, 1) ∧ decode cL_law 1492 = .ok (.iload 4, 2) ∧ decode cL_law 1494 = .ok (.iconst 3, 1) ∧ decode cL_law 1495 = .ok (.iadd, 1) ∧ decode cL_law 1496 = .ok (.iaload, 1) ∧ decode cL_law 1497 = .ok (.aload_n 0, 1) := by decide +kernel
theorem dL_law_1479 : decode cL_law 1479 = .ok (.aload_n 0, 1) := db_L_law_1479.1
theorem dL_law_1480 : decode cL_law 1480 = .ok (.iload 4, 2) := db_L_law_1479.2.1
theorem dL_law_1482 : decode cL_law 1482 = .ok (.iconst 1, 1) := db_L_law_1479.2.2.1
theorem dL_law_1483 : decode cL_law 1483 = .ok (.iadd, 1) := db_L_law_1479.2.2.2.1
theorem dL_law_1484 : decode cL_law 1484 = .ok (.iaload, 1) := db_L_law_1479.2.2.2.2.1
theorem dL_law_1485 : decode cL_law 1485 = .ok (.aload_n 0, 1) := db_L_law_1479.2.2.2.2.2.1
theorem dL_law_1486 : decode cL_law 1486 = .ok (.iload 4, 2) := db_L_law_1479.2.2.2.2.2.2.1
theorem dL_law_1488 : decode cL_law 1488 = .ok (.iconst 2, 1) := db_L_law_1479.2.2.2.2.2.2.2.1
theorem dL_law_1489 : decode cL_law 1489 = .ok (.iadd, 1) := db_L_law_1479.2.2.2.2.2.2.2.2.1
theorem dL_law_1490 : decode cL_law 1490 = .ok (.iaload, 1) := db_L_law_1479.2.2.2.2.2.2.2.2.2.1
theorem dL_law_1491 : decode cL_law 1491 = .ok (.aload_n 0, 1) := db_L_law_1479.2.2.2.2.2.2.2.2.2.2.1
theorem dL_law_1492 : decode cL_law 1492 = .ok (.iload 4, 2) := db_L_law_1479.2.2.2.2.2.2.2.2.2.2.2.1
theorem dL_law_1494 : decode cL_law 1494 = .ok (.iconst 3, 1) := db_L_law_1479.2.2.2.2.2.2.2.2.2.2.2.2.1
theorem dL_law_1495 : decode cL_law 1495 = .ok (.iadd, 1) := db_L_law_1479.2.2.2.2.2.2.2.2.2.2.2.2.2.1
theorem dL_law_1496 : decode cL_law 1496 = .ok (.iaload, 1) := db_L_law_1479.2.2.2.2.2.2.2.2.2.2.2.2.2.2.1
theorem dL_law_1497 : decode cL_law 1497 = .ok (.aload_n 0, 1) := db_L_law_1479.2.2.2.2.2.2.2.2.2.2.2.2.2.2.2
theorem db_L_law_1498 : decode cL_law 1498 = .ok (.iload 4, 2) ∧ decode cL_law 1500 = .ok (.iconst 4, 1) ∧ decode cL_law 1501 = .ok (.iadd, 1) ∧ decode cL_law 1502 = .ok (.iaload, 1) ∧ decode cL_law 1503 = .ok (.invokevirtual 178, 3) ∧ decode cL_law 1506 = .ok (.istore 6, 2) ∧ decode cL_law 1508 = .ok (.aload_n 2, 1) ∧ decode cL_law 1509 = .ok (.invokevirtual 110, 3) ∧ decode cL_law 1512 = .ok (.iload 5, 2) ∧ decode cL_law 1514 = .ok (.if_icmp .eq 5, 3) ∧ decode cL_law 1519 = .ok (.iload 5, 2) ∧ decode cL_law 1521 = .ok (.ifCond .ne 15, 3) ∧ decode cL_law 1524 = .ok (.aload_n 3, 1) ∧ decode cL_law 1525 = .ok (.iconst 0, 1) ∧ decode cL_law 1526 = .ok (.laload, 1) ∧ decode cL_law 1527 = .ok (.iload 6, 2) := by decide +kernel
theorem dL_law_1498 : decode cL_law 1498 = .ok (.iload 4, 2) := db_L_law_1498.1
theorem dL_law_1500 : decode cL_law 1500 = .ok (.iconst 4, 1) := db_L_law_1498.2.1
theorem dL_law_1501 : decode cL_law 1501 = .ok (.iadd, 1) := db_L_law_1498.2.2.1
theorem dL_law_1502 : decode cL_law 1502 = .ok (.iaload, 1) := db_L_law_1498.2.2.2.1
theorem dL_law_1503 : decode cL_law 1503 = .ok (.invokevirtual 178, 3) := db_L_law_1498.2.2.2.2.1
theorem dL_law_1506 : decode cL_law 1506 = .ok (.istore 6, 2) := db_L_law_1498.2.2.2.2.2.1
theorem dL_law_1508 : decode cL_law 1508 = .ok (.aload_n 2, 1) := db_L_law_1498.2.2.2.2.2.2.1
theorem dL_law_1509 : decode cL_law 1509 = .ok (.invokevirtual 110, 3) := db_L_law_1498.2.2.2.2.2.2.2.1
theorem dL_law_1512 : decode cL_law 1512 = .ok (.iload 5, 2) := db_L_law_1498.2.2.2.2.2.2.2.2.1
theorem dL_law_1514 : decode cL_law 1514 = .ok (.if_icmp .eq 5, 3) := db_L_law_1498.2.2.2.2.2.2.2.2.2.1
theorem dL_law_1519 : decode cL_law 1519 = .ok (.iload 5, 2) := db_L_law_1498.2.2.2.2.2.2.2.2.2.2.1
theorem dL_law_1521 : decode cL_law 1521 = .ok (.ifCond .ne 15, 3) := db_L_law_1498.2.2.2.2.2.2.2.2.2.2.2.1
theorem dL_law_1524 : decode cL_law 1524 = .ok (.aload_n 3, 1) := db_L_law_1498.2.2.2.2.2.2.2.2.2.2.2.2.1
theorem dL_law_1525 : decode cL_law 1525 = .ok (.iconst 0, 1) := db_L_law_1498.2.2.2.2.2.2.2.2.2.2.2.2.2.1
theorem dL_law_1526 : decode cL_law 1526 = .ok (.laload, 1) := db_L_law_1498.2.2.2.2.2.2.2.2.2.2.2.2.2.2.1
theorem dL_law_1527 : decode cL_law 1527 = .ok (.iload 6, 2) := db_L_law_1498.2.2.2.2.2.2.2.2.2.2.2.2.2.2.2
theorem db_L_law_1529 : decode cL_law 1529 = .ok (.i2l, 1) ∧ decode cL_law 1530 = .ok (.lcmp, 1) ∧ decode cL_law 1531 = .ok (.ifCond .eq 5, 3) ∧ decode cL_law 1536 = .ok (.goto 575, 3) ∧ decode cL_law 1539 = .ok (.aload_n 1, 1) ∧ decode cL_law 1540 = .ok (.aload_n 0, 1) ∧ decode cL_law 1541 = .ok (.iload 4, 2) ∧ decode cL_law 1543 = .ok (.iconst 1, 1) ∧ decode cL_law 1544 = .ok (.iadd, 1) ∧ decode cL_law 1545 = .ok (.iaload, 1) ∧ decode cL_law 1546 = .ok (.aload_n 0, 1) ∧ decode cL_law 1547 = .ok (.iload 4, 2) ∧ decode cL_law 1549 = .ok (.iconst 2, 1) ∧ decode cL_law 1550 = .ok (.iadd, 1) ∧ decode cL_law 1551 = .ok (.iaload, 1) ∧ decode cL_law 1552 = .ok (.aload_n 0, 1) := by decide +kernel
theorem dL_law_1529 : decode cL_law 1529 = .ok (.i2l, 1) := db_L_law_1529.1
theorem dL_law_1530 : decode cL_law 1530 = .ok (.lcmp, 1) := db_L_law_1529.2.1
theorem dL_law_1531 : decode cL_law 1531 = .ok (.ifCond .eq 5, 3) := db_L_law_1529.2.2.1
theorem dL_law_1536 : decode cL_law 1536 = .ok (.goto 575, 3) := db_L_law_1529.2.2.2.1
theorem dL_law_1539 : decode cL_law 1539 = .ok (.aload_n 1, 1) := db_L_law_1529.2.2.2.2.1
theorem dL_law_1540 : decode cL_law 1540 = .ok (.aload_n 0, 1) := db_L_law_1529.2.2.2.2.2.1
theorem dL_law_1541 : decode cL_law 1541 = .ok (.iload 4, 2) := db_L_law_1529.2.2.2.2.2.2.1
theorem dL_law_1543 : decode cL_law 1543 = .ok (.iconst 1, 1) := db_L_law_1529.2.2.2.2.2.2.2.1
theorem dL_law_1544 : decode cL_law 1544 = .ok (.iadd, 1) := db_L_law_1529.2.2.2.2.2.2.2.2.1
theorem dL_law_1545 : decode cL_law 1545 = .ok (.iaload, 1) := db_L_law_1529.2.2.2.2.2.2.2.2.2.1
theorem dL_law_1546 : decode cL_law 1546 = .ok (.aload_n 0, 1) := db_L_law_1529.2.2.2.2.2.2.2.2.2.2.1
theorem dL_law_1547 : decode cL_law 1547 = .ok (.iload 4, 2) := db_L_law_1529.2.2.2.2.2.2.2.2.2.2.2.1
theorem dL_law_1549 : decode cL_law 1549 = .ok (.iconst 2, 1) := db_L_law_1529.2.2.2.2.2.2.2.2.2.2.2.2.1
theorem dL_law_1550 : decode cL_law 1550 = .ok (.iadd, 1) := db_L_law_1529.2.2.2.2.2.2.2.2.2.2.2.2.2.1
theorem dL_law_1551 : decode cL_law 1551 = .ok (.iaload, 1) := db_L_law_1529.2.2.2.2.2.2.2.2.2.2.2.2.2.2.1
theorem dL_law_1552 : decode cL_law 1552 = .ok (.aload_n 0, 1) := db_L_law_1529.2.2.2.2.2.2.2.2.2.2.2.2.2.2.2
theorem db_L_law_1553 : decode cL_law 1553 = .ok (.iload 4, 2) ∧ decode cL_law 1555 = .ok (.iconst 3, 1) ∧ decode cL_law 1556 = .ok (.iadd, 1) ∧ decode cL_law 1557 = .ok (.iaload, 1) ∧ decode cL_law 1558 = .ok (.aload_n 3, 1) ∧ decode cL_law 1559 = .ok (.invokestatic 179, 3) ∧ decode cL_law 1562 = .ok (.istore 5, 2) ∧ decode cL_law 1564 = .ok (.aload_n 2, 1) ∧ decode cL_law 1565 = .ok (.aload_n 0, 1) ∧ decode cL_law 1566 = .ok (.iload 4, 2) ∧ decode cL_law 1568 = .ok (.iconst 1, 1) ∧ decode cL_law 1569 = .ok (.iadd, 1) ∧ decode cL_law 1570 = .ok (.iaload, 1) ∧ decode cL_law 1571 = .ok (.aload_n 0, 1) ∧ decode cL_law 1572 = .ok (.iload 4, 2) ∧ decode cL_law 1574 = .ok (.iconst 2, 1) := by decide +kernel
theorem dL_law_1553 : decode cL_law 1553 = .ok (.iload 4, 2) := db_L_law_1553.1
theorem dL_law_1555 : decode cL_law 1555 = .ok (.iconst 3, 1) := db_L_law_1553.2.1
theorem dL_law_1556 : decode cL_law 1556 = .ok (.iadd, 1) := db_L_law_1553.2.2.1
theorem dL_law_1557 : decode cL_law 1557 = .ok (.iaload, 1) := db_L_law_1553.2.2.2.1
theorem dL_law_1558 : decode cL_law 1558 = .ok (.aload_n 3, 1) := db_L_law_1553.2.2.2.2.1
theorem dL_law_1559 : decode cL_law 1559 = .ok (.invokestatic 179, 3) := db_L_law_1553.2.2.2.2.2.1
theorem dL_law_1562 : decode cL_law 1562 = .ok (.istore 5, 2) := db_L_law_1553.2.2.2.2.2.2.1
theorem dL_law_1564 : decode cL_law 1564 = .ok (.aload_n 2, 1) := db_L_law_1553.2.2.2.2.2.2.2.1
theorem dL_law_1565 : decode cL_law 1565 = .ok (.aload_n 0, 1) := db_L_law_1553.2.2.2.2.2.2.2.2.1
theorem dL_law_1566 : decode cL_law 1566 = .ok (.iload 4, 2) := db_L_law_1553.2.2.2.2.2.2.2.2.2.1
theorem dL_law_1568 : decode cL_law 1568 = .ok (.iconst 1, 1) := db_L_law_1553.2.2.2.2.2.2.2.2.2.2.1
theorem dL_law_1569 : decode cL_law 1569 = .ok (.iadd, 1) := db_L_law_1553.2.2.2.2.2.2.2.2.2.2.2.1
theorem dL_law_1570 : decode cL_law 1570 = .ok (.iaload, 1) := db_L_law_1553.2.2.2.2.2.2.2.2.2.2.2.2.1
theorem dL_law_1571 : decode cL_law 1571 = .ok (.aload_n 0, 1) := db_L_law_1553.2.2.2.2.2.2.2.2.2.2.2.2.2.1
theorem dL_law_1572 : decode cL_law 1572 = .ok (.iload 4, 2) := db_L_law_1553.2.2.2.2.2.2.2.2.2.2.2.2.2.2.1
theorem dL_law_1574 : decode cL_law 1574 = .ok (.iconst 2, 1) := db_L_law_1553.2.2.2.2.2.2.2.2.2.2.2.2.2.2.2
theorem db_L_law_1575 : decode cL_law 1575 = .ok (.iadd, 1) ∧ decode cL_law 1576 = .ok (.iaload, 1) ∧ decode cL_law 1577 = .ok (.aload_n 0, 1) ∧ decode cL_law 1578 = .ok (.iload 4, 2) ∧ decode cL_law 1580 = .ok (.iconst 3, 1) ∧ decode cL_law 1581 = .ok (.iadd, 1) ∧ decode cL_law 1582 = .ok (.iaload, 1) ∧ decode cL_law 1583 = .ok (.invokevirtual 181, 3) ∧ decode cL_law 1586 = .ok (.istore 6, 2) ∧ decode cL_law 1588 = .ok (.aload_n 2, 1) ∧ decode cL_law 1589 = .ok (.invokevirtual 110, 3) ∧ decode cL_law 1592 = .ok (.iload 5, 2) ∧ decode cL_law 1594 = .ok (.if_icmp .eq 5, 3) ∧ decode cL_law 1599 = .ok (.iload 5, 2) ∧ decode cL_law 1601 = .ok (.ifCond .ne 15, 3) ∧ decode cL_law 1604 = .ok (.aload_n 3, 1) := by decide +kernel
theorem dL_law_1575 : decode cL_law 1575 = .ok (.iadd, 1) := db_L_law_1575.1
theorem dL_law_1576 : decode cL_law 1576 = .ok (.iaload, 1) := db_L_law_1575.2.1
theorem dL_law_1577 : decode cL_law 1577 = .ok (.aload_n 0, 1) := db_L_law_1575.2.2.1
theorem dL_law_1578 : decode cL_law 1578 = .ok (.iload 4, 2) := db_L_law_1575.2.2.2.1
theorem dL_law_1580 : decode cL_law 1580 = .ok (.iconst 3, 1) := db_L_law_1575.2.2.2.2.1
theorem dL_law_1581 : decode cL_law 1581 = .ok (.iadd, 1) := db_L_law_1575.2.2.2.2.2.1
theorem dL_law_1582 : decode cL_law 1582 = .ok (.iaload, 1) := db_L_law_1575.2.2.2.2.2.2.1
theorem dL_law_1583 : decode cL_law 1583 = .ok (.invokevirtual 181, 3) := db_L_law_1575.2.2.2.2.2.2.2.1
theorem dL_law_1586 : decode cL_law 1586 = .ok (.istore 6, 2) := db_L_law_1575.2.2.2.2.2.2.2.2.1
theorem dL_law_1588 : decode cL_law 1588 = .ok (.aload_n 2, 1) := db_L_law_1575.2.2.2.2.2.2.2.2.2.1
theorem dL_law_1589 : decode cL_law 1589 = .ok (.invokevirtual 110, 3) := db_L_law_1575.2.2.2.2.2.2.2.2.2.2.1
theorem dL_law_1592 : decode cL_law 1592 = .ok (.iload 5, 2) := db_L_law_1575.2.2.2.2.2.2.2.2.2.2.2.1
theorem dL_law_1594 : decode cL_law 1594 = .ok (.if_icmp .eq 5, 3) := db_L_law_1575.2.2.2.2.2.2.2.2.2.2.2.2.1
theorem dL_law_1599 : decode cL_law 1599 = .ok (.iload 5, 2) := db_L_law_1575.2.2.2.2.2.2.2.2.2.2.2.2.2.1
theorem dL_law_1601 : decode cL_law 1601 = .ok (.ifCond .ne 15, 3) := db_L_law_1575.2.2.2.2.2.2.2.2.2.2.2.2.2.2.1
theorem dL_law_1604 : decode cL_law 1604 = .ok (.aload_n 3, 1) := db_L_law_1575.2.2.2.2.2.2.2.2.2.2.2.2.2.2.2
theorem db_L_law_1605 : decode cL_law 1605 = .ok (.iconst 0, 1) ∧ decode cL_law 1606 = .ok (.laload, 1) ∧ decode cL_law 1607 = .ok (.iload 6, 2) ∧ decode cL_law 1609 = .ok (.i2l, 1) ∧ decode cL_law 1610 = .ok (.lcmp, 1) ∧ decode cL_law 1611 = .ok (.ifCond .eq 5, 3) ∧ decode cL_law 1616 = .ok (.goto 495, 3) ∧ decode cL_law 1619 = .ok (.aload_n 1, 1) ∧ decode cL_law 1620 = .ok (.aload_n 0, 1) ∧ decode cL_law 1621 = .ok (.iload 4, 2) ∧ decode cL_law 1623 = .ok (.iconst 1, 1) ∧ decode cL_law 1624 = .ok (.iadd, 1) ∧ decode cL_law 1625 = .ok (.iaload, 1) ∧ decode cL_law 1626 = .ok (.aload_n 0, 1) ∧ decode cL_law 1627 = .ok (.iload 4, 2) ∧ decode cL_law 1629 = .ok (.iconst 2, 1) := by decide +kernel
theorem dL_law_1605 : decode cL_law 1605 = .ok (.iconst 0, 1) := db_L_law_1605.1
theorem dL_law_1606 : decode cL_law 1606 = .ok (.laload, 1) := db_L_law_1605.2.1
theorem dL_law_1607 : decode cL_law 1607 = .ok (.iload 6, 2) := db_L_law_1605.2.2.1
theorem dL_law_1609 : decode cL_law 1609 = .ok (.i2l, 1) := db_L_law_1605.2.2.2.1
theorem dL_law_1610 : decode cL_law 1610 = .ok (.lcmp, 1) := db_L_law_1605.2.2.2.2.1
theorem dL_law_1611 : decode cL_law 1611 = .ok (.ifCond .eq 5, 3) := db_L_law_1605.2.2.2.2.2.1
theorem dL_law_1616 : decode cL_law 1616 = .ok (.goto 495, 3) := db_L_law_1605.2.2.2.2.2.2.1
theorem dL_law_1619 : decode cL_law 1619 = .ok (.aload_n 1, 1) := db_L_law_1605.2.2.2.2.2.2.2.1
theorem dL_law_1620 : decode cL_law 1620 = .ok (.aload_n 0, 1) := db_L_law_1605.2.2.2.2.2.2.2.2.1
theorem dL_law_1621 : decode cL_law 1621 = .ok (.iload 4, 2) := db_L_law_1605.2.2.2.2.2.2.2.2.2.1
theorem dL_law_1623 : decode cL_law 1623 = .ok (.iconst 1, 1) := db_L_law_1605.2.2.2.2.2.2.2.2.2.2.1
theorem dL_law_1624 : decode cL_law 1624 = .ok (.iadd, 1) := db_L_law_1605.2.2.2.2.2.2.2.2.2.2.2.1
theorem dL_law_1625 : decode cL_law 1625 = .ok (.iaload, 1) := db_L_law_1605.2.2.2.2.2.2.2.2.2.2.2.2.1
theorem dL_law_1626 : decode cL_law 1626 = .ok (.aload_n 0, 1) := db_L_law_1605.2.2.2.2.2.2.2.2.2.2.2.2.2.1
theorem dL_law_1627 : decode cL_law 1627 = .ok (.iload 4, 2) := db_L_law_1605.2.2.2.2.2.2.2.2.2.2.2.2.2.2.1
theorem dL_law_1629 : decode cL_law 1629 = .ok (.iconst 2, 1) := db_L_law_1605.2.2.2.2.2.2.2.2.2.2.2.2.2.2.2
theorem db_L_law_1630 : decode cL_law 1630 = .ok (.iadd, 1) ∧ decode cL_law 1631 = .ok (.iaload, 1) ∧ decode cL_law 1632 = .ok (.aload_n 0, 1) ∧ decode cL_law 1633 = .ok (.iload 4, 2) ∧ decode cL_law 1635 = .ok (.iconst 3, 1) ∧ decode cL_law 1636 = .ok (.iadd, 1) ∧ decode cL_law 1637 = .ok (.iaload, 1) ∧ decode cL_law 1638 = .ok (.aload_n 3, 1) ∧ decode cL_law 1639 = .ok (.invokestatic 182, 3) ∧ decode cL_law 1642 = .ok (.istore 5, 2) ∧ decode cL_law 1644 = .ok (.aload_n 2, 1) ∧ decode cL_law 1645 = .ok (.aload_n 0, 1) ∧ decode cL_law 1646 = .ok (.iload 4, 2) ∧ decode cL_law 1648 = .ok (.iconst 1, 1) ∧ decode cL_law 1649 = .ok (.iadd, 1) ∧ decode cL_law 1650 = .ok (.iaload, 1) := by decide +kernel
theorem dL_law_1630 : decode cL_law 1630 = .ok (.iadd, 1) := db_L_law_1630.1
theorem dL_law_1631 : decode cL_law 1631 = .ok (.iaload, 1) := db_L_law_1630.2.1
theorem dL_law_1632 : decode cL_law 1632 = .ok (.aload_n 0, 1) := db_L_law_1630.2.2.1
theorem dL_law_1633 : decode cL_law 1633 = .ok (.iload 4, 2) := db_L_law_1630.2.2.2.1
theorem dL_law_1635 : decode cL_law 1635 = .ok (.iconst 3, 1) := db_L_law_1630.2.2.2.2.1
theorem dL_law_1636 : decode cL_law 1636 = .ok (.iadd, 1) := db_L_law_1630.2.2.2.2.2.1
theorem dL_law_1637 : decode cL_law 1637 = .ok (.iaload, 1) := db_L_law_1630.2.2.2.2.2.2.1
theorem dL_law_1638 : decode cL_law 1638 = .ok (.aload_n 3, 1) := db_L_law_1630.2.2.2.2.2.2.2.1
theorem dL_law_1639 : decode cL_law 1639 = .ok (.invokestatic 182, 3) := db_L_law_1630.2.2.2.2.2.2.2.2.1
theorem dL_law_1642 : decode cL_law 1642 = .ok (.istore 5, 2) := db_L_law_1630.2.2.2.2.2.2.2.2.2.1
theorem dL_law_1644 : decode cL_law 1644 = .ok (.aload_n 2, 1) := db_L_law_1630.2.2.2.2.2.2.2.2.2.2.1
theorem dL_law_1645 : decode cL_law 1645 = .ok (.aload_n 0, 1) := db_L_law_1630.2.2.2.2.2.2.2.2.2.2.2.1
theorem dL_law_1646 : decode cL_law 1646 = .ok (.iload 4, 2) := db_L_law_1630.2.2.2.2.2.2.2.2.2.2.2.2.1
theorem dL_law_1648 : decode cL_law 1648 = .ok (.iconst 1, 1) := db_L_law_1630.2.2.2.2.2.2.2.2.2.2.2.2.2.1
theorem dL_law_1649 : decode cL_law 1649 = .ok (.iadd, 1) := db_L_law_1630.2.2.2.2.2.2.2.2.2.2.2.2.2.2.1
theorem dL_law_1650 : decode cL_law 1650 = .ok (.iaload, 1) := db_L_law_1630.2.2.2.2.2.2.2.2.2.2.2.2.2.2.2
theorem db_L_law_1651 : decode cL_law 1651 = .ok (.aload_n 0, 1) ∧ decode cL_law 1652 = .ok (.iload 4, 2) ∧ decode cL_law 1654 = .ok (.iconst 2, 1) ∧ decode cL_law 1655 = .ok (.iadd, 1) ∧ decode cL_law 1656 = .ok (.iaload, 1) ∧ decode cL_law 1657 = .ok (.aload_n 0, 1) ∧ decode cL_law 1658 = .ok (.iload 4, 2) ∧ decode cL_law 1660 = .ok (.iconst 3, 1) ∧ decode cL_law 1661 = .ok (.iadd, 1) ∧ decode cL_law 1662 = .ok (.iaload, 1) ∧ decode cL_law 1663 = .ok (.invokevirtual 184, 3) ∧ decode cL_law 1666 = .ok (.istore 6, 2) ∧ decode cL_law 1668 = .ok (.aload_n 2, 1) ∧ decode cL_law 1669 = .ok (.invokevirtual 110, 3) ∧ decode cL_law 1672 = .ok (.iload 5, 2) ∧ decode cL_law 1674 = .ok (.if_icmp .eq 5, 3) := by decide +kernel
theorem dL_law_1651 : decode cL_law 1651 = .ok (.aload_n 0, 1) := db_L_law_1651.1
theorem dL_law_1652 : decode cL_law 1652 = .ok (.iload 4, 2) := db_L_law_1651.2.1
theorem dL_law_1654 : decode cL_law 1654 = .ok (.iconst 2, 1) := db_L_law_1651.2.2.1
theorem dL_law_1655 : decode cL_law 1655 = .ok (.iadd, 1) := db_L_law_1651.2.2.2.1
theorem dL_law_1656 : decode cL_law 1656 = .ok (.iaload, 1) := db_L_law_1651.2.2.2.2.1
theorem dL_law_1657 : decode cL_law 1657 = .ok (.aload_n 0, 1) := db_L_law_1651.2.2.2.2.2.1
theorem dL_law_1658 : decode cL_law 1658 = .ok (.iload 4, 2) := db_L_law_1651.2.2.2.2.2.2.1
theorem dL_law_1660 : decode cL_law 1660 = .ok (.iconst 3, 1) := db_L_law_1651.2.2.2.2.2.2.2.1
theorem dL_law_1661 : decode cL_law 1661 = .ok (.iadd, 1) := db_L_law_1651.2.2.2.2.2.2.2.2.1
theorem dL_law_1662 : decode cL_law 1662 = .ok (.iaload, 1) := db_L_law_1651.2.2.2.2.2.2.2.2.2.1
theorem dL_law_1663 : decode cL_law 1663 = .ok (.invokevirtual 184, 3) := db_L_law_1651.2.2.2.2.2.2.2.2.2.2.1
theorem dL_law_1666 : decode cL_law 1666 = .ok (.istore 6, 2) := db_L_law_1651.2.2.2.2.2.2.2.2.2.2.2.1
theorem dL_law_1668 : decode cL_law 1668 = .ok (.aload_n 2, 1) := db_L_law_1651.2.2.2.2.2.2.2.2.2.2.2.2.1
theorem dL_law_1669 : decode cL_law 1669 = .ok (.invokevirtual 110, 3) := db_L_law_1651.2.2.2.2.2.2.2.2.2.2.2.2.2.1
theorem dL_law_1672 : decode cL_law 1672 = .ok (.iload 5, 2) := db_L_law_1651.2.2.2.2.2.2.2.2.2.2.2.2.2.2.1
theorem dL_law_1674 : decode cL_law 1674 = .ok (.if_icmp .eq 5, 3) := db_L_law_1651.2.2.2.2.2.2.2.2.2.2.2.2.2.2.2
theorem db_L_law_1679 : decode cL_law 1679 = .ok (.iload 5, 2) ∧ decode cL_law 1681 = .ok (.ifCond .ne 15, 3) ∧ decode cL_law 1684 = .ok (.aload_n 3, 1) ∧ decode cL_law 1685 = .ok (.iconst 0, 1) ∧ decode cL_law 1686 = .ok (.laload, 1) ∧ decode cL_law 1687 = .ok (.iload 6, 2) ∧ decode cL_law 1689 = .ok (.i2l, 1) ∧ decode cL_law 1690 = .ok (.lcmp, 1) ∧ decode cL_law 1691 = .ok (.ifCond .eq 5, 3) ∧ decode cL_law 1696 = .ok (.goto 415, 3) ∧ decode cL_law 1699 = .ok (.aload_n 1, 1) ∧ decode cL_law 1700 = .ok (.aload_n 0, 1) ∧ decode cL_law 1701 = .ok (.iload 4, 2) ∧ decode cL_law 1703 = .ok (.iconst 1, 1) ∧ decode cL_law 1704 = .ok (.iadd, 1) ∧ decode cL_law 1705 = .ok (.iaload, 1) := by decide +kernel
theorem dL_law_1679 : decode cL_law 1679 = .ok (.iload 5, 2) := db_L_law_1679.1
theorem dL_law_1681 : decode cL_law 1681 = .ok (.ifCond .ne 15, 3) := db_L_law_1679.2.1
theorem dL_law_1684 : decode cL_law 1684 = .ok (.aload_n 3, 1) := db_L_law_1679.2.2.1
theorem dL_law_1685 : decode cL_law 1685 = .ok (.iconst 0, 1) := db_L_law_1679.2.2.2.1
theorem dL_law_1686 : decode cL_law 1686 = .ok (.laload, 1) := db_L_law_1679.2.2.2.2.1
theorem dL_law_1687 : decode cL_law 1687 = .ok (.iload 6, 2) := db_L_law_1679.2.2.2.2.2.1
theorem dL_law_1689 : decode cL_law 1689 = .ok (.i2l, 1) := db_L_law_1679.2.2.2.2.2.2.1
theorem dL_law_1690 : decode cL_law 1690 = .ok (.lcmp, 1) := db_L_law_1679.2.2.2.2.2.2.2.1
theorem dL_law_1691 : decode cL_law 1691 = .ok (.ifCond .eq 5, 3) := db_L_law_1679.2.2.2.2.2.2.2.2.1
theorem dL_law_1696 : decode cL_law 1696 = .ok (.goto 415, 3) := db_L_law_1679.2.2.2.2.2.2.2.2.2.1
theorem dL_law_1699 : decode cL_law 1699 = .ok (.aload_n 1, 1) := db_L_law_1679.2.2.2.2.2.2.2.2.2.2.1
theorem dL_law_1700 : decode cL_law 1700 = .ok (.aload_n 0, 1) := db_L_law_1679.2.2.2.2.2.2.2.2.2.2.2.1
theorem dL_law_1701 : decode cL_law 1701 = .ok (.iload 4, 2) := db_L_law_1679.2.2.2.2.2.2.2.2.2.2.2.2.1
theorem dL_law_1703 : decode cL_law 1703 = .ok (.iconst 1, 1) := db_L_law_1679.2.2.2.2.2.2.2.2.2.2.2.2.2.1
theorem dL_law_1704 : decode cL_law 1704 = .ok (.iadd, 1) := db_L_law_1679.2.2.2.2.2.2.2.2.2.2.2.2.2.2.1
theorem dL_law_1705 : decode cL_law 1705 = .ok (.iaload, 1) := db_L_law_1679.2.2.2.2.2.2.2.2.2.2.2.2.2.2.2
theorem db_L_law_1706 : decode cL_law 1706 = .ok (.aload_n 0, 1) ∧ decode cL_law 1707 = .ok (.iload 4, 2) ∧ decode cL_law 1709 = .ok (.iconst 2, 1) ∧ decode cL_law 1710 = .ok (.iadd, 1) ∧ decode cL_law 1711 = .ok (.iaload, 1) ∧ decode cL_law 1712 = .ok (.aload_n 0, 1) ∧ decode cL_law 1713 = .ok (.iload 4, 2) ∧ decode cL_law 1715 = .ok (.iconst 3, 1) ∧ decode cL_law 1716 = .ok (.iadd, 1) ∧ decode cL_law 1717 = .ok (.iaload, 1) ∧ decode cL_law 1718 = .ok (.aload_n 3, 1) ∧ decode cL_law 1719 = .ok (.invokestatic 185, 3) ∧ decode cL_law 1722 = .ok (.istore 5, 2) ∧ decode cL_law 1724 = .ok (.aload_n 2, 1) ∧ decode cL_law 1725 = .ok (.aload_n 0, 1) ∧ decode cL_law 1726 = .ok (.iload 4, 2) := by decide +kernel
theorem dL_law_1706 : decode cL_law 1706 = .ok (.aload_n 0, 1) := db_L_law_1706.1
theorem dL_law_1707 : decode cL_law 1707 = .ok (.iload 4, 2) := db_L_law_1706.2.1
theorem dL_law_1709 : decode cL_law 1709 = .ok (.iconst 2, 1) := db_L_law_1706.2.2.1
theorem dL_law_1710 : decode cL_law 1710 = .ok (.iadd, 1) := db_L_law_1706.2.2.2.1
theorem dL_law_1711 : decode cL_law 1711 = .ok (.iaload, 1) := db_L_law_1706.2.2.2.2.1
theorem dL_law_1712 : decode cL_law 1712 = .ok (.aload_n 0, 1) := db_L_law_1706.2.2.2.2.2.1
theorem dL_law_1713 : decode cL_law 1713 = .ok (.iload 4, 2) := db_L_law_1706.2.2.2.2.2.2.1
theorem dL_law_1715 : decode cL_law 1715 = .ok (.iconst 3, 1) := db_L_law_1706.2.2.2.2.2.2.2.1
theorem dL_law_1716 : decode cL_law 1716 = .ok (.iadd, 1) := db_L_law_1706.2.2.2.2.2.2.2.2.1
theorem dL_law_1717 : decode cL_law 1717 = .ok (.iaload, 1) := db_L_law_1706.2.2.2.2.2.2.2.2.2.1
theorem dL_law_1718 : decode cL_law 1718 = .ok (.aload_n 3, 1) := db_L_law_1706.2.2.2.2.2.2.2.2.2.2.1
theorem dL_law_1719 : decode cL_law 1719 = .ok (.invokestatic 185, 3) := db_L_law_1706.2.2.2.2.2.2.2.2.2.2.2.1
theorem dL_law_1722 : decode cL_law 1722 = .ok (.istore 5, 2) := db_L_law_1706.2.2.2.2.2.2.2.2.2.2.2.2.1
theorem dL_law_1724 : decode cL_law 1724 = .ok (.aload_n 2, 1) := db_L_law_1706.2.2.2.2.2.2.2.2.2.2.2.2.2.1
theorem dL_law_1725 : decode cL_law 1725 = .ok (.aload_n 0, 1) := db_L_law_1706.2.2.2.2.2.2.2.2.2.2.2.2.2.2.1
theorem dL_law_1726 : decode cL_law 1726 = .ok (.iload 4, 2) := db_L_law_1706.2.2.2.2.2.2.2.2.2.2.2.2.2.2.2
theorem db_L_law_1728 : decode cL_law 1728 = .ok (.iconst 1, 1) ∧ decode cL_law 1729 = .ok (.iadd, 1) ∧ decode cL_law 1730 = .ok (.iaload, 1) ∧ decode cL_law 1731 = .ok (.aload_n 0, 1) ∧ decode cL_law 1732 = .ok (.iload 4, 2) ∧ decode cL_law 1734 = .ok (.iconst 2, 1) ∧ decode cL_law 1735 = .ok (.iadd, 1) ∧ decode cL_law 1736 = .ok (.iaload, 1) ∧ decode cL_law 1737 = .ok (.aload_n 0, 1) ∧ decode cL_law 1738 = .ok (.iload 4, 2) ∧ decode cL_law 1740 = .ok (.iconst 3, 1) ∧ decode cL_law 1741 = .ok (.iadd, 1) ∧ decode cL_law 1742 = .ok (.iaload, 1) ∧ decode cL_law 1743 = .ok (.invokevirtual 187, 3) ∧ decode cL_law 1746 = .ok (.istore 6, 2) ∧ decode cL_law 1748 = .ok (.aload_n 2, 1) := by decide +kernel
theorem dL_law_1728 : decode cL_law 1728 = .ok (.iconst 1, 1) := db_L_law_1728.1
theorem dL_law_1729 : decode cL_law 1729 = .ok (.iadd, 1) := db_L_law_1728.2.1
theorem dL_law_1730 : decode cL_law 1730 = .ok (.iaload, 1) := db_L_law_1728.2.2.1
theorem dL_law_1731 : decode cL_law 1731 = .ok (.aload_n 0, 1) := db_L_law_1728.2.2.2.1
theorem dL_law_1732 : decode cL_law 1732 = .ok (.iload 4, 2) := db_L_law_1728.2.2.2.2.1
theorem dL_law_1734 : decode cL_law 1734 = .ok (.iconst 2, 1) := db_L_law_1728.2.2.2.2.2.1
theorem dL_law_1735 : decode cL_law 1735 = .ok (.iadd, 1) := db_L_law_1728.2.2.2.2.2.2.1
theorem dL_law_1736 : decode cL_law 1736 = .ok (.iaload, 1) := db_L_law_1728.2.2.2.2.2.2.2.1
theorem dL_law_1737 : decode cL_law 1737 = .ok (.aload_n 0, 1) := db_L_law_1728.2.2.2.2.2.2.2.2.1
theorem dL_law_1738 : decode cL_law 1738 = .ok (.iload 4, 2) := db_L_law_1728.2.2.2.2.2.2.2.2.2.1
theorem dL_law_1740 : decode cL_law 1740 = .ok (.iconst 3, 1) := db_L_law_1728.2.2.2.2.2.2.2.2.2.2.1
theorem dL_law_1741 : decode cL_law 1741 = .ok (.iadd, 1) := db_L_law_1728.2.2.2.2.2.2.2.2.2.2.2.1
theorem dL_law_1742 : decode cL_law 1742 = .ok (.iaload, 1) := db_L_law_1728.2.2.2.2.2.2.2.2.2.2.2.2.1
theorem dL_law_1743 : decode cL_law 1743 = .ok (.invokevirtual 187, 3) := db_L_law_1728.2.2.2.2.2.2.2.2.2.2.2.2.2.1
theorem dL_law_1746 : decode cL_law 1746 = .ok (.istore 6, 2) := db_L_law_1728.2.2.2.2.2.2.2.2.2.2.2.2.2.2.1
theorem dL_law_1748 : decode cL_law 1748 = .ok (.aload_n 2, 1) := db_L_law_1728.2.2.2.2.2.2.2.2.2.2.2.2.2.2.2
theorem db_L_law_1749 : decode cL_law 1749 = .ok (.invokevirtual 110, 3) ∧ decode cL_law 1752 = .ok (.iload 5, 2) ∧ decode cL_law 1754 = .ok (.if_icmp .eq 5, 3) ∧ decode cL_law 1759 = .ok (.iload 5, 2) ∧ decode cL_law 1761 = .ok (.ifCond .ne 15, 3) ∧ decode cL_law 1764 = .ok (.aload_n 3, 1) ∧ decode cL_law 1765 = .ok (.iconst 0, 1) ∧ decode cL_law 1766 = .ok (.laload, 1) ∧ decode cL_law 1767 = .ok (.iload 6, 2) ∧ decode cL_law 1769 = .ok (.i2l, 1) ∧ decode cL_law 1770 = .ok (.lcmp, 1) ∧ decode cL_law 1771 = .ok (.ifCond .eq 5, 3) ∧ decode cL_law 1776 = .ok (.goto 335, 3) ∧ decode cL_law 1779 = .ok (.aload_n 1, 1) ∧ decode cL_law 1780 = .ok (.aload_n 0, 1) ∧ decode cL_law 1781 = .ok (.iload 4, 2) := by decide +kernel
theorem dL_law_1749 : decode cL_law 1749 = .ok (.invokevirtual 110, 3) := db_L_law_1749.1
theorem dL_law_1752 : decode cL_law 1752 = .ok (.iload 5, 2) := db_L_law_1749.2.1
theorem dL_law_1754 : decode cL_law 1754 = .ok (.if_icmp .eq 5, 3) := db_L_law_1749.2.2.1
theorem dL_law_1759 : decode cL_law 1759 = .ok (.iload 5, 2) := db_L_law_1749.2.2.2.1
theorem dL_law_1761 : decode cL_law 1761 = .ok (.ifCond .ne 15, 3) := db_L_law_1749.2.2.2.2.1
theorem dL_law_1764 : decode cL_law 1764 = .ok (.aload_n 3, 1) := db_L_law_1749.2.2.2.2.2.1
theorem dL_law_1765 : decode cL_law 1765 = .ok (.iconst 0, 1) := db_L_law_1749.2.2.2.2.2.2.1
theorem dL_law_1766 : decode cL_law 1766 = .ok (.laload, 1) := db_L_law_1749.2.2.2.2.2.2.2.1
theorem dL_law_1767 : decode cL_law 1767 = .ok (.iload 6, 2) := db_L_law_1749.2.2.2.2.2.2.2.2.1
theorem dL_law_1769 : decode cL_law 1769 = .ok (.i2l, 1) := db_L_law_1749.2.2.2.2.2.2.2.2.2.1
theorem dL_law_1770 : decode cL_law 1770 = .ok (.lcmp, 1) := db_L_law_1749.2.2.2.2.2.2.2.2.2.2.1
theorem dL_law_1771 : decode cL_law 1771 = .ok (.ifCond .eq 5, 3) := db_L_law_1749.2.2.2.2.2.2.2.2.2.2.2.1
theorem dL_law_1776 : decode cL_law 1776 = .ok (.goto 335, 3) := db_L_law_1749.2.2.2.2.2.2.2.2.2.2.2.2.1
theorem dL_law_1779 : decode cL_law 1779 = .ok (.aload_n 1, 1) := db_L_law_1749.2.2.2.2.2.2.2.2.2.2.2.2.2.1
theorem dL_law_1780 : decode cL_law 1780 = .ok (.aload_n 0, 1) := db_L_law_1749.2.2.2.2.2.2.2.2.2.2.2.2.2.2.1
theorem dL_law_1781 : decode cL_law 1781 = .ok (.iload 4, 2) := db_L_law_1749.2.2.2.2.2.2.2.2.2.2.2.2.2.2.2
theorem db_L_law_1783 : decode cL_law 1783 = .ok (.iconst 1, 1) ∧ decode cL_law 1784 = .ok (.iadd, 1) ∧ decode cL_law 1785 = .ok (.iaload, 1) ∧ decode cL_law 1786 = .ok (.aload_n 0, 1) ∧ decode cL_law 1787 = .ok (.iload 4, 2) ∧ decode cL_law 1789 = .ok (.iconst 2, 1) ∧ decode cL_law 1790 = .ok (.iadd, 1) ∧ decode cL_law 1791 = .ok (.iaload, 1) ∧ decode cL_law 1792 = .ok (.aload_n 0, 1) ∧ decode cL_law 1793 = .ok (.iload 4, 2) ∧ decode cL_law 1795 = .ok (.iconst 3, 1) ∧ decode cL_law 1796 = .ok (.iadd, 1) ∧ decode cL_law 1797 = .ok (.iaload, 1) ∧ decode cL_law 1798 = .ok (.aload_n 0, 1) ∧ decode cL_law 1799 = .ok (.iload 4, 2) ∧ decode cL_law 1801 = .ok (.iconst 4, 1) := by decide +kernel
theorem dL_law_1783 : decode cL_law 1783 = .ok (.iconst 1, 1) := db_L_law_1783.1
theorem dL_law_1784 : decode cL_law 1784 = .ok (.iadd, 1) := db_L_law_1783.2.1
theorem dL_law_1785 : decode cL_law 1785 = .ok (.iaload, 1) := db_L_law_1783.2.2.1
theorem dL_law_1786 : decode cL_law 1786 = .ok (.aload_n 0, 1) := db_L_law_1783.2.2.2.1
theorem dL_law_1787 : decode cL_law 1787 = .ok (.iload 4, 2) := db_L_law_1783.2.2.2.2.1
theorem dL_law_1789 : decode cL_law 1789 = .ok (.iconst 2, 1) := db_L_law_1783.2.2.2.2.2.1
theorem dL_law_1790 : decode cL_law 1790 = .ok (.iadd, 1) := db_L_law_1783.2.2.2.2.2.2.1
theorem dL_law_1791 : decode cL_law 1791 = .ok (.iaload, 1) := db_L_law_1783.2.2.2.2.2.2.2.1
theorem dL_law_1792 : decode cL_law 1792 = .ok (.aload_n 0, 1) := db_L_law_1783.2.2.2.2.2.2.2.2.1
theorem dL_law_1793 : decode cL_law 1793 = .ok (.iload 4, 2) := db_L_law_1783.2.2.2.2.2.2.2.2.2.1
theorem dL_law_1795 : decode cL_law 1795 = .ok (.iconst 3, 1) := db_L_law_1783.2.2.2.2.2.2.2.2.2.2.1
theorem dL_law_1796 : decode cL_law 1796 = .ok (.iadd, 1) := db_L_law_1783.2.2.2.2.2.2.2.2.2.2.2.1
theorem dL_law_1797 : decode cL_law 1797 = .ok (.iaload, 1) := db_L_law_1783.2.2.2.2.2.2.2.2.2.2.2.2.1
theorem dL_law_1798 : decode cL_law 1798 = .ok (.aload_n 0, 1) := db_L_law_1783.2.2.2.2.2.2.2.2.2.2.2.2.2.1
theorem dL_law_1799 : decode cL_law 1799 = .ok (.iload 4, 2) := db_L_law_1783.2.2.2.2.2.2.2.2.2.2.2.2.2.2.1
theorem dL_law_1801 : decode cL_law 1801 = .ok (.iconst 4, 1) := db_L_law_1783.2.2.2.2.2.2.2.2.2.2.2.2.2.2.2
theorem db_L_law_1802 : decode cL_law 1802 = .ok (.iadd, 1) ∧ decode cL_law 1803 = .ok (.iaload, 1) ∧ decode cL_law 1804 = .ok (.aload_n 3, 1) ∧ decode cL_law 1805 = .ok (.invokestatic 188, 3) ∧ decode cL_law 1808 = .ok (.istore 5, 2) ∧ decode cL_law 1810 = .ok (.aload_n 2, 1) ∧ decode cL_law 1811 = .ok (.aload_n 0, 1) ∧ decode cL_law 1812 = .ok (.iload 4, 2) ∧ decode cL_law 1814 = .ok (.iconst 1, 1) ∧ decode cL_law 1815 = .ok (.iadd, 1) ∧ decode cL_law 1816 = .ok (.iaload, 1) ∧ decode cL_law 1817 = .ok (.aload_n 0, 1) ∧ decode cL_law 1818 = .ok (.iload 4, 2) ∧ decode cL_law 1820 = .ok (.iconst 2, 1) ∧ decode cL_law 1821 = .ok (.iadd, 1) ∧ decode cL_law 1822 = .ok (.iaload, 1) := by decide +kernel
theorem dL_law_1802 : decode cL_law 1802 = .ok (.iadd, 1) := db_L_law_1802.1
theorem dL_law_1803 : decode cL_law 1803 = .ok (.iaload, 1) := db_L_law_1802.2.1
theorem dL_law_1804 : decode cL_law 1804 = .ok (.aload_n 3, 1) := db_L_law_1802.2.2.1
theorem dL_law_1805 : decode cL_law 1805 = .ok (.invokestatic 188, 3) := db_L_law_1802.2.2.2.1
theorem dL_law_1808 : decode cL_law 1808 = .ok (.istore 5, 2) := db_L_law_1802.2.2.2.2.1
theorem dL_law_1810 : decode cL_law 1810 = .ok (.aload_n 2, 1) := db_L_law_1802.2.2.2.2.2.1
theorem dL_law_1811 : decode cL_law 1811 = .ok (.aload_n 0, 1) := db_L_law_1802.2.2.2.2.2.2.1
theorem dL_law_1812 : decode cL_law 1812 = .ok (.iload 4, 2) := db_L_law_1802.2.2.2.2.2.2.2.1
theorem dL_law_1814 : decode cL_law 1814 = .ok (.iconst 1, 1) := db_L_law_1802.2.2.2.2.2.2.2.2.1
theorem dL_law_1815 : decode cL_law 1815 = .ok (.iadd, 1) := db_L_law_1802.2.2.2.2.2.2.2.2.2.1
theorem dL_law_1816 : decode cL_law 1816 = .ok (.iaload, 1) := db_L_law_1802.2.2.2.2.2.2.2.2.2.2.1
theorem dL_law_1817 : decode cL_law 1817 = .ok (.aload_n 0, 1) := db_L_law_1802.2.2.2.2.2.2.2.2.2.2.2.1
theorem dL_law_1818 : decode cL_law 1818 = .ok (.iload 4, 2) := db_L_law_1802.2.2.2.2.2.2.2.2.2.2.2.2.1
theorem dL_law_1820 : decode cL_law 1820 = .ok (.iconst 2, 1) := db_L_law_1802.2.2.2.2.2.2.2.2.2.2.2.2.2.1
theorem dL_law_1821 : decode cL_law 1821 = .ok (.iadd, 1) := db_L_law_1802.2.2.2.2.2.2.2.2.2.2.2.2.2.2.1
theorem dL_law_1822 : decode cL_law 1822 = .ok (.iaload, 1) := db_L_law_1802.2.2.2.2.2.2.2.2.2.2.2.2.2.2.2
theorem db_L_law_1823 : decode cL_law 1823 = .ok (.aload_n 0, 1) ∧ decode cL_law 1824 = .ok (.iload 4, 2) ∧ decode cL_law 1826 = .ok (.iconst 3, 1) ∧ decode cL_law 1827 = .ok (.iadd, 1) ∧ decode cL_law 1828 = .ok (.iaload, 1) ∧ decode cL_law 1829 = .ok (.aload_n 0, 1) ∧ decode cL_law 1830 = .ok (.iload 4, 2) ∧ decode cL_law 1832 = .ok (.iconst 4, 1) ∧ decode cL_law 1833 = .ok (.iadd, 1) ∧ decode cL_law 1834 = .ok (.iaload, 1) ∧ decode cL_law 1835 = .ok (.invokevirtual 190, 3) ∧ decode cL_law 1838 = .ok (.istore 6, 2) ∧ decode cL_law 1840 = .ok (.aload_n 2, 1) ∧ decode cL_law 1841 = .ok (.invokevirtual 110, 3) ∧ decode cL_law 1844 = .ok (.iload 5, 2) ∧ decode cL_law 1846 = .ok (.if_icmp .eq 5, 3) := by decide +kernel
theorem dL_law_1823 : decode cL_law 1823 = .ok (.aload_n 0, 1) := db_L_law_1823.1
theorem dL_law_1824 : decode cL_law 1824 = .ok (.iload 4, 2) := db_L_law_1823.2.1
theorem dL_law_1826 : decode cL_law 1826 = .ok (.iconst 3, 1) := db_L_law_1823.2.2.1
theorem dL_law_1827 : decode cL_law 1827 = .ok (.iadd, 1) := db_L_law_1823.2.2.2.1
theorem dL_law_1828 : decode cL_law 1828 = .ok (.iaload, 1) := db_L_law_1823.2.2.2.2.1
theorem dL_law_1829 : decode cL_law 1829 = .ok (.aload_n 0, 1) := db_L_law_1823.2.2.2.2.2.1
theorem dL_law_1830 : decode cL_law 1830 = .ok (.iload 4, 2) := db_L_law_1823.2.2.2.2.2.2.1
theorem dL_law_1832 : decode cL_law 1832 = .ok (.iconst 4, 1) := db_L_law_1823.2.2.2.2.2.2.2.1
theorem dL_law_1833 : decode cL_law 1833 = .ok (.iadd, 1) := db_L_law_1823.2.2.2.2.2.2.2.2.1
theorem dL_law_1834 : decode cL_law 1834 = .ok (.iaload, 1) := db_L_law_1823.2.2.2.2.2.2.2.2.2.1
theorem dL_law_1835 : decode cL_law 1835 = .ok (.invokevirtual 190, 3) := db_L_law_1823.2.2.2.2.2.2.2.2.2.2.1
theorem dL_law_1838 : decode cL_law 1838 = .ok (.istore 6, 2) := db_L_law_1823.2.2.2.2.2.2.2.2.2.2.2.1
theorem dL_law_1840 : decode cL_law 1840 = .ok (.aload_n 2, 1) := db_L_law_1823.2.2.2.2.2.2.2.2.2.2.2.2.1
theorem dL_law_1841 : decode cL_law 1841 = .ok (.invokevirtual 110, 3) := db_L_law_1823.2.2.2.2.2.2.2.2.2.2.2.2.2.1
theorem dL_law_1844 : decode cL_law 1844 = .ok (.iload 5, 2) := db_L_law_1823.2.2.2.2.2.2.2.2.2.2.2.2.2.2.1
theorem dL_law_1846 : decode cL_law 1846 = .ok (.if_icmp .eq 5, 3) := db_L_law_1823.2.2.2.2.2.2.2.2.2.2.2.2.2.2.2
theorem db_L_law_1851 : decode cL_law 1851 = .ok (.iload 5, 2) ∧ decode cL_law 1853 = .ok (.ifCond .ne 15, 3) ∧ decode cL_law 1856 = .ok (.aload_n 3, 1) ∧ decode cL_law 1857 = .ok (.iconst 0, 1) ∧ decode cL_law 1858 = .ok (.laload, 1) ∧ decode cL_law 1859 = .ok (.iload 6, 2) ∧ decode cL_law 1861 = .ok (.i2l, 1) ∧ decode cL_law 1862 = .ok (.lcmp, 1) ∧ decode cL_law 1863 = .ok (.ifCond .eq 5, 3) ∧ decode cL_law 1868 = .ok (.goto 243, 3) ∧ decode cL_law 1871 = .ok (.aload_n 1, 1) ∧ decode cL_law 1872 = .ok (.aload_n 0, 1) ∧ decode cL_law 1873 = .ok (.iload 4, 2) ∧ decode cL_law 1875 = .ok (.iconst 1, 1) ∧ decode cL_law 1876 = .ok (.iadd, 1) ∧ decode cL_law 1877 = .ok (.iaload, 1) := by decide +kernel
theorem dL_law_1851 : decode cL_law 1851 = .ok (.iload 5, 2) := db_L_law_1851.1
theorem dL_law_1853 : decode cL_law 1853 = .ok (.ifCond .ne 15, 3) := db_L_law_1851.2.1
theorem dL_law_1856 : decode cL_law 1856 = .ok (.aload_n 3, 1) := db_L_law_1851.2.2.1
theorem dL_law_1857 : decode cL_law 1857 = .ok (.iconst 0, 1) := db_L_law_1851.2.2.2.1
theorem dL_law_1858 : decode cL_law 1858 = .ok (.laload, 1) := db_L_law_1851.2.2.2.2.1
theorem dL_law_1859 : decode cL_law 1859 = .ok (.iload 6, 2) := db_L_law_1851.2.2.2.2.2.1
theorem dL_law_1861 : decode cL_law 1861 = .ok (.i2l, 1) := db_L_law_1851.2.2.2.2.2.2.1
theorem dL_law_1862 : decode cL_law 1862 = .ok (.lcmp, 1) := db_L_law_1851.2.2.2.2.2.2.2.1
theorem dL_law_1863 : decode cL_law 1863 = .ok (.ifCond .eq 5, 3) := db_L_law_1851.2.2.2.2.2.2.2.2.1
theorem dL_law_1868 : decode cL_law 1868 = .ok (.goto 243, 3) := db_L_law_1851.2.2.2.2.2.2.2.2.2.1
theorem dL_law_1871 : decode cL_law 1871 = .ok (.aload_n 1, 1) := db_L_law_1851.2.2.2.2.2.2.2.2.2.2.1
theorem dL_law_1872 : decode cL_law 1872 = .ok (.aload_n 0, 1) := db_L_law_1851.2.2.2.2.2.2.2.2.2.2.2.1
theorem dL_law_1873 : decode cL_law 1873 = .ok (.iload 4, 2) := db_L_law_1851.2.2.2.2.2.2.2.2.2.2.2.2.1
theorem dL_law_1875 : decode cL_law 1875 = .ok (.iconst 1, 1) := db_L_law_1851.2.2.2.2.2.2.2.2.2.2.2.2.2.1
theorem dL_law_1876 : decode cL_law 1876 = .ok (.iadd, 1) := db_L_law_1851.2.2.2.2.2.2.2.2.2.2.2.2.2.2.1
theorem dL_law_1877 : decode cL_law 1877 = .ok (.iaload, 1) := db_L_law_1851.2.2.2.2.2.2.2.2.2.2.2.2.2.2.2
theorem db_L_law_1878 : decode cL_law 1878 = .ok (.aload_n 0, 1) ∧ decode cL_law 1879 = .ok (.iload 4, 2) ∧ decode cL_law 1881 = .ok (.iconst 2, 1) ∧ decode cL_law 1882 = .ok (.iadd, 1) ∧ decode cL_law 1883 = .ok (.iaload, 1) ∧ decode cL_law 1884 = .ok (.aload_n 0, 1) ∧ decode cL_law 1885 = .ok (.iload 4, 2) ∧ decode cL_law 1887 = .ok (.iconst 3, 1) ∧ decode cL_law 1888 = .ok (.iadd, 1) ∧ decode cL_law 1889 = .ok (.iaload, 1) ∧ decode cL_law 1890 = .ok (.aload_n 0, 1) ∧ decode cL_law 1891 = .ok (.iload 4, 2) ∧ decode cL_law 1893 = .ok (.iconst 4, 1) ∧ decode cL_law 1894 = .ok (.iadd, 1) ∧ decode cL_law 1895 = .ok (.iaload, 1) ∧ decode cL_law 1896 = .ok (.aload_n 3, 1) := by decide +kernel
theorem dL_law_1878 : decode cL_law 1878 = .ok (.aload_n 0, 1) := db_L_law_1878.1
theorem dL_law_1879 : decode cL_law 1879 = .ok (.iload 4, 2) := db_L_law_1878.2.1
theorem dL_law_1881 : decode cL_law 1881 = .ok (.iconst 2, 1) := db_L_law_1878.2.2.1
theorem dL_law_1882 : decode cL_law 1882 = .ok (.iadd, 1) := db_L_law_1878.2.2.2.1
theorem dL_law_1883 : decode cL_law 1883 = .ok (.iaload, 1) := db_L_law_1878.2.2.2.2.1
theorem dL_law_1884 : decode cL_law 1884 = .ok (.aload_n 0, 1) := db_L_law_1878.2.2.2.2.2.1
theorem dL_law_1885 : decode cL_law 1885 = .ok (.iload 4, 2) := db_L_law_1878.2.2.2.2.2.2.1
theorem dL_law_1887 : decode cL_law 1887 = .ok (.iconst 3, 1) := db_L_law_1878.2.2.2.2.2.2.2.1
theorem dL_law_1888 : decode cL_law 1888 = .ok (.iadd, 1) := db_L_law_1878.2.2.2.2.2.2.2.2.1
theorem dL_law_1889 : decode cL_law 1889 = .ok (.iaload, 1) := db_L_law_1878.2.2.2.2.2.2.2.2.2.1
theorem dL_law_1890 : decode cL_law 1890 = .ok (.aload_n 0, 1) := db_L_law_1878.2.2.2.2.2.2.2.2.2.2.1
theorem dL_law_1891 : decode cL_law 1891 = .ok (.iload 4, 2) := db_L_law_1878.2.2.2.2.2.2.2.2.2.2.2.1
theorem dL_law_1893 : decode cL_law 1893 = .ok (.iconst 4, 1) := db_L_law_1878.2.2.2.2.2.2.2.2.2.2.2.2.1
theorem dL_law_1894 : decode cL_law 1894 = .ok (.iadd, 1) := db_L_law_1878.2.2.2.2.2.2.2.2.2.2.2.2.2.1
theorem dL_law_1895 : decode cL_law 1895 = .ok (.iaload, 1) := db_L_law_1878.2.2.2.2.2.2.2.2.2.2.2.2.2.2.1
theorem dL_law_1896 : decode cL_law 1896 = .ok (.aload_n 3, 1) := db_L_law_1878.2.2.2.2.2.2.2.2.2.2.2.2.2.2.2
theorem db_L_law_1897 : decode cL_law 1897 = .ok (.invokestatic 191, 3) ∧ decode cL_law 1900 = .ok (.istore 5, 2) ∧ decode cL_law 1902 = .ok (.aload_n 2, 1) ∧ decode cL_law 1903 = .ok (.aload_n 0, 1) ∧ decode cL_law 1904 = .ok (.iload 4, 2) ∧ decode cL_law 1906 = .ok (.iconst 1, 1) ∧ decode cL_law 1907 = .ok (.iadd, 1) ∧ decode cL_law 1908 = .ok (.iaload, 1) ∧ decode cL_law 1909 = .ok (.aload_n 0, 1) ∧ decode cL_law 1910 = .ok (.iload 4, 2) ∧ decode cL_law 1912 = .ok (.iconst 2, 1) ∧ decode cL_law 1913 = .ok (.iadd, 1) ∧ decode cL_law 1914 = .ok (.iaload, 1) ∧ decode cL_law 1915 = .ok (.aload_n 0, 1) ∧ decode cL_law 1916 = .ok (.iload 4, 2) ∧ decode cL_law 1918 = .ok (.iconst 3, 1) := by decide +kernel
theorem dL_law_1897 : decode cL_law 1897 = .ok (.invokestatic 191, 3) := db_L_law_1897.1
theorem dL_law_1900 : decode cL_law 1900 = .ok (.istore 5, 2) := db_L_law_1897.2.1
theorem dL_law_1902 : decode cL_law 1902 = .ok (.aload_n 2, 1) := db_L_law_1897.2.2.1
theorem dL_law_1903 : decode cL_law 1903 = .ok (.aload_n 0, 1) := db_L_law_1897.2.2.2.1
theorem dL_law_1904 : decode cL_law 1904 = .ok (.iload 4, 2) := db_L_law_1897.2.2.2.2.1
theorem dL_law_1906 : decode cL_law 1906 = .ok (.iconst 1, 1) := db_L_law_1897.2.2.2.2.2.1
theorem dL_law_1907 : decode cL_law 1907 = .ok (.iadd, 1) := db_L_law_1897.2.2.2.2.2.2.1
theorem dL_law_1908 : decode cL_law 1908 = .ok (.iaload, 1) := db_L_law_1897.2.2.2.2.2.2.2.1
theorem dL_law_1909 : decode cL_law 1909 = .ok (.aload_n 0, 1) := db_L_law_1897.2.2.2.2.2.2.2.2.1
theorem dL_law_1910 : decode cL_law 1910 = .ok (.iload 4, 2) := db_L_law_1897.2.2.2.2.2.2.2.2.2.1
theorem dL_law_1912 : decode cL_law 1912 = .ok (.iconst 2, 1) := db_L_law_1897.2.2.2.2.2.2.2.2.2.2.1
theorem dL_law_1913 : decode cL_law 1913 = .ok (.iadd, 1) := db_L_law_1897.2.2.2.2.2.2.2.2.2.2.2.1
theorem dL_law_1914 : decode cL_law 1914 = .ok (.iaload, 1) := db_L_law_1897.2.2.2.2.2.2.2.2.2.2.2.2.1
theorem dL_law_1915 : decode cL_law 1915 = .ok (.aload_n 0, 1) := db_L_law_1897.2.2.2.2.2.2.2.2.2.2.2.2.2.1
theorem dL_law_1916 : decode cL_law 1916 = .ok (.iload 4, 2) := db_L_law_1897.2.2.2.2.2.2.2.2.2.2.2.2.2.2.1
theorem dL_law_1918 : decode cL_law 1918 = .ok (.iconst 3, 1) := db_L_law_1897.2.2.2.2.2.2.2.2.2.2.2.2.2.2.2
theorem db_L_law_1919 : decode cL_law 1919 = .ok (.iadd, 1) ∧ decode cL_law 1920 = .ok (.iaload, 1) ∧ decode cL_law 1921 = .ok (.aload_n 0, 1) ∧ decode cL_law 1922 = .ok (.iload 4, 2) ∧ decode cL_law 1924 = .ok (.iconst 4, 1) ∧ decode cL_law 1925 = .ok (.iadd, 1) ∧ decode cL_law 1926 = .ok (.iaload, 1) ∧ decode cL_law 1927 = .ok (.invokevirtual 193, 3) ∧ decode cL_law 1930 = .ok (.istore 6, 2) ∧ decode cL_law 1932 = .ok (.aload_n 2, 1) ∧ decode cL_law 1933 = .ok (.invokevirtual 110, 3) ∧ decode cL_law 1936 = .ok (.iload 5, 2) ∧ decode cL_law 1938 = .ok (.if_icmp .eq 5, 3) ∧ decode cL_law 1943 = .ok (.iload 5, 2) ∧ decode cL_law 1945 = .ok (.ifCond .ne 15, 3) ∧ decode cL_law 1960 = .ok (.goto 151, 3) := by decide +kernel
theorem dL_law_1919 : decode cL_law 1919 = .ok (.iadd, 1) := db_L_law_1919.1
theorem dL_law_1920 : decode cL_law 1920 = .ok (.iaload, 1) := db_L_law_1919.2.1
theorem dL_law_1921 : decode cL_law 1921 = .ok (.aload_n 0, 1) := db_L_law_1919.2.2.1
theorem dL_law_1922 : decode cL_law 1922 = .ok (.iload 4, 2) := db_L_law_1919.2.2.2.1
theorem dL_law_1924 : decode cL_law 1924 = .ok (.iconst 4, 1) := db_L_law_1919.2.2.2.2.1
theorem dL_law_1925 : decode cL_law 1925 = .ok (.iadd, 1) := db_L_law_1919.2.2.2.2.2.1
theorem dL_law_1926 : decode cL_law 1926 = .ok (.iaload, 1) := db_L_law_1919.2.2.2.2.2.2.1
theorem dL_law_1927 : decode cL_law 1927 = .ok (.invokevirtual 193, 3) := db_L_law_1919.2.2.2.2.2.2.2.1
theorem dL_law_1930 : decode cL_law 1930 = .ok (.istore 6, 2) := db_L_law_1919.2.2.2.2.2.2.2.2.1
theorem dL_law_1932 : decode cL_law 1932 = .ok (.aload_n 2, 1) := db_L_law_1919.2.2.2.2.2.2.2.2.2.1
theorem dL_law_1933 : decode cL_law 1933 = .ok (.invokevirtual 110, 3) := db_L_law_1919.2.2.2.2.2.2.2.2.2.2.1
theorem dL_law_1936 : decode cL_law 1936 = .ok (.iload 5, 2) := db_L_law_1919.2.2.2.2.2.2.2.2.2.2.2.1
theorem dL_law_1938 : decode cL_law 1938 = .ok (.if_icmp .eq 5, 3) := db_L_law_1919.2.2.2.2.2.2.2.2.2.2.2.2.1
theorem dL_law_1943 : decode cL_law 1943 = .ok (.iload 5, 2) := db_L_law_1919.2.2.2.2.2.2.2.2.2.2.2.2.2.1
theorem dL_law_1945 : decode cL_law 1945 = .ok (.ifCond .ne 15, 3) := db_L_law_1919.2.2.2.2.2.2.2.2.2.2.2.2.2.2.1
theorem dL_law_1960 : decode cL_law 1960 = .ok (.goto 151, 3) := db_L_law_1919.2.2.2.2.2.2.2.2.2.2.2.2.2.2.2
theorem db_L_law_1963 : decode cL_law 1963 = .ok (.aload_n 1, 1) ∧ decode cL_law 1964 = .ok (.aload_n 0, 1) ∧ decode cL_law 1965 = .ok (.iload 4, 2) ∧ decode cL_law 1967 = .ok (.iconst 1, 1) ∧ decode cL_law 1968 = .ok (.iadd, 1) ∧ decode cL_law 1969 = .ok (.iaload, 1) ∧ decode cL_law 1970 = .ok (.aload_n 0, 1) ∧ decode cL_law 1971 = .ok (.iload 4, 2) ∧ decode cL_law 1973 = .ok (.iconst 2, 1) ∧ decode cL_law 1974 = .ok (.iadd, 1) ∧ decode cL_law 1975 = .ok (.iaload, 1) ∧ decode cL_law 1976 = .ok (.aload_n 0, 1) ∧ decode cL_law 1977 = .ok (.iload 4, 2) ∧ decode cL_law 1979 = .ok (.iconst 3, 1) ∧ decode cL_law 1980 = .ok (.iadd, 1) ∧ decode cL_law 1981 = .ok (.iaload, 1) := by decide +kernel
theorem dL_law_1963 : decode cL_law 1963 = .ok (.aload_n 1, 1) := db_L_law_1963.1
theorem dL_law_1964 : decode cL_law 1964 = .ok (.aload_n 0, 1) := db_L_law_1963.2.1
theorem dL_law_1965 : decode cL_law 1965 = .ok (.iload 4, 2) := db_L_law_1963.2.2.1
theorem dL_law_1967 : decode cL_law 1967 = .ok (.iconst 1, 1) := db_L_law_1963.2.2.2.1
theorem dL_law_1968 : decode cL_law 1968 = .ok (.iadd, 1) := db_L_law_1963.2.2.2.2.1
theorem dL_law_1969 : decode cL_law 1969 = .ok (.iaload, 1) := db_L_law_1963.2.2.2.2.2.1
theorem dL_law_1970 : decode cL_law 1970 = .ok (.aload_n 0, 1) := db_L_law_1963.2.2.2.2.2.2.1
theorem dL_law_1971 : decode cL_law 1971 = .ok (.iload 4, 2) := db_L_law_1963.2.2.2.2.2.2.2.1
theorem dL_law_1973 : decode cL_law 1973 = .ok (.iconst 2, 1) := db_L_law_1963.2.2.2.2.2.2.2.2.1
theorem dL_law_1974 : decode cL_law 1974 = .ok (.iadd, 1) := db_L_law_1963.2.2.2.2.2.2.2.2.2.1
theorem dL_law_1975 : decode cL_law 1975 = .ok (.iaload, 1) := db_L_law_1963.2.2.2.2.2.2.2.2.2.2.1
theorem dL_law_1976 : decode cL_law 1976 = .ok (.aload_n 0, 1) := db_L_law_1963.2.2.2.2.2.2.2.2.2.2.2.1
theorem dL_law_1977 : decode cL_law 1977 = .ok (.iload 4, 2) := db_L_law_1963.2.2.2.2.2.2.2.2.2.2.2.2.1
theorem dL_law_1979 : decode cL_law 1979 = .ok (.iconst 3, 1) := db_L_law_1963.2.2.2.2.2.2.2.2.2.2.2.2.2.1
theorem dL_law_1980 : decode cL_law 1980 = .ok (.iadd, 1) := db_L_law_1963.2.2.2.2.2.2.2.2.2.2.2.2.2.2.1
theorem dL_law_1981 : decode cL_law 1981 = .ok (.iaload, 1) := db_L_law_1963.2.2.2.2.2.2.2.2.2.2.2.2.2.2.2
theorem db_L_law_1982 : decode cL_law 1982 = .ok (.aload_n 0, 1) ∧ decode cL_law 1983 = .ok (.iload 4, 2) ∧ decode cL_law 1985 = .ok (.iconst 4, 1) ∧ decode cL_law 1986 = .ok (.iadd, 1) ∧ decode cL_law 1987 = .ok (.iaload, 1) ∧ decode cL_law 1988 = .ok (.aload_n 3, 1) ∧ decode cL_law 1989 = .ok (.invokestatic 194, 3) ∧ decode cL_law 1992 = .ok (.istore 5, 2) ∧ decode cL_law 1994 = .ok (.aload_n 2, 1) ∧ decode cL_law 1995 = .ok (.aload_n 0, 1) ∧ decode cL_law 1996 = .ok (.iload 4, 2) ∧ decode cL_law 1998 = .ok (.iconst 1, 1) ∧ decode cL_law 1999 = .ok (.iadd, 1) ∧ decode cL_law 2000 = .ok (.iaload, 1) ∧ decode cL_law 2001 = .ok (.aload_n 0, 1) ∧ decode cL_law 2002 = .ok (.iload 4, 2) := by decide +kernel
theorem dL_law_1982 : decode cL_law 1982 = .ok (.aload_n 0, 1) := db_L_law_1982.1
theorem dL_law_1983 : decode cL_law 1983 = .ok (.iload 4, 2) := db_L_law_1982.2.1
theorem dL_law_1985 : decode cL_law 1985 = .ok (.iconst 4, 1) := db_L_law_1982.2.2.1
theorem dL_law_1986 : decode cL_law 1986 = .ok (.iadd, 1) := db_L_law_1982.2.2.2.1
theorem dL_law_1987 : decode cL_law 1987 = .ok (.iaload, 1) := db_L_law_1982.2.2.2.2.1
theorem dL_law_1988 : decode cL_law 1988 = .ok (.aload_n 3, 1) := db_L_law_1982.2.2.2.2.2.1
theorem dL_law_1989 : decode cL_law 1989 = .ok (.invokestatic 194, 3) := db_L_law_1982.2.2.2.2.2.2.1
theorem dL_law_1992 : decode cL_law 1992 = .ok (.istore 5, 2) := db_L_law_1982.2.2.2.2.2.2.2.1
theorem dL_law_1994 : decode cL_law 1994 = .ok (.aload_n 2, 1) := db_L_law_1982.2.2.2.2.2.2.2.2.1
theorem dL_law_1995 : decode cL_law 1995 = .ok (.aload_n 0, 1) := db_L_law_1982.2.2.2.2.2.2.2.2.2.1
theorem dL_law_1996 : decode cL_law 1996 = .ok (.iload 4, 2) := db_L_law_1982.2.2.2.2.2.2.2.2.2.2.1
theorem dL_law_1998 : decode cL_law 1998 = .ok (.iconst 1, 1) := db_L_law_1982.2.2.2.2.2.2.2.2.2.2.2.1
theorem dL_law_1999 : decode cL_law 1999 = .ok (.iadd, 1) := db_L_law_1982.2.2.2.2.2.2.2.2.2.2.2.2.1
theorem dL_law_2000 : decode cL_law 2000 = .ok (.iaload, 1) := db_L_law_1982.2.2.2.2.2.2.2.2.2.2.2.2.2.1
theorem dL_law_2001 : decode cL_law 2001 = .ok (.aload_n 0, 1) := db_L_law_1982.2.2.2.2.2.2.2.2.2.2.2.2.2.2.1
theorem dL_law_2002 : decode cL_law 2002 = .ok (.iload 4, 2) := db_L_law_1982.2.2.2.2.2.2.2.2.2.2.2.2.2.2.2
theorem db_L_law_2004 : decode cL_law 2004 = .ok (.iconst 2, 1) ∧ decode cL_law 2005 = .ok (.iadd, 1) ∧ decode cL_law 2006 = .ok (.iaload, 1) ∧ decode cL_law 2007 = .ok (.aload_n 0, 1) ∧ decode cL_law 2008 = .ok (.iload 4, 2) ∧ decode cL_law 2010 = .ok (.iconst 3, 1) ∧ decode cL_law 2011 = .ok (.iadd, 1) ∧ decode cL_law 2012 = .ok (.iaload, 1) ∧ decode cL_law 2013 = .ok (.aload_n 0, 1) ∧ decode cL_law 2014 = .ok (.iload 4, 2) ∧ decode cL_law 2016 = .ok (.iconst 4, 1) ∧ decode cL_law 2017 = .ok (.iadd, 1) ∧ decode cL_law 2018 = .ok (.iaload, 1) ∧ decode cL_law 2019 = .ok (.invokevirtual 196, 3) ∧ decode cL_law 2022 = .ok (.istore 6, 2) ∧ decode cL_law 2024 = .ok (.aload_n 2, 1) := by decide +kernel
theorem dL_law_2004 : decode cL_law 2004 = .ok (.iconst 2, 1) := db_L_law_2004.1
theorem dL_law_2005 : decode cL_law 2005 = .ok (.iadd, 1) := db_L_law_2004.2.1
theorem dL_law_2006 : decode cL_law 2006 = .ok (.iaload, 1) := db_L_law_2004.2.2.1
theorem dL_law_2007 : decode cL_law 2007 = .ok (.aload_n 0, 1) := db_L_law_2004.2.2.2.1
theorem dL_law_2008 : decode cL_law 2008 = .ok (.iload 4, 2) := db_L_law_2004.2.2.2.2.1
theorem dL_law_2010 : decode cL_law 2010 = .ok (.iconst 3, 1) := db_L_law_2004.2.2.2.2.2.1
theorem dL_law_2011 : decode cL_law 2011 = .ok (.iadd, 1) := db_L_law_2004.2.2.2.2.2.2.1
theorem dL_law_2012 : decode cL_law 2012 = .ok (.iaload, 1) := db_L_law_2004.2.2.2.2.2.2.2.1
theorem dL_law_2013 : decode cL_law 2013 = .ok (.aload_n 0, 1) := db_L_law_2004.2.2.2.2.2.2.2.2.1
theorem dL_law_2014 : decode cL_law 2014 = .ok (.iload 4, 2) := db_L_law_2004.2.2.2.2.2.2.2.2.2.1
theorem dL_law_2016 : decode cL_law 2016 = .ok (.iconst 4, 1) := db_L_law_2004.2.2.2.2.2.2.2.2.2.2.1
theorem dL_law_2017 : decode cL_law 2017 = .ok (.iadd, 1) := db_L_law_2004.2.2.2.2.2.2.2.2.2.2.2.1
theorem dL_law_2018 : decode cL_law 2018 = .ok (.iaload, 1) := db_L_law_2004.2.2.2.2.2.2.2.2.2.2.2.2.1
theorem dL_law_2019 : decode cL_law 2019 = .ok (.invokevirtual 196, 3) := db_L_law_2004.2.2.2.2.2.2.2.2.2.2.2.2.2.1
theorem dL_law_2022 : decode cL_law 2022 = .ok (.istore 6, 2) := db_L_law_2004.2.2.2.2.2.2.2.2.2.2.2.2.2.2.1
theorem dL_law_2024 : decode cL_law 2024 = .ok (.aload_n 2, 1) := db_L_law_2004.2.2.2.2.2.2.2.2.2.2.2.2.2.2.2
theorem db_L_law_2025 : decode cL_law 2025 = .ok (.invokevirtual 110, 3) ∧ decode cL_law 2028 = .ok (.iload 5, 2) ∧ decode cL_law 2030 = .ok (.if_icmp .eq 5, 3) ∧ decode cL_law 2035 = .ok (.iload 5, 2) ∧ decode cL_law 2037 = .ok (.ifCond .ne 15, 3) ∧ decode cL_law 2052 = .ok (.goto 59, 3) ∧ decode cL_law 2055 = .ok (.aload_n 1, 1) ∧ decode cL_law 2056 = .ok (.aload_n 0, 1) ∧ decode cL_law 2057 = .ok (.iload 4, 2) ∧ decode cL_law 2059 = .ok (.iconst 1, 1) ∧ decode cL_law 2060 = .ok (.iadd, 1) ∧ decode cL_law 2061 = .ok (.iaload, 1) ∧ decode cL_law 2062 = .ok (.aload_n 3, 1) ∧ decode cL_law 2063 = .ok (.invokestatic 197, 3) ∧ decode cL_law 2066 = .ok (.istore 5, 2) ∧ decode cL_law 2068 = .ok (.aload_n 2, 1) := by decide +kernel
theorem dL_law_2025 : decode cL_law 2025 = .ok (.invokevirtual 110, 3) := db_L_law_2025.1
theorem dL_law_2028 : decode cL_law 2028 = .ok (.iload 5, 2) := db_L_law_2025.2.1
theorem dL_law_2030 : decode cL_law 2030 = .ok (.if_icmp .eq 5, 3) := db_L_law_2025.2.2.1
theorem dL_law_2035 : decode cL_law 2035 = .ok (.iload 5, 2) := db_L_law_2025.2.2.2.1
theorem dL_law_2037 : decode cL_law 2037 = .ok (.ifCond .ne 15, 3) := db_L_law_2025.2.2.2.2.1
theorem dL_law_2052 : decode cL_law 2052 = .ok (.goto 59, 3) := db_L_law_2025.2.2.2.2.2.1
theorem dL_law_2055 : decode cL_law 2055 = .ok (.aload_n 1, 1) := db_L_law_2025.2.2.2.2.2.2.1
theorem dL_law_2056 : decode cL_law 2056 = .ok (.aload_n 0, 1) := db_L_law_2025.2.2.2.2.2.2.2.1
theorem dL_law_2057 : decode cL_law 2057 = .ok (.iload 4, 2) := db_L_law_2025.2.2.2.2.2.2.2.2.1
theorem dL_law_2059 : decode cL_law 2059 = .ok (.iconst 1, 1) := db_L_law_2025.2.2.2.2.2.2.2.2.2.1
theorem dL_law_2060 : decode cL_law 2060 = .ok (.iadd, 1) := db_L_law_2025.2.2.2.2.2.2.2.2.2.2.1
theorem dL_law_2061 : decode cL_law 2061 = .ok (.iaload, 1) := db_L_law_2025.2.2.2.2.2.2.2.2.2.2.2.1
theorem dL_law_2062 : decode cL_law 2062 = .ok (.aload_n 3, 1) := db_L_law_2025.2.2.2.2.2.2.2.2.2.2.2.2.1
theorem dL_law_2063 : decode cL_law 2063 = .ok (.invokestatic 197, 3) := db_L_law_2025.2.2.2.2.2.2.2.2.2.2.2.2.2.1
theorem dL_law_2066 : decode cL_law 2066 = .ok (.istore 5, 2) := db_L_law_2025.2.2.2.2.2.2.2.2.2.2.2.2.2.2.1
theorem dL_law_2068 : decode cL_law 2068 = .ok (.aload_n 2, 1) := db_L_law_2025.2.2.2.2.2.2.2.2.2.2.2.2.2.2.2
theorem db_L_law_2069 : decode cL_law 2069 = .ok (.aload_n 0, 1) ∧ decode cL_law 2070 = .ok (.iload 4, 2) ∧ decode cL_law 2072 = .ok (.iconst 1, 1) ∧ decode cL_law 2073 = .ok (.iadd, 1) ∧ decode cL_law 2074 = .ok (.iaload, 1) ∧ decode cL_law 2075 = .ok (.invokevirtual 199, 3) ∧ decode cL_law 2078 = .ok (.istore 6, 2) ∧ decode cL_law 2080 = .ok (.aload_n 2, 1) ∧ decode cL_law 2081 = .ok (.invokevirtual 110, 3) ∧ decode cL_law 2084 = .ok (.iload 5, 2) ∧ decode cL_law 2086 = .ok (.if_icmp .eq 5, 3) ∧ decode cL_law 2091 = .ok (.iload 5, 2) ∧ decode cL_law 2093 = .ok (.ifCond .ne 15, 3) ∧ decode cL_law 2096 = .ok (.aload_n 3, 1) ∧ decode cL_law 2097 = .ok (.iconst 0, 1) ∧ decode cL_law 2098 = .ok (.laload, 1) := by decide +kernel
theorem dL_law_2069 : decode cL_law 2069 = .ok (.aload_n 0, 1) := db_L_law_2069.1
theorem dL_law_2070 : decode cL_law 2070 = .ok (.iload 4, 2) := db_L_law_2069.2.1
theorem dL_law_2072 : decode cL_law 2072 = .ok (.iconst 1, 1) := db_L_law_2069.2.2.1
theorem dL_law_2073 : decode cL_law 2073 = .ok (.iadd, 1) := db_L_law_2069.2.2.2.1
theorem dL_law_2074 : decode cL_law 2074 = .ok (.iaload, 1) := db_L_law_2069.2.2.2.2.1
theorem dL_law_2075 : decode cL_law 2075 = .ok (.invokevirtual 199, 3) := db_L_law_2069.2.2.2.2.2.1
theorem dL_law_2078 : decode cL_law 2078 = .ok (.istore 6, 2) := db_L_law_2069.2.2.2.2.2.2.1
theorem dL_law_2080 : decode cL_law 2080 = .ok (.aload_n 2, 1) := db_L_law_2069.2.2.2.2.2.2.2.1
theorem dL_law_2081 : decode cL_law 2081 = .ok (.invokevirtual 110, 3) := db_L_law_2069.2.2.2.2.2.2.2.2.1
theorem dL_law_2084 : decode cL_law 2084 = .ok (.iload 5, 2) := db_L_law_2069.2.2.2.2.2.2.2.2.2.1
theorem dL_law_2086 : decode cL_law 2086 = .ok (.if_icmp .eq 5, 3) := db_L_law_2069.2.2.2.2.2.2.2.2.2.2.1
theorem dL_law_2091 : decode cL_law 2091 = .ok (.iload 5, 2) := db_L_law_2069.2.2.2.2.2.2.2.2.2.2.2.1
theorem dL_law_2093 : decode cL_law 2093 = .ok (.ifCond .ne 15, 3) := db_L_law_2069.2.2.2.2.2.2.2.2.2.2.2.2.1
theorem dL_law_2096 : decode cL_law 2096 = .ok (.aload_n 3, 1) := db_L_law_2069.2.2.2.2.2.2.2.2.2.2.2.2.2.1
theorem dL_law_2097 : decode cL_law 2097 = .ok (.iconst 0, 1) := db_L_law_2069.2.2.2.2.2.2.2.2.2.2.2.2.2.2.1
theorem dL_law_2098 : decode cL_law 2098 = .ok (.laload, 1) := db_L_law_2069.2.2.2.2.2.2.2.2.2.2.2.2.2.2.2
theorem db_L_law_2099 : decode cL_law 2099 = .ok (.iload 6, 2) ∧ decode cL_law 2101 = .ok (.i2l, 1) ∧ decode cL_law 2102 = .ok (.lcmp, 1) ∧ decode cL_law 2103 = .ok (.ifCond .eq 5, 3) ∧ decode cL_law 2108 = .ok (.goto 3, 3) ∧ decode cL_law 2111 = .ok (.iinc 4 5, 3) ∧ decode cL_law 2114 = .ok (.goto (-2091), 3) ∧ decode cL_law 2117 = .ok (.iconst 1, 1) ∧ decode cL_law 2118 = .ok (.ireturn, 1) := by decide +kernel
theorem dL_law_2099 : decode cL_law 2099 = .ok (.iload 6, 2) := db_L_law_2099.1
theorem dL_law_2101 : decode cL_law 2101 = .ok (.i2l, 1) := db_L_law_2099.2.1
theorem dL_law_2102 : decode cL_law 2102 = .ok (.lcmp, 1) := db_L_law_2099.2.2.1
theorem dL_law_2103 : decode cL_law 2103 = .ok (.ifCond .eq 5, 3) := db_L_law_2099.2.2.2.1
theorem dL_law_2108 : decode cL_law 2108 = .ok (.goto 3, 3) := db_L_law_2099.2.2.2.2.1
theorem dL_law_2111 : decode cL_law 2111 = .ok (.iinc 4 5, 3) := db_L_law_2099.2.2.2.2.2.1
theorem dL_law_2114 : decode cL_law 2114 = .ok (.goto (-2091), 3) := db_L_law_2099.2.2.2.2.2.2.1
theorem dL_law_2117 : decode cL_law 2117 = .ok (.iconst 1, 1) := db_L_law_2099.2.2.2.2.2.2.2.1
theorem dL_law_2118 : decode cL_law 2118 = .ok (.ireturn, 1) := db_L_law_2099.2.2.2.2.2.2.2.2
