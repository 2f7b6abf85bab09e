theorem dX0_init_0 : decode cX0_init 0 = .ok (.aload_n 0, 1) := by decide +kernel
theorem dX0_init_1 : decode cX0_init 1 = .ok (.invokespecial 3, 3) := by decide +kernel
theorem dX0_init_4 : decode cX0_init 4 = .ok (.aload_n 0, 1) := by decide +kernel
theorem dX0_init_5 : decode cX0_init 5 = .ok (.sipush 512, 3) := by decide +kernel
theorem dX0_init_8 : decode cX0_init 8 = .ok (.newarray .int, 2) := by decide +kernel
theorem dX0_init_10 : decode cX0_init 10 = .ok (.putfield 9, 3) := by decide +kernel
theorem dX0_init_13 : decode cX0_init 13 = .ok (.aload_n 0, 1) := by decide +kernel
theorem dX0_init_14 : decode cX0_init 14 = .ok (.sipush 512, 3) := by decide +kernel
theorem dX0_init_17 : decode cX0_init 17 = .ok (.newarray .int, 2) := by decide +kernel
theorem dX0_init_19 : decode cX0_init 19 = .ok (.putfield 15, 3) := by decide +kernel
theorem dX0_init_22 : decode cX0_init 22 = .ok (.aload_n 0, 1) := by decide +kernel
theorem dX0_init_23 : decode cX0_init 23 = .ok (.bipush 100, 2) := by decide +kernel
theorem dX0_init_25 : decode cX0_init 25 = .ok (.newarray .int, 2) := by decide +kernel
theorem dX0_init_27 : decode cX0_init 27 = .ok (.putfield 18, 3) := by decide +kernel
theorem dX0_init_30 : decode cX0_init 30 = .ok (.aload_n 0, 1) := by decide +kernel
theorem dX0_init_31 : decode cX0_init 31 = .ok (.bipush 63, 2) := by decide +kernel
theorem dX0_init_33 : decode cX0_init 33 = .ok (.newarray .int, 2) := by decide +kernel
theorem dX0_init_35 : decode cX0_init 35 = .ok (.putfield 21, 3) := by decide +kernel
theorem dX0_init_38 : decode cX0_init 38 = .ok (.aload_n 0, 1) := by decide +kernel
theorem dX0_init_39 : decode cX0_init 39 = .ok (.aload_n 1, 1) := by decide +kernel
theorem dX0_init_40 : decode cX0_init 40 = .ok (.putfield 24, 3) := by decide +kernel
theorem dX0_init_43 : decode cX0_init 43 = .ok (.aload_n 0, 1) := by decide +kernel
theorem dX0_init_44 : decode cX0_init 44 = .ok (.new 28, 3) := by decide +kernel
theorem dX0_init_47 : decode cX0_init 47 = .ok (.dup, 1) := by decide +kernel
theorem dX0_init_48 : decode cX0_init 48 = .ok (.aload_n 1, 1) := by decide +kernel
theorem dX0_init_49 : decode cX0_init 49 = .ok (.invokespecial 30, 3) := by decide +kernel
theorem dX0_init_52 : decode cX0_init 52 = .ok (.putfield 33, 3) := by decide +kernel
theorem dX0_init_55 : decode cX0_init 55 = .ok (.aload_n 0, 1) := by decide +kernel
theorem dX0_init_56 : decode cX0_init 56 = .ok (.new 37, 3) := by decide +kernel
theorem dX0_init_59 : decode cX0_init 59 = .ok (.dup, 1) := by decide +kernel
theorem dX0_init_60 : decode cX0_init 60 = .ok (.aload_n 1, 1) := by decide +kernel
theorem dX0_init_61 : decode cX0_init 61 = .ok (.invokespecial 39, 3) := by decide +kernel
theorem dX0_init_64 : decode cX0_init 64 = .ok (.putfield 40, 3) := by decide +kernel
theorem dX0_init_67 : decode cX0_init 67 = .ok (.return_, 1) := by decide +kernel
theorem dX0_begin_0 : decode cX0_begin 0 = .ok (.aload_n 0, 1) := by decide +kernel
theorem dX0_begin_1 : decode cX0_begin 1 = .ok (.iload_n 2, 1) := by decide +kernel
theorem dX0_begin_2 : decode cX0_begin 2 = .ok (.putfield 44, 3) := by decide +kernel
theorem dX0_begin_5 : decode cX0_begin 5 = .ok (.aload_n 0, 1) := by decide +kernel
theorem dX0_begin_6 : decode cX0_begin 6 = .ok (.invokevirtual 48, 3) := by decide +kernel
theorem dX0_begin_9 : decode cX0_begin 9 = .ok (.aload_n 0, 1) := by decide +kernel
theorem dX0_begin_10 : decode cX0_begin 10 = .ok (.iconst 1, 1) := by decide +kernel
theorem dX0_begin_11 : decode cX0_begin 11 = .ok (.putfield 51, 3) := by decide +kernel
theorem dX0_begin_14 : decode cX0_begin 14 = .ok (.aload_n 0, 1) := by decide +kernel
theorem dX0_begin_15 : decode cX0_begin 15 = .ok (.getfield 40, 3) := by decide +kernel
theorem dX0_begin_18 : decode cX0_begin 18 = .ok (.iload_n 2, 1) := by decide +kernel
theorem dX0_begin_19 : decode cX0_begin 19 = .ok (.invokevirtual 54, 3) := by decide +kernel
theorem dX0_begin_22 : decode cX0_begin 22 = .ok (.aload_n 0, 1) := by decide +kernel
theorem dX0_begin_23 : decode cX0_begin 23 = .ok (.getfield 33, 3) := by decide +kernel
theorem dX0_begin_26 : decode cX0_begin 26 = .ok (.aload_n 1, 1) := by decide +kernel
theorem dX0_begin_27 : decode cX0_begin 27 = .ok (.invokevirtual 58, 3) := by decide +kernel
theorem dX0_begin_30 : decode cX0_begin 30 = .ok (.aload_n 0, 1) := by decide +kernel
theorem dX0_begin_31 : decode cX0_begin 31 = .ok (.invokevirtual 61, 3) := by decide +kernel
theorem dX0_begin_34 : decode cX0_begin 34 = .ok (.return_, 1) := by decide +kernel
theorem dX0_clear_0 : decode cX0_clear 0 = .ok (.aload_n 0, 1) := by decide +kernel
theorem dX0_clear_1 : decode cX0_clear 1 = .ok (.iconst 0, 1) := by decide +kernel
theorem dX0_clear_2 : decode cX0_clear 2 = .ok (.putfield 51, 3) := by decide +kernel
theorem dX0_clear_5 : decode cX0_clear 5 = .ok (.aload_n 0, 1) := by decide +kernel
theorem dX0_clear_6 : decode cX0_clear 6 = .ok (.iconst 0, 1) := by decide +kernel
theorem dX0_clear_7 : decode cX0_clear 7 = .ok (.putfield 64, 3) := by decide +kernel
theorem dX0_clear_10 : decode cX0_clear 10 = .ok (.aload_n 0, 1) := by decide +kernel
theorem dX0_clear_11 : decode cX0_clear 11 = .ok (.iconst 0, 1) := by decide +kernel
theorem dX0_clear_12 : decode cX0_clear 12 = .ok (.putfield 67, 3) := by decide +kernel
theorem dX0_clear_15 : decode cX0_clear 15 = .ok (.aload_n 0, 1) := by decide +kernel
theorem dX0_clear_16 : decode cX0_clear 16 = .ok (.iconst 0, 1) := by decide +kernel
theorem dX0_clear_17 : decode cX0_clear 17 = .ok (.putfield 70, 3) := by decide +kernel
theorem dX0_clear_20 : decode cX0_clear 20 = .ok (.aload_n 0, 1) := by decide +kernel
theorem dX0_clear_21 : decode cX0_clear 21 = .ok (.iconst 0, 1) := by decide +kernel
theorem dX0_clear_22 : decode cX0_clear 22 = .ok (.putfield 73, 3) := by decide +kernel
theorem dX0_clear_25 : decode cX0_clear 25 = .ok (.aload_n 0, 1) := by decide +kernel
theorem dX0_clear_26 : decode cX0_clear 26 = .ok (.getfield 18, 3) := by decide +kernel
theorem dX0_clear_29 : decode cX0_clear 29 = .ok (.iconst (-1), 1) := by decide +kernel
theorem dX0_clear_30 : decode cX0_clear 30 = .ok (.invokestatic 76, 3) := by decide +kernel
theorem dX0_clear_33 : decode cX0_clear 33 = .ok (.aload_n 0, 1) := by decide +kernel
theorem dX0_clear_34 : decode cX0_clear 34 = .ok (.getfield 21, 3) := by decide +kernel
theorem dX0_clear_37 : decode cX0_clear 37 = .ok (.iconst 0, 1) := by decide +kernel
theorem dX0_clear_38 : decode cX0_clear 38 = .ok (.invokestatic 76, 3) := by decide +kernel
theorem dX0_clear_41 : decode cX0_clear 41 = .ok (.return_, 1) := by decide +kernel
theorem dX0_tell_0 : decode cX0_tell 0 = .ok (.iload_n 1, 1) := by decide +kernel
theorem dX0_tell_1 : decode cX0_tell 1 = .ok (.tableswitch 88 0 7 #[47, 52, 57, 62, 67, 88, 72, 80], 47) := by decide +kernel
theorem dX0_tell_48 : decode cX0_tell 48 = .ok (.aload_n 0, 1) := by decide +kernel
theorem dX0_tell_49 : decode cX0_tell 49 = .ok (.getfield 51, 3) := by decide +kernel
theorem dX0_tell_52 : decode cX0_tell 52 = .ok (.ireturn, 1) := by decide +kernel
theorem dX0_tell_53 : decode cX0_tell 53 = .ok (.aload_n 0, 1) := by decide +kernel
theorem dX0_tell_54 : decode cX0_tell 54 = .ok (.getfield 64, 3) := by decide +kernel
theorem dX0_tell_57 : decode cX0_tell 57 = .ok (.ireturn, 1) := by decide +kernel
theorem dX0_tell_58 : decode cX0_tell 58 = .ok (.aload_n 0, 1) := by decide +kernel
theorem dX0_tell_59 : decode cX0_tell 59 = .ok (.getfield 67, 3) := by decide +kernel
theorem dX0_tell_62 : decode cX0_tell 62 = .ok (.ireturn, 1) := by decide +kernel
theorem dX0_tell_63 : decode cX0_tell 63 = .ok (.aload_n 0, 1) := by decide +kernel
theorem dX0_tell_64 : decode cX0_tell 64 = .ok (.getfield 70, 3) := by decide +kernel
theorem dX0_tell_67 : decode cX0_tell 67 = .ok (.ireturn, 1) := by decide +kernel
theorem dX0_tell_68 : decode cX0_tell 68 = .ok (.aload_n 0, 1) := by decide +kernel
theorem dX0_tell_69 : decode cX0_tell 69 = .ok (.getfield 73, 3) := by decide +kernel
theorem dX0_tell_72 : decode cX0_tell 72 = .ok (.ireturn, 1) := by decide +kernel
theorem dX0_tell_73 : decode cX0_tell 73 = .ok (.aload_n 0, 1) := by decide +kernel
theorem dX0_tell_74 : decode cX0_tell 74 = .ok (.getfield 40, 3) := by decide +kernel
theorem dX0_tell_77 : decode cX0_tell 77 = .ok (.getfield 82, 3) := by decide +kernel
theorem dX0_tell_80 : decode cX0_tell 80 = .ok (.ireturn, 1) := by decide +kernel
theorem dX0_tell_81 : decode cX0_tell 81 = .ok (.aload_n 0, 1) := by decide +kernel
theorem dX0_tell_82 : decode cX0_tell 82 = .ok (.getfield 33, 3) := by decide +kernel
theorem dX0_tell_85 : decode cX0_tell 85 = .ok (.getfield 85, 3) := by decide +kernel
theorem dX0_tell_88 : decode cX0_tell 88 = .ok (.ireturn, 1) := by decide +kernel
theorem dX0_tell_89 : decode cX0_tell 89 = .ok (.aload_n 0, 1) := by decide +kernel
theorem dX0_tell_90 : decode cX0_tell 90 = .ok (.invokevirtual 88, 3) := by decide +kernel
theorem dX0_tell_93 : decode cX0_tell 93 = .ok (.ireturn, 1) := by decide +kernel
theorem dX0_countDocuments_0 : decode cX0_countDocuments 0 = .ok (.aload_n 0, 1) := by decide +kernel
theorem dX0_countDocuments_1 : decode cX0_countDocuments 1 = .ok (.aload_n 0, 1) := by decide +kernel
theorem dX0_countDocuments_2 : decode cX0_countDocuments 2 = .ok (.getfield 67, 3) := by decide +kernel
theorem dX0_countDocuments_5 : decode cX0_countDocuments 5 = .ok (.aload_n 0, 1) := by decide +kernel
theorem dX0_countDocuments_6 : decode cX0_countDocuments 6 = .ok (.getfield 24, 3) := by decide +kernel
theorem dX0_countDocuments_9 : decode cX0_countDocuments 9 = .ok (.getfield 92, 3) := by decide +kernel
theorem dX0_countDocuments_12 : decode cX0_countDocuments 12 = .ok (.invokevirtual 95, 3) := by decide +kernel
theorem dX0_countDocuments_15 : decode cX0_countDocuments 15 = .ok (.iconst 0, 1) := by decide +kernel
theorem dX0_countDocuments_16 : decode cX0_countDocuments 16 = .ok (.istore_n 1, 1) := by decide +kernel
theorem dX0_countDocuments_17 : decode cX0_countDocuments 17 = .ok (.iconst 0, 1) := by decide +kernel
theorem dX0_countDocuments_18 : decode cX0_countDocuments 18 = .ok (.istore_n 2, 1) := by decide +kernel
theorem dX0_countDocuments_19 : decode cX0_countDocuments 19 = .ok (.iload_n 2, 1) := by decide +kernel
theorem dX0_countDocuments_20 : decode cX0_countDocuments 20 = .ok (.bipush 100, 2) := by decide +kernel
theorem dX0_countDocuments_22 : decode cX0_countDocuments 22 = .ok (.if_icmp .ge 25, 3) := by decide +kernel
theorem dX0_countDocuments_25 : decode cX0_countDocuments 25 = .ok (.aload_n 0, 1) := by decide +kernel
theorem dX0_countDocuments_26 : decode cX0_countDocuments 26 = .ok (.getfield 24, 3) := by decide +kernel
theorem dX0_countDocuments_29 : decode cX0_countDocuments 29 = .ok (.getfield 92, 3) := by decide +kernel
theorem dX0_countDocuments_32 : decode cX0_countDocuments 32 = .ok (.iload_n 2, 1) := by decide +kernel
theorem dX0_countDocuments_33 : decode cX0_countDocuments 33 = .ok (.iaload, 1) := by decide +kernel
theorem dX0_countDocuments_34 : decode cX0_countDocuments 34 = .ok (.iconst (-1), 1) := by decide +kernel
theorem dX0_countDocuments_35 : decode cX0_countDocuments 35 = .ok (.if_icmp .eq 6, 3) := by decide +kernel
theorem dX0_countDocuments_38 : decode cX0_countDocuments 38 = .ok (.iinc 1 1, 3) := by decide +kernel
theorem dX0_countDocuments_41 : decode cX0_countDocuments 41 = .ok (.iinc 2 1, 3) := by decide +kernel
theorem dX0_countDocuments_44 : decode cX0_countDocuments 44 = .ok (.goto (-25), 3) := by decide +kernel
theorem dX0_countDocuments_47 : decode cX0_countDocuments 47 = .ok (.iload_n 1, 1) := by decide +kernel
theorem dX0_countDocuments_48 : decode cX0_countDocuments 48 = .ok (.ireturn, 1) := by decide +kernel
theorem dX0_actAt_0 : decode cX0_actAt 0 = .ok (.iload_n 1, 1) := by decide +kernel
theorem dX0_actAt_1 : decode cX0_actAt 1 = .ok (.aload_n 0, 1) := by decide +kernel
theorem dX0_actAt_2 : decode cX0_actAt 2 = .ok (.getfield 64, 3) := by decide +kernel
theorem dX0_actAt_5 : decode cX0_actAt 5 = .ok (.if_icmp .le 18, 3) := by decide +kernel
theorem dX0_actAt_8 : decode cX0_actAt 8 = .ok (.iload_n 1, 1) := by decide +kernel
theorem dX0_actAt_9 : decode cX0_actAt 9 = .ok (.aload_n 0, 1) := by decide +kernel
theorem dX0_actAt_10 : decode cX0_actAt 10 = .ok (.getfield 67, 3) := by decide +kernel
theorem dX0_actAt_13 : decode cX0_actAt 13 = .ok (.if_icmp .gt 10, 3) := by decide +kernel
theorem dX0_actAt_16 : decode cX0_actAt 16 = .ok (.iload_n 1, 1) := by decide +kernel
theorem dX0_actAt_17 : decode cX0_actAt 17 = .ok (.sipush 512, 3) := by decide +kernel
theorem dX0_actAt_20 : decode cX0_actAt 20 = .ok (.if_icmp .lt 7, 3) := by decide +kernel
theorem dX0_actAt_23 : decode cX0_actAt 23 = .ok (.iconst (-1), 1) := by decide +kernel
theorem dX0_actAt_24 : decode cX0_actAt 24 = .ok (.goto 9, 3) := by decide +kernel
theorem dX0_actAt_27 : decode cX0_actAt 27 = .ok (.aload_n 0, 1) := by decide +kernel
theorem dX0_actAt_28 : decode cX0_actAt 28 = .ok (.getfield 9, 3) := by decide +kernel
theorem dX0_actAt_31 : decode cX0_actAt 31 = .ok (.iload_n 1, 1) := by decide +kernel
theorem dX0_actAt_32 : decode cX0_actAt 32 = .ok (.iaload, 1) := by decide +kernel
theorem dX0_actAt_33 : decode cX0_actAt 33 = .ok (.ireturn, 1) := by decide +kernel
theorem dX0_requestOf_0 : decode cX0_requestOf 0 = .ok (.iload_n 2, 1) := by decide +kernel
theorem dX0_requestOf_1 : decode cX0_requestOf 1 = .ok (.istore_n 3, 1) := by decide +kernel
theorem dX0_requestOf_2 : decode cX0_requestOf 2 = .ok (.iload_n 3, 1) := by decide +kernel
theorem dX0_requestOf_3 : decode cX0_requestOf 3 = .ok (.aload_n 0, 1) := by decide +kernel
theorem dX0_requestOf_4 : decode cX0_requestOf 4 = .ok (.getfield 64, 3) := by decide +kernel
theorem dX0_requestOf_7 : decode cX0_requestOf 7 = .ok (.if_icmp .le 55, 3) := by decide +kernel
theorem dX0_requestOf_10 : decode cX0_requestOf 10 = .ok (.aload_n 0, 1) := by decide +kernel
theorem dX0_requestOf_11 : decode cX0_requestOf 11 = .ok (.getfield 24, 3) := by decide +kernel
theorem dX0_requestOf_14 : decode cX0_requestOf 14 = .ok (.aload_n 0, 1) := by decide +kernel
theorem dX0_requestOf_15 : decode cX0_requestOf 15 = .ok (.iload_n 3, 1) := by decide +kernel
theorem dX0_requestOf_16 : decode cX0_requestOf 16 = .ok (.invokevirtual 99, 3) := by decide +kernel
theorem dX0_requestOf_19 : decode cX0_requestOf 19 = .ok (.invokevirtual 103, 3) := by decide +kernel
theorem dX0_requestOf_22 : decode cX0_requestOf 22 = .ok (.astore 4, 2) := by decide +kernel
theorem dX0_requestOf_24 : decode cX0_requestOf 24 = .ok (.aload 4, 2) := by decide +kernel
theorem dX0_requestOf_26 : decode cX0_requestOf 26 = .ok (.ifnull 30, 3) := by decide +kernel
theorem dX0_requestOf_29 : decode cX0_requestOf 29 = .ok (.aload 4, 2) := by decide +kernel
theorem dX0_requestOf_31 : decode cX0_requestOf 31 = .ok (.getfield 107, 3) := by decide +kernel
theorem dX0_requestOf_34 : decode cX0_requestOf 34 = .ok (.iload_n 1, 1) := by decide +kernel
theorem dX0_requestOf_35 : decode cX0_requestOf 35 = .ok (.if_icmp .ne 21, 3) := by decide +kernel
theorem dX0_requestOf_38 : decode cX0_requestOf 38 = .ok (.aload 4, 2) := by decide +kernel
theorem dX0_requestOf_40 : decode cX0_requestOf 40 = .ok (.getfield 112, 3) := by decide +kernel
theorem dX0_requestOf_43 : decode cX0_requestOf 43 = .ok (.ifCond .ne 11, 3) := by decide +kernel
theorem dX0_requestOf_46 : decode cX0_requestOf 46 = .ok (.aload 4, 2) := by decide +kernel
theorem dX0_requestOf_48 : decode cX0_requestOf 48 = .ok (.getfield 115, 3) := by decide +kernel
theorem dX0_requestOf_51 : decode cX0_requestOf 51 = .ok (.goto 4, 3) := by decide +kernel
theorem dX0_requestOf_54 : decode cX0_requestOf 54 = .ok (.iconst (-1), 1) := by decide +kernel
theorem dX0_requestOf_55 : decode cX0_requestOf 55 = .ok (.ireturn, 1) := by decide +kernel
theorem dX0_requestOf_56 : decode cX0_requestOf 56 = .ok (.iinc 3 (-1), 3) := by decide +kernel
theorem dX0_requestOf_59 : decode cX0_requestOf 59 = .ok (.goto (-57), 3) := by decide +kernel
theorem dX0_requestOf_62 : decode cX0_requestOf 62 = .ok (.aload_n 0, 1) := by decide +kernel
theorem dX0_requestOf_63 : decode cX0_requestOf 63 = .ok (.getfield 18, 3) := by decide +kernel
theorem dX0_requestOf_66 : decode cX0_requestOf 66 = .ok (.iload_n 1, 1) := by decide +kernel
theorem dX0_requestOf_67 : decode cX0_requestOf 67 = .ok (.iaload, 1) := by decide +kernel
theorem dX0_requestOf_68 : decode cX0_requestOf 68 = .ok (.ireturn, 1) := by decide +kernel
theorem dX0_documentsAt_0 : decode cX0_documentsAt 0 = .ok (.aload_n 0, 1) := by decide +kernel
theorem dX0_documentsAt_1 : decode cX0_documentsAt 1 = .ok (.getfield 18, 3) := by decide +kernel
theorem dX0_documentsAt_4 : decode cX0_documentsAt 4 = .ok (.iconst 0, 1) := by decide +kernel
theorem dX0_documentsAt_5 : decode cX0_documentsAt 5 = .ok (.aload_n 2, 1) := by decide +kernel
theorem dX0_documentsAt_6 : decode cX0_documentsAt 6 = .ok (.iconst 0, 1) := by decide +kernel
theorem dX0_documentsAt_7 : decode cX0_documentsAt 7 = .ok (.bipush 100, 2) := by decide +kernel
theorem dX0_documentsAt_9 : decode cX0_documentsAt 9 = .ok (.invokestatic 118, 3) := by decide +kernel
theorem dX0_documentsAt_12 : decode cX0_documentsAt 12 = .ok (.aload_n 0, 1) := by decide +kernel
theorem dX0_documentsAt_13 : decode cX0_documentsAt 13 = .ok (.getfield 64, 3) := by decide +kernel
theorem dX0_documentsAt_16 : decode cX0_documentsAt 16 = .ok (.iconst 1, 1) := by decide +kernel
theorem dX0_documentsAt_17 : decode cX0_documentsAt 17 = .ok (.iadd, 1) := by decide +kernel
theorem dX0_documentsAt_18 : decode cX0_documentsAt 18 = .ok (.istore_n 3, 1) := by decide +kernel
theorem dX0_documentsAt_19 : decode cX0_documentsAt 19 = .ok (.iload_n 3, 1) := by decide +kernel
theorem dX0_documentsAt_20 : decode cX0_documentsAt 20 = .ok (.iload_n 1, 1) := by decide +kernel
theorem dX0_documentsAt_21 : decode cX0_documentsAt 21 = .ok (.if_icmp .gt 62, 3) := by decide +kernel
theorem dX0_documentsAt_24 : decode cX0_documentsAt 24 = .ok (.aload_n 0, 1) := by decide +kernel
theorem dX0_documentsAt_25 : decode cX0_documentsAt 25 = .ok (.getfield 24, 3) := by decide +kernel
theorem dX0_documentsAt_28 : decode cX0_documentsAt 28 = .ok (.aload_n 0, 1) := by decide +kernel
theorem dX0_documentsAt_29 : decode cX0_documentsAt 29 = .ok (.iload_n 3, 1) := by decide +kernel
theorem dX0_documentsAt_30 : decode cX0_documentsAt 30 = .ok (.invokevirtual 99, 3) := by decide +kernel
theorem dX0_documentsAt_33 : decode cX0_documentsAt 33 = .ok (.invokevirtual 103, 3) := by decide +kernel
theorem dX0_documentsAt_36 : decode cX0_documentsAt 36 = .ok (.astore 4, 2) := by decide +kernel
theorem dX0_documentsAt_38 : decode cX0_documentsAt 38 = .ok (.aload 4, 2) := by decide +kernel
theorem dX0_documentsAt_40 : decode cX0_documentsAt 40 = .ok (.ifnull 37, 3) := by decide +kernel
theorem dX0_documentsAt_43 : decode cX0_documentsAt 43 = .ok (.aload 4, 2) := by decide +kernel
theorem dX0_documentsAt_45 : decode cX0_documentsAt 45 = .ok (.getfield 107, 3) := by decide +kernel
theorem dX0_documentsAt_48 : decode cX0_documentsAt 48 = .ok (.bipush 100, 2) := by decide +kernel
theorem dX0_documentsAt_50 : decode cX0_documentsAt 50 = .ok (.if_icmp .ge 27, 3) := by decide +kernel
theorem dX0_documentsAt_53 : decode cX0_documentsAt 53 = .ok (.aload_n 2, 1) := by decide +kernel
theorem dX0_documentsAt_54 : decode cX0_documentsAt 54 = .ok (.aload 4, 2) := by decide +kernel
theorem dX0_documentsAt_56 : decode cX0_documentsAt 56 = .ok (.getfield 107, 3) := by decide +kernel
theorem dX0_documentsAt_59 : decode cX0_documentsAt 59 = .ok (.aload 4, 2) := by decide +kernel
theorem dX0_documentsAt_61 : decode cX0_documentsAt 61 = .ok (.getfield 112, 3) := by decide +kernel
theorem dX0_documentsAt_64 : decode cX0_documentsAt 64 = .ok (.ifCond .ne 11, 3) := by decide +kernel
theorem dX0_documentsAt_67 : decode cX0_documentsAt 67 = .ok (.aload 4, 2) := by decide +kernel
theorem dX0_documentsAt_69 : decode cX0_documentsAt 69 = .ok (.getfield 115, 3) := by decide +kernel
theorem dX0_documentsAt_72 : decode cX0_documentsAt 72 = .ok (.goto 4, 3) := by decide +kernel
theorem dX0_documentsAt_75 : decode cX0_documentsAt 75 = .ok (.iconst (-1), 1) := by decide +kernel
theorem dX0_documentsAt_76 : decode cX0_documentsAt 76 = .ok (.iastore, 1) := by decide +kernel
theorem dX0_documentsAt_77 : decode cX0_documentsAt 77 = .ok (.iinc 3 1, 3) := by decide +kernel
theorem dX0_documentsAt_80 : decode cX0_documentsAt 80 = .ok (.goto (-61), 3) := by decide +kernel
theorem dX0_documentsAt_83 : decode cX0_documentsAt 83 = .ok (.return_, 1) := by decide +kernel
theorem dX0_numberOf_0 : decode cX0_numberOf 0 = .ok (.iload_n 1, 1) := by decide +kernel
theorem dX0_numberOf_1 : decode cX0_numberOf 1 = .ok (.ifCond .lt 35, 3) := by decide +kernel
theorem dX0_numberOf_4 : decode cX0_numberOf 4 = .ok (.iload_n 1, 1) := by decide +kernel
theorem dX0_numberOf_5 : decode cX0_numberOf 5 = .ok (.sipush 504, 3) := by decide +kernel
theorem dX0_numberOf_8 : decode cX0_numberOf 8 = .ok (.if_icmp .ge 28, 3) := by decide +kernel
theorem dX0_numberOf_11 : decode cX0_numberOf 11 = .ok (.aload_n 0, 1) := by decide +kernel
theorem dX0_numberOf_12 : decode cX0_numberOf 12 = .ok (.getfield 21, 3) := by decide +kernel
theorem dX0_numberOf_15 : decode cX0_numberOf 15 = .ok (.iload_n 1, 1) := by decide +kernel
theorem dX0_numberOf_16 : decode cX0_numberOf 16 = .ok (.bipush 8, 2) := by decide +kernel
theorem dX0_numberOf_18 : decode cX0_numberOf 18 = .ok (.idiv, 1) := by decide +kernel
theorem dX0_numberOf_19 : decode cX0_numberOf 19 = .ok (.iaload, 1) := by decide +kernel
theorem dX0_numberOf_20 : decode cX0_numberOf 20 = .ok (.iload_n 1, 1) := by decide +kernel
theorem dX0_numberOf_21 : decode cX0_numberOf 21 = .ok (.bipush 8, 2) := by decide +kernel
theorem dX0_numberOf_23 : decode cX0_numberOf 23 = .ok (.irem, 1) := by decide +kernel
theorem dX0_numberOf_24 : decode cX0_numberOf 24 = .ok (.ishr, 1) := by decide +kernel
theorem dX0_numberOf_25 : decode cX0_numberOf 25 = .ok (.iconst 1, 1) := by decide +kernel
theorem dX0_numberOf_26 : decode cX0_numberOf 26 = .ok (.iand, 1) := by decide +kernel
theorem dX0_numberOf_27 : decode cX0_numberOf 27 = .ok (.iconst 1, 1) := by decide +kernel
theorem dX0_numberOf_28 : decode cX0_numberOf 28 = .ok (.if_icmp .ne 8, 3) := by decide +kernel
theorem dX0_numberOf_31 : decode cX0_numberOf 31 = .ok (.aload_n 0, 1) := by decide +kernel
theorem dX0_numberOf_32 : decode cX0_numberOf 32 = .ok (.getfield 64, 3) := by decide +kernel
theorem dX0_numberOf_35 : decode cX0_numberOf 35 = .ok (.ireturn, 1) := by decide +kernel
theorem dX0_numberOf_36 : decode cX0_numberOf 36 = .ok (.aload_n 0, 1) := by decide +kernel
theorem dX0_numberOf_37 : decode cX0_numberOf 37 = .ok (.getfield 64, 3) := by decide +kernel
theorem dX0_numberOf_40 : decode cX0_numberOf 40 = .ok (.iconst 1, 1) := by decide +kernel
theorem dX0_numberOf_41 : decode cX0_numberOf 41 = .ok (.iadd, 1) := by decide +kernel
theorem dX0_numberOf_42 : decode cX0_numberOf 42 = .ok (.istore_n 2, 1) := by decide +kernel
theorem dX0_numberOf_43 : decode cX0_numberOf 43 = .ok (.iload_n 2, 1) := by decide +kernel
theorem dX0_numberOf_44 : decode cX0_numberOf 44 = .ok (.aload_n 0, 1) := by decide +kernel
theorem dX0_numberOf_45 : decode cX0_numberOf 45 = .ok (.getfield 67, 3) := by decide +kernel
theorem dX0_numberOf_48 : decode cX0_numberOf 48 = .ok (.if_icmp .gt 20, 3) := by decide +kernel
theorem dX0_numberOf_51 : decode cX0_numberOf 51 = .ok (.aload_n 0, 1) := by decide +kernel
theorem dX0_numberOf_52 : decode cX0_numberOf 52 = .ok (.iload_n 2, 1) := by decide +kernel
theorem dX0_numberOf_53 : decode cX0_numberOf 53 = .ok (.invokevirtual 99, 3) := by decide +kernel
theorem dX0_numberOf_56 : decode cX0_numberOf 56 = .ok (.iload_n 1, 1) := by decide +kernel
theorem dX0_numberOf_57 : decode cX0_numberOf 57 = .ok (.if_icmp .ne 5, 3) := by decide +kernel
theorem dX0_numberOf_60 : decode cX0_numberOf 60 = .ok (.iload_n 2, 1) := by decide +kernel
theorem dX0_numberOf_61 : decode cX0_numberOf 61 = .ok (.ireturn, 1) := by decide +kernel
theorem dX0_numberOf_62 : decode cX0_numberOf 62 = .ok (.iinc 2 1, 3) := by decide +kernel
theorem dX0_numberOf_65 : decode cX0_numberOf 65 = .ok (.goto (-22), 3) := by decide +kernel
theorem dX0_numberOf_68 : decode cX0_numberOf 68 = .ok (.iconst (-1), 1) := by decide +kernel
theorem dX0_numberOf_69 : decode cX0_numberOf 69 = .ok (.ireturn, 1) := by decide +kernel
theorem dX0_raiseSure_0 : decode cX0_raiseSure 0 = .ok (.aload_n 0, 1) := by decide +kernel
theorem dX0_raiseSure_1 : decode cX0_raiseSure 1 = .ok (.aload_n 0, 1) := by decide +kernel
theorem dX0_raiseSure_2 : decode cX0_raiseSure 2 = .ok (.getfield 70, 3) := by decide +kernel
theorem dX0_raiseSure_5 : decode cX0_raiseSure 5 = .ok (.iload_n 1, 1) := by decide +kernel
theorem dX0_raiseSure_6 : decode cX0_raiseSure 6 = .ok (.aload_n 0, 1) := by decide +kernel
theorem dX0_raiseSure_7 : decode cX0_raiseSure 7 = .ok (.getfield 67, 3) := by decide +kernel
theorem dX0_raiseSure_10 : decode cX0_raiseSure 10 = .ok (.invokestatic 124, 3) := by decide +kernel
theorem dX0_raiseSure_13 : decode cX0_raiseSure 13 = .ok (.invokestatic 130, 3) := by decide +kernel
theorem dX0_raiseSure_16 : decode cX0_raiseSure 16 = .ok (.putfield 70, 3) := by decide +kernel
theorem dX0_raiseSure_19 : decode cX0_raiseSure 19 = .ok (.return_, 1) := by decide +kernel
theorem dX0_append_0 : decode cX0_append 0 = .ok (.aload_n 0, 1) := by decide +kernel
theorem dX0_append_1 : decode cX0_append 1 = .ok (.getfield 24, 3) := by decide +kernel
theorem dX0_append_4 : decode cX0_append 4 = .ok (.iload_n 1, 1) := by decide +kernel
theorem dX0_append_5 : decode cX0_append 5 = .ok (.invokevirtual 103, 3) := by decide +kernel
theorem dX0_append_8 : decode cX0_append 8 = .ok (.astore_n 3, 1) := by decide +kernel
theorem dX0_append_9 : decode cX0_append 9 = .ok (.aload_n 3, 1) := by decide +kernel
theorem dX0_append_10 : decode cX0_append 10 = .ok (.ifnull 15, 3) := by decide +kernel
theorem dX0_append_13 : decode cX0_append 13 = .ok (.aload_n 0, 1) := by decide +kernel
theorem dX0_append_14 : decode cX0_append 14 = .ok (.getfield 67, 3) := by decide +kernel
theorem dX0_append_17 : decode cX0_append 17 = .ok (.iconst 1, 1) := by decide +kernel
theorem dX0_append_18 : decode cX0_append 18 = .ok (.iadd, 1) := by decide +kernel
theorem dX0_append_19 : decode cX0_append 19 = .ok (.sipush 512, 3) := by decide +kernel
theorem dX0_append_22 : decode cX0_append 22 = .ok (.if_icmp .lt 4, 3) := by decide +kernel
theorem dX0_append_25 : decode cX0_append 25 = .ok (.return_, 1) := by decide +kernel
theorem dX0_append_26 : decode cX0_append 26 = .ok (.aload_n 0, 1) := by decide +kernel
theorem dX0_append_27 : decode cX0_append 27 = .ok (.getfield 67, 3) := by decide +kernel
theorem dX0_append_30 : decode cX0_append 30 = .ok (.aload_n 0, 1) := by decide +kernel
theorem dX0_append_31 : decode cX0_append 31 = .ok (.getfield 64, 3) := by decide +kernel
theorem dX0_append_34 : decode cX0_append 34 = .ok (.isub, 1) := by decide +kernel
theorem dX0_append_35 : decode cX0_append 35 = .ok (.bipush 60, 2) := by decide +kernel
theorem dX0_append_37 : decode cX0_append 37 = .ok (.if_icmp .lt 18, 3) := by decide +kernel
theorem dX0_append_40 : decode cX0_append 40 = .ok (.aload_n 0, 1) := by decide +kernel
theorem dX0_append_41 : decode cX0_append 41 = .ok (.getfield 70, 3) := by decide +kernel
theorem dX0_append_44 : decode cX0_append 44 = .ok (.aload_n 0, 1) := by decide +kernel
theorem dX0_append_45 : decode cX0_append 45 = .ok (.getfield 64, 3) := by decide +kernel
theorem dX0_append_48 : decode cX0_append 48 = .ok (.if_icmp .le 7, 3) := by decide +kernel
theorem dX0_append_51 : decode cX0_append 51 = .ok (.aload_n 0, 1) := by decide +kernel
theorem dX0_append_52 : decode cX0_append 52 = .ok (.invokevirtual 61, 3) := by decide +kernel
theorem dX0_append_55 : decode cX0_append 55 = .ok (.aload_n 0, 1) := by decide +kernel
theorem dX0_append_56 : decode cX0_append 56 = .ok (.getfield 33, 3) := by decide +kernel
theorem dX0_append_59 : decode cX0_append 59 = .ok (.bipush 12, 2) := by decide +kernel
theorem dX0_append_61 : decode cX0_append 61 = .ok (.aload_n 3, 1) := by decide +kernel
theorem dX0_append_62 : decode cX0_append 62 = .ok (.getfield 133, 3) := by decide +kernel
theorem dX0_append_65 : decode cX0_append 65 = .ok (.arraylength, 1) := by decide +kernel
theorem dX0_append_66 : decode cX0_append 66 = .ok (.iadd, 1) := by decide +kernel
theorem dX0_append_67 : decode cX0_append 67 = .ok (.invokevirtual 136, 3) := by decide +kernel
theorem dX0_append_70 : decode cX0_append 70 = .ok (.ifCond .ne 7, 3) := by decide +kernel
theorem dX0_append_73 : decode cX0_append 73 = .ok (.aload_n 0, 1) := by decide +kernel
theorem dX0_append_74 : decode cX0_append 74 = .ok (.invokevirtual 61, 3) := by decide +kernel
theorem dX0_append_77 : decode cX0_append 77 = .ok (.aload_n 0, 1) := by decide +kernel
theorem dX0_append_78 : decode cX0_append 78 = .ok (.getfield 33, 3) := by decide +kernel
theorem dX0_append_81 : decode cX0_append 81 = .ok (.invokevirtual 140, 3) := by decide +kernel
theorem dX0_append_84 : decode cX0_append 84 = .ok (.aload_n 0, 1) := by decide +kernel
theorem dX0_append_85 : decode cX0_append 85 = .ok (.aload_n 0, 1) := by decide +kernel
theorem dX0_append_86 : decode cX0_append 86 = .ok (.getfield 67, 3) := by decide +kernel
theorem dX0_append_89 : decode cX0_append 89 = .ok (.iconst 1, 1) := by decide +kernel
theorem dX0_append_90 : decode cX0_append 90 = .ok (.iadd, 1) := by decide +kernel
theorem dX0_append_91 : decode cX0_append 91 = .ok (.aload_n 3, 1) := by decide +kernel
theorem dX0_append_92 : decode cX0_append 92 = .ok (.iload_n 2, 1) := by decide +kernel
theorem dX0_append_93 : decode cX0_append 93 = .ok (.invokevirtual 143, 3) := by decide +kernel
theorem dX0_append_96 : decode cX0_append 96 = .ok (.aload_n 0, 1) := by decide +kernel
theorem dX0_append_97 : decode cX0_append 97 = .ok (.getfield 33, 3) := by decide +kernel
theorem dX0_append_100 : decode cX0_append 100 = .ok (.invokevirtual 147, 3) := by decide +kernel
theorem dX0_append_103 : decode cX0_append 103 = .ok (.aload_n 0, 1) := by decide +kernel
theorem dX0_append_104 : decode cX0_append 104 = .ok (.dup, 1) := by decide +kernel
theorem dX0_append_105 : decode cX0_append 105 = .ok (.getfield 67, 3) := by decide +kernel
theorem dX0_append_108 : decode cX0_append 108 = .ok (.iconst 1, 1) := by decide +kernel
theorem dX0_append_109 : decode cX0_append 109 = .ok (.iadd, 1) := by decide +kernel
theorem dX0_append_110 : decode cX0_append 110 = .ok (.putfield 67, 3) := by decide +kernel
theorem dX0_append_113 : decode cX0_append 113 = .ok (.aload_n 0, 1) := by decide +kernel
theorem dX0_append_114 : decode cX0_append 114 = .ok (.getfield 9, 3) := by decide +kernel
theorem dX0_append_117 : decode cX0_append 117 = .ok (.aload_n 0, 1) := by decide +kernel
theorem dX0_append_118 : decode cX0_append 118 = .ok (.getfield 67, 3) := by decide +kernel
theorem dX0_append_121 : decode cX0_append 121 = .ok (.iload_n 1, 1) := by decide +kernel
theorem dX0_append_122 : decode cX0_append 122 = .ok (.iastore, 1) := by decide +kernel
theorem dX0_append_123 : decode cX0_append 123 = .ok (.aload_n 0, 1) := by decide +kernel
theorem dX0_append_124 : decode cX0_append 124 = .ok (.getfield 15, 3) := by decide +kernel
theorem dX0_append_127 : decode cX0_append 127 = .ok (.aload_n 0, 1) := by decide +kernel
theorem dX0_append_128 : decode cX0_append 128 = .ok (.getfield 67, 3) := by decide +kernel
theorem dX0_append_131 : decode cX0_append 131 = .ok (.iload_n 2, 1) := by decide +kernel
theorem dX0_append_132 : decode cX0_append 132 = .ok (.iastore, 1) := by decide +kernel
theorem dX0_append_133 : decode cX0_append 133 = .ok (.return_, 1) := by decide +kernel
theorem dX0_cutTo_0 : decode cX0_cutTo 0 = .ok (.aload_n 0, 1) := by decide +kernel
theorem dX0_cutTo_1 : decode cX0_cutTo 1 = .ok (.getfield 33, 3) := by decide +kernel
theorem dX0_cutTo_4 : decode cX0_cutTo 4 = .ok (.bipush 7, 2) := by decide +kernel
theorem dX0_cutTo_6 : decode cX0_cutTo 6 = .ok (.invokevirtual 136, 3) := by decide +kernel
theorem dX0_cutTo_9 : decode cX0_cutTo 9 = .ok (.ifCond .ne 7, 3) := by decide +kernel
theorem dX0_cutTo_12 : decode cX0_cutTo 12 = .ok (.aload_n 0, 1) := by decide +kernel
theorem dX0_cutTo_13 : decode cX0_cutTo 13 = .ok (.invokevirtual 61, 3) := by decide +kernel
theorem dX0_cutTo_16 : decode cX0_cutTo 16 = .ok (.aload_n 0, 1) := by decide +kernel
theorem dX0_cutTo_17 : decode cX0_cutTo 17 = .ok (.getfield 33, 3) := by decide +kernel
theorem dX0_cutTo_20 : decode cX0_cutTo 20 = .ok (.invokevirtual 140, 3) := by decide +kernel
theorem dX0_cutTo_23 : decode cX0_cutTo 23 = .ok (.aload_n 0, 1) := by decide +kernel
theorem dX0_cutTo_24 : decode cX0_cutTo 24 = .ok (.getfield 33, 3) := by decide +kernel
theorem dX0_cutTo_27 : decode cX0_cutTo 27 = .ok (.iconst 3, 1) := by decide +kernel
theorem dX0_cutTo_28 : decode cX0_cutTo 28 = .ok (.invokevirtual 150, 3) := by decide +kernel
theorem dX0_cutTo_31 : decode cX0_cutTo 31 = .ok (.aload_n 0, 1) := by decide +kernel
theorem dX0_cutTo_32 : decode cX0_cutTo 32 = .ok (.getfield 33, 3) := by decide +kernel
theorem dX0_cutTo_35 : decode cX0_cutTo 35 = .ok (.iload_n 1, 1) := by decide +kernel
theorem dX0_cutTo_36 : decode cX0_cutTo 36 = .ok (.invokevirtual 153, 3) := by decide +kernel
theorem dX0_cutTo_39 : decode cX0_cutTo 39 = .ok (.aload_n 0, 1) := by decide +kernel
theorem dX0_cutTo_40 : decode cX0_cutTo 40 = .ok (.getfield 33, 3) := by decide +kernel
theorem dX0_cutTo_43 : decode cX0_cutTo 43 = .ok (.iload_n 2, 1) := by decide +kernel
theorem dX0_cutTo_44 : decode cX0_cutTo 44 = .ok (.invokevirtual 153, 3) := by decide +kernel
theorem dX0_cutTo_47 : decode cX0_cutTo 47 = .ok (.aload_n 0, 1) := by decide +kernel
theorem dX0_cutTo_48 : decode cX0_cutTo 48 = .ok (.getfield 33, 3) := by decide +kernel
theorem dX0_cutTo_51 : decode cX0_cutTo 51 = .ok (.invokevirtual 156, 3) := by decide +kernel
theorem dX0_cutTo_54 : decode cX0_cutTo 54 = .ok (.aload_n 0, 1) := by decide +kernel
theorem dX0_cutTo_55 : decode cX0_cutTo 55 = .ok (.getfield 33, 3) := by decide +kernel
theorem dX0_cutTo_58 : decode cX0_cutTo 58 = .ok (.invokevirtual 147, 3) := by decide +kernel
theorem dX0_cutTo_61 : decode cX0_cutTo 61 = .ok (.aload_n 0, 1) := by decide +kernel
theorem dX0_cutTo_62 : decode cX0_cutTo 62 = .ok (.aload_n 0, 1) := by decide +kernel
theorem dX0_cutTo_63 : decode cX0_cutTo 63 = .ok (.getfield 67, 3) := by decide +kernel
theorem dX0_cutTo_66 : decode cX0_cutTo 66 = .ok (.iload_n 1, 1) := by decide +kernel
theorem dX0_cutTo_67 : decode cX0_cutTo 67 = .ok (.invokestatic 124, 3) := by decide +kernel
theorem dX0_cutTo_70 : decode cX0_cutTo 70 = .ok (.putfield 67, 3) := by decide +kernel
theorem dX0_cutTo_73 : decode cX0_cutTo 73 = .ok (.aload_n 0, 1) := by decide +kernel
theorem dX0_cutTo_74 : decode cX0_cutTo 74 = .ok (.iload_n 2, 1) := by decide +kernel
theorem dX0_cutTo_75 : decode cX0_cutTo 75 = .ok (.putfield 51, 3) := by decide +kernel
theorem dX0_cutTo_78 : decode cX0_cutTo 78 = .ok (.return_, 1) := by decide +kernel
theorem dX0_showUpTo_0 : decode cX0_showUpTo 0 = .ok (.aload_n 0, 1) := by decide +kernel
theorem dX0_showUpTo_1 : decode cX0_showUpTo 1 = .ok (.getfield 33, 3) := by decide +kernel
theorem dX0_showUpTo_4 : decode cX0_showUpTo 4 = .ok (.iconst 5, 1) := by decide +kernel
theorem dX0_showUpTo_5 : decode cX0_showUpTo 5 = .ok (.invokevirtual 136, 3) := by decide +kernel
theorem dX0_showUpTo_8 : decode cX0_showUpTo 8 = .ok (.ifCond .ne 7, 3) := by decide +kernel
theorem dX0_showUpTo_11 : decode cX0_showUpTo 11 = .ok (.aload_n 0, 1) := by decide +kernel
theorem dX0_showUpTo_12 : decode cX0_showUpTo 12 = .ok (.invokevirtual 61, 3) := by decide +kernel
theorem dX0_showUpTo_15 : decode cX0_showUpTo 15 = .ok (.iload_n 1, 1) := by decide +kernel
theorem dX0_showUpTo_16 : decode cX0_showUpTo 16 = .ok (.aload_n 0, 1) := by decide +kernel
theorem dX0_showUpTo_17 : decode cX0_showUpTo 17 = .ok (.getfield 64, 3) := by decide +kernel
theorem dX0_showUpTo_20 : decode cX0_showUpTo 20 = .ok (.invokestatic 130, 3) := by decide +kernel
theorem dX0_showUpTo_23 : decode cX0_showUpTo 23 = .ok (.istore_n 2, 1) := by decide +kernel
theorem dX0_showUpTo_24 : decode cX0_showUpTo 24 = .ok (.aload_n 0, 1) := by decide +kernel
theorem dX0_showUpTo_25 : decode cX0_showUpTo 25 = .ok (.getfield 33, 3) := by decide +kernel
theorem dX0_showUpTo_28 : decode cX0_showUpTo 28 = .ok (.invokevirtual 140, 3) := by decide +kernel
theorem dX0_showUpTo_31 : decode cX0_showUpTo 31 = .ok (.aload_n 0, 1) := by decide +kernel
theorem dX0_showUpTo_32 : decode cX0_showUpTo 32 = .ok (.iload_n 2, 1) := by decide +kernel
theorem dX0_showUpTo_33 : decode cX0_showUpTo 33 = .ok (.invokevirtual 159, 3) := by decide +kernel
theorem dX0_showUpTo_36 : decode cX0_showUpTo 36 = .ok (.aload_n 0, 1) := by decide +kernel
theorem dX0_showUpTo_37 : decode cX0_showUpTo 37 = .ok (.getfield 33, 3) := by decide +kernel
theorem dX0_showUpTo_40 : decode cX0_showUpTo 40 = .ok (.invokevirtual 147, 3) := by decide +kernel
theorem dX0_showUpTo_43 : decode cX0_showUpTo 43 = .ok (.aload_n 0, 1) := by decide +kernel
theorem dX0_showUpTo_44 : decode cX0_showUpTo 44 = .ok (.iload_n 2, 1) := by decide +kernel
theorem dX0_showUpTo_45 : decode cX0_showUpTo 45 = .ok (.aload_n 0, 1) := by decide +kernel
theorem dX0_showUpTo_46 : decode cX0_showUpTo 46 = .ok (.getfield 24, 3) := by decide +kernel
theorem dX0_showUpTo_49 : decode cX0_showUpTo 49 = .ok (.getfield 92, 3) := by decide +kernel
theorem dX0_showUpTo_52 : decode cX0_showUpTo 52 = .ok (.invokevirtual 95, 3) := by decide +kernel
theorem dX0_showUpTo_55 : decode cX0_showUpTo 55 = .ok (.aload_n 0, 1) := by decide +kernel
theorem dX0_showUpTo_56 : decode cX0_showUpTo 56 = .ok (.getfield 40, 3) := by decide +kernel
theorem dX0_showUpTo_59 : decode cX0_showUpTo 59 = .ok (.aload_n 0, 1) := by decide +kernel
theorem dX0_showUpTo_60 : decode cX0_showUpTo 60 = .ok (.getfield 24, 3) := by decide +kernel
theorem dX0_showUpTo_63 : decode cX0_showUpTo 63 = .ok (.getfield 92, 3) := by decide +kernel
theorem dX0_showUpTo_66 : decode cX0_showUpTo 66 = .ok (.invokevirtual 162, 3) := by decide +kernel
theorem dX0_showUpTo_69 : decode cX0_showUpTo 69 = .ok (.aload_n 0, 1) := by decide +kernel
theorem dX0_showUpTo_70 : decode cX0_showUpTo 70 = .ok (.iload_n 2, 1) := by decide +kernel
theorem dX0_showUpTo_71 : decode cX0_showUpTo 71 = .ok (.putfield 73, 3) := by decide +kernel
theorem dX0_showUpTo_74 : decode cX0_showUpTo 74 = .ok (.return_, 1) := by decide +kernel
theorem dX0_follow_0 : decode cX0_follow 0 = .ok (.aload_n 1, 1) := by decide +kernel
theorem dX0_follow_1 : decode cX0_follow 1 = .ok (.getfield 166, 3) := by decide +kernel
theorem dX0_follow_4 : decode cX0_follow 4 = .ok (.iconst 1, 1) := by decide +kernel
theorem dX0_follow_5 : decode cX0_follow 5 = .ok (.iaload, 1) := by decide +kernel
theorem dX0_follow_6 : decode cX0_follow 6 = .ok (.istore_n 2, 1) := by decide +kernel
theorem dX0_follow_7 : decode cX0_follow 7 = .ok (.aload_n 1, 1) := by decide +kernel
theorem dX0_follow_8 : decode cX0_follow 8 = .ok (.getfield 166, 3) := by decide +kernel
theorem dX0_follow_11 : decode cX0_follow 11 = .ok (.iconst 3, 1) := by decide +kernel
theorem dX0_follow_12 : decode cX0_follow 12 = .ok (.iaload, 1) := by decide +kernel
theorem dX0_follow_13 : decode cX0_follow 13 = .ok (.istore_n 3, 1) := by decide +kernel
theorem dX0_follow_14 : decode cX0_follow 14 = .ok (.aload_n 0, 1) := by decide +kernel
theorem dX0_follow_15 : decode cX0_follow 15 = .ok (.aload_n 1, 1) := by decide +kernel
theorem dX0_follow_16 : decode cX0_follow 16 = .ok (.invokevirtual 171, 3) := by decide +kernel
theorem dX0_follow_19 : decode cX0_follow 19 = .ok (.istore 4, 2) := by decide +kernel
theorem dX0_follow_21 : decode cX0_follow 21 = .ok (.aload_n 0, 1) := by decide +kernel
theorem dX0_follow_22 : decode cX0_follow 22 = .ok (.getfield 70, 3) := by decide +kernel
theorem dX0_follow_25 : decode cX0_follow 25 = .ok (.aload_n 1, 1) := by decide +kernel
theorem dX0_follow_26 : decode cX0_follow 26 = .ok (.getfield 166, 3) := by decide +kernel
theorem dX0_follow_29 : decode cX0_follow 29 = .ok (.iconst 2, 1) := by decide +kernel
theorem dX0_follow_30 : decode cX0_follow 30 = .ok (.iaload, 1) := by decide +kernel
theorem dX0_follow_31 : decode cX0_follow 31 = .ok (.if_icmp .ge 13, 3) := by decide +kernel
theorem dX0_follow_34 : decode cX0_follow 34 = .ok (.aload_n 0, 1) := by decide +kernel
theorem dX0_follow_35 : decode cX0_follow 35 = .ok (.aload_n 1, 1) := by decide +kernel
theorem dX0_follow_36 : decode cX0_follow 36 = .ok (.iload 4, 2) := by decide +kernel
theorem dX0_follow_38 : decode cX0_follow 38 = .ok (.invokevirtual 175, 3) := by decide +kernel
theorem dX0_follow_41 : decode cX0_follow 41 = .ok (.goto 27, 3) := by decide +kernel
theorem dX0_follow_44 : decode cX0_follow 44 = .ok (.iload 4, 2) := by decide +kernel
theorem dX0_follow_46 : decode cX0_follow 46 = .ok (.aload_n 0, 1) := by decide +kernel
theorem dX0_follow_47 : decode cX0_follow 47 = .ok (.getfield 67, 3) := by decide +kernel
theorem dX0_follow_50 : decode cX0_follow 50 = .ok (.if_icmp .lt 11, 3) := by decide +kernel
theorem dX0_follow_53 : decode cX0_follow 53 = .ok (.iload_n 2, 1) := by decide +kernel
theorem dX0_follow_54 : decode cX0_follow 54 = .ok (.aload_n 0, 1) := by decide +kernel
theorem dX0_follow_55 : decode cX0_follow 55 = .ok (.getfield 51, 3) := by decide +kernel
theorem dX0_follow_58 : decode cX0_follow 58 = .ok (.if_icmp .le 10, 3) := by decide +kernel
theorem dX0_follow_61 : decode cX0_follow 61 = .ok (.aload_n 0, 1) := by decide +kernel
theorem dX0_follow_62 : decode cX0_follow 62 = .ok (.iload 4, 2) := by decide +kernel
theorem dX0_follow_64 : decode cX0_follow 64 = .ok (.iload_n 2, 1) := by decide +kernel
theorem dX0_follow_65 : decode cX0_follow 65 = .ok (.invokevirtual 179, 3) := by decide +kernel
theorem dX0_follow_68 : decode cX0_follow 68 = .ok (.aload_n 0, 1) := by decide +kernel
theorem dX0_follow_69 : decode cX0_follow 69 = .ok (.iload_n 3, 1) := by decide +kernel
theorem dX0_follow_70 : decode cX0_follow 70 = .ok (.invokevirtual 183, 3) := by decide +kernel
theorem dX0_follow_73 : decode cX0_follow 73 = .ok (.aload_n 1, 1) := by decide +kernel
theorem dX0_follow_74 : decode cX0_follow 74 = .ok (.getfield 166, 3) := by decide +kernel
theorem dX0_follow_77 : decode cX0_follow 77 = .ok (.iconst 4, 1) := by decide +kernel
theorem dX0_follow_78 : decode cX0_follow 78 = .ok (.iaload, 1) := by decide +kernel
theorem dX0_follow_79 : decode cX0_follow 79 = .ok (.sipush 511, 3) := by decide +kernel
theorem dX0_follow_82 : decode cX0_follow 82 = .ok (.invokestatic 124, 3) := by decide +kernel
theorem dX0_follow_85 : decode cX0_follow 85 = .ok (.istore 5, 2) := by decide +kernel
theorem dX0_follow_87 : decode cX0_follow 87 = .ok (.aload_n 0, 1) := by decide +kernel
theorem dX0_follow_88 : decode cX0_follow 88 = .ok (.getfield 67, 3) := by decide +kernel
theorem dX0_follow_91 : decode cX0_follow 91 = .ok (.iconst 1, 1) := by decide +kernel
theorem dX0_follow_92 : decode cX0_follow 92 = .ok (.iadd, 1) := by decide +kernel
theorem dX0_follow_93 : decode cX0_follow 93 = .ok (.istore 6, 2) := by decide +kernel
theorem dX0_follow_95 : decode cX0_follow 95 = .ok (.iload 6, 2) := by decide +kernel
theorem dX0_follow_97 : decode cX0_follow 97 = .ok (.iload 5, 2) := by decide +kernel
theorem dX0_follow_99 : decode cX0_follow 99 = .ok (.if_icmp .gt 25, 3) := by decide +kernel
theorem dX0_follow_102 : decode cX0_follow 102 = .ok (.aload_n 0, 1) := by decide +kernel
theorem dX0_follow_103 : decode cX0_follow 103 = .ok (.aload_n 1, 1) := by decide +kernel
theorem dX0_follow_104 : decode cX0_follow 104 = .ok (.iload 6, 2) := by decide +kernel
theorem dX0_follow_106 : decode cX0_follow 106 = .ok (.invokevirtual 186, 3) := by decide +kernel
theorem dX0_follow_109 : decode cX0_follow 109 = .ok (.iload_n 2, 1) := by decide +kernel
theorem dX0_follow_110 : decode cX0_follow 110 = .ok (.invokevirtual 189, 3) := by decide +kernel
theorem dX0_follow_113 : decode cX0_follow 113 = .ok (.aload_n 0, 1) := by decide +kernel
theorem dX0_follow_114 : decode cX0_follow 114 = .ok (.iload_n 3, 1) := by decide +kernel
theorem dX0_follow_115 : decode cX0_follow 115 = .ok (.invokevirtual 183, 3) := by decide +kernel
theorem dX0_follow_118 : decode cX0_follow 118 = .ok (.iinc 6 1, 3) := by decide +kernel
theorem dX0_follow_121 : decode cX0_follow 121 = .ok (.goto (-26), 3) := by decide +kernel
theorem dX0_follow_124 : decode cX0_follow 124 = .ok (.aload_n 1, 1) := by decide +kernel
theorem dX0_follow_125 : decode cX0_follow 125 = .ok (.getfield 166, 3) := by decide +kernel
theorem dX0_follow_128 : decode cX0_follow 128 = .ok (.iconst 5, 1) := by decide +kernel
theorem dX0_follow_129 : decode cX0_follow 129 = .ok (.iaload, 1) := by decide +kernel
theorem dX0_follow_130 : decode cX0_follow 130 = .ok (.aload_n 0, 1) := by decide +kernel
theorem dX0_follow_131 : decode cX0_follow 131 = .ok (.getfield 73, 3) := by decide +kernel
theorem dX0_follow_134 : decode cX0_follow 134 = .ok (.if_icmp .le 13, 3) := by decide +kernel
theorem dX0_follow_137 : decode cX0_follow 137 = .ok (.aload_n 0, 1) := by decide +kernel
theorem dX0_follow_138 : decode cX0_follow 138 = .ok (.aload_n 1, 1) := by decide +kernel
theorem dX0_follow_139 : decode cX0_follow 139 = .ok (.getfield 166, 3) := by decide +kernel
theorem dX0_follow_142 : decode cX0_follow 142 = .ok (.iconst 5, 1) := by decide +kernel
theorem dX0_follow_143 : decode cX0_follow 143 = .ok (.iaload, 1) := by decide +kernel
theorem dX0_follow_144 : decode cX0_follow 144 = .ok (.invokevirtual 192, 3) := by decide +kernel
theorem dX0_follow_147 : decode cX0_follow 147 = .ok (.return_, 1) := by decide +kernel
theorem dX0_likeUpTo_0 : decode cX0_likeUpTo 0 = .ok (.aload_n 0, 1) := by decide +kernel
theorem dX0_likeUpTo_1 : decode cX0_likeUpTo 1 = .ok (.getfield 70, 3) := by decide +kernel
theorem dX0_likeUpTo_4 : decode cX0_likeUpTo 4 = .ok (.aload_n 1, 1) := by decide +kernel
theorem dX0_likeUpTo_5 : decode cX0_likeUpTo 5 = .ok (.getfield 166, 3) := by decide +kernel
theorem dX0_likeUpTo_8 : decode cX0_likeUpTo 8 = .ok (.iconst 2, 1) := by decide +kernel
theorem dX0_likeUpTo_9 : decode cX0_likeUpTo 9 = .ok (.iaload, 1) := by decide +kernel
theorem dX0_likeUpTo_10 : decode cX0_likeUpTo 10 = .ok (.invokestatic 130, 3) := by decide +kernel
theorem dX0_likeUpTo_13 : decode cX0_likeUpTo 13 = .ok (.istore_n 2, 1) := by decide +kernel
theorem dX0_likeUpTo_14 : decode cX0_likeUpTo 14 = .ok (.iload_n 2, 1) := by decide +kernel
theorem dX0_likeUpTo_15 : decode cX0_likeUpTo 15 = .ok (.aload_n 0, 1) := by decide +kernel
theorem dX0_likeUpTo_16 : decode cX0_likeUpTo 16 = .ok (.getfield 67, 3) := by decide +kernel
theorem dX0_likeUpTo_19 : decode cX0_likeUpTo 19 = .ok (.if_icmp .ge 36, 3) := by decide +kernel
theorem dX0_likeUpTo_22 : decode cX0_likeUpTo 22 = .ok (.iload_n 2, 1) := by decide +kernel
theorem dX0_likeUpTo_23 : decode cX0_likeUpTo 23 = .ok (.aload_n 1, 1) := by decide +kernel
theorem dX0_likeUpTo_24 : decode cX0_likeUpTo 24 = .ok (.getfield 166, 3) := by decide +kernel
theorem dX0_likeUpTo_27 : decode cX0_likeUpTo 27 = .ok (.iconst 4, 1) := by decide +kernel
theorem dX0_likeUpTo_28 : decode cX0_likeUpTo 28 = .ok (.iaload, 1) := by decide +kernel
theorem dX0_likeUpTo_29 : decode cX0_likeUpTo 29 = .ok (.if_icmp .ge 26, 3) := by decide +kernel
theorem dX0_likeUpTo_32 : decode cX0_likeUpTo 32 = .ok (.aload_n 0, 1) := by decide +kernel
theorem dX0_likeUpTo_33 : decode cX0_likeUpTo 33 = .ok (.iload_n 2, 1) := by decide +kernel
theorem dX0_likeUpTo_34 : decode cX0_likeUpTo 34 = .ok (.iconst 1, 1) := by decide +kernel
theorem dX0_likeUpTo_35 : decode cX0_likeUpTo 35 = .ok (.iadd, 1) := by decide +kernel
theorem dX0_likeUpTo_36 : decode cX0_likeUpTo 36 = .ok (.invokevirtual 99, 3) := by decide +kernel
theorem dX0_likeUpTo_39 : decode cX0_likeUpTo 39 = .ok (.aload_n 1, 1) := by decide +kernel
theorem dX0_likeUpTo_40 : decode cX0_likeUpTo 40 = .ok (.iload_n 2, 1) := by decide +kernel
theorem dX0_likeUpTo_41 : decode cX0_likeUpTo 41 = .ok (.iconst 1, 1) := by decide +kernel
theorem dX0_likeUpTo_42 : decode cX0_likeUpTo 42 = .ok (.iadd, 1) := by decide +kernel
theorem dX0_likeUpTo_43 : decode cX0_likeUpTo 43 = .ok (.invokevirtual 186, 3) := by decide +kernel
theorem dX0_likeUpTo_46 : decode cX0_likeUpTo 46 = .ok (.if_icmp .ne 9, 3) := by decide +kernel
theorem dX0_likeUpTo_49 : decode cX0_likeUpTo 49 = .ok (.iinc 2 1, 3) := by decide +kernel
theorem dX0_likeUpTo_52 : decode cX0_likeUpTo 52 = .ok (.goto (-38), 3) := by decide +kernel
theorem dX0_likeUpTo_55 : decode cX0_likeUpTo 55 = .ok (.iload_n 2, 1) := by decide +kernel
theorem dX0_likeUpTo_56 : decode cX0_likeUpTo 56 = .ok (.ireturn, 1) := by decide +kernel
theorem dX0_rebase_0 : decode cX0_rebase 0 = .ok (.aload_n 0, 1) := by decide +kernel
theorem dX0_rebase_1 : decode cX0_rebase 1 = .ok (.aload_n 1, 1) := by decide +kernel
theorem dX0_rebase_2 : decode cX0_rebase 2 = .ok (.getfield 166, 3) := by decide +kernel
theorem dX0_rebase_5 : decode cX0_rebase 5 = .ok (.iconst 2, 1) := by decide +kernel
theorem dX0_rebase_6 : decode cX0_rebase 6 = .ok (.iaload, 1) := by decide +kernel
theorem dX0_rebase_7 : decode cX0_rebase 7 = .ok (.putfield 64, 3) := by decide +kernel
theorem dX0_rebase_10 : decode cX0_rebase 10 = .ok (.aload_n 0, 1) := by decide +kernel
theorem dX0_rebase_11 : decode cX0_rebase 11 = .ok (.iload_n 2, 1) := by decide +kernel
theorem dX0_rebase_12 : decode cX0_rebase 12 = .ok (.putfield 67, 3) := by decide +kernel
theorem dX0_rebase_15 : decode cX0_rebase 15 = .ok (.aload_n 0, 1) := by decide +kernel
theorem dX0_rebase_16 : decode cX0_rebase 16 = .ok (.aload_n 0, 1) := by decide +kernel
theorem dX0_rebase_17 : decode cX0_rebase 17 = .ok (.getfield 64, 3) := by decide +kernel
theorem dX0_rebase_20 : decode cX0_rebase 20 = .ok (.aload_n 1, 1) := by decide +kernel
theorem dX0_rebase_21 : decode cX0_rebase 21 = .ok (.getfield 166, 3) := by decide +kernel
theorem dX0_rebase_24 : decode cX0_rebase 24 = .ok (.iconst 3, 1) := by decide +kernel
theorem dX0_rebase_25 : decode cX0_rebase 25 = .ok (.iaload, 1) := by decide +kernel
theorem dX0_rebase_26 : decode cX0_rebase 26 = .ok (.iload_n 2, 1) := by decide +kernel
theorem dX0_rebase_27 : decode cX0_rebase 27 = .ok (.invokestatic 124, 3) := by decide +kernel
theorem dX0_rebase_30 : decode cX0_rebase 30 = .ok (.invokestatic 130, 3) := by decide +kernel
theorem dX0_rebase_33 : decode cX0_rebase 33 = .ok (.putfield 70, 3) := by decide +kernel
theorem dX0_rebase_36 : decode cX0_rebase 36 = .ok (.aload_n 0, 1) := by decide +kernel
theorem dX0_rebase_37 : decode cX0_rebase 37 = .ok (.aload_n 1, 1) := by decide +kernel
theorem dX0_rebase_38 : decode cX0_rebase 38 = .ok (.getfield 166, 3) := by decide +kernel
theorem dX0_rebase_41 : decode cX0_rebase 41 = .ok (.iconst 1, 1) := by decide +kernel
theorem dX0_rebase_42 : decode cX0_rebase 42 = .ok (.iaload, 1) := by decide +kernel
theorem dX0_rebase_43 : decode cX0_rebase 43 = .ok (.putfield 51, 3) := by decide +kernel
theorem dX0_rebase_46 : decode cX0_rebase 46 = .ok (.aload_n 1, 1) := by decide +kernel
theorem dX0_rebase_47 : decode cX0_rebase 47 = .ok (.getfield 195, 3) := by decide +kernel
theorem dX0_rebase_50 : decode cX0_rebase 50 = .ok (.arraylength, 1) := by decide +kernel
theorem dX0_rebase_51 : decode cX0_rebase 51 = .ok (.bipush 100, 2) := by decide +kernel
theorem dX0_rebase_53 : decode cX0_rebase 53 = .ok (.if_icmp .ne 43, 3) := by decide +kernel
theorem dX0_rebase_56 : decode cX0_rebase 56 = .ok (.aload_n 1, 1) := by decide +kernel
theorem dX0_rebase_57 : decode cX0_rebase 57 = .ok (.getfield 196, 3) := by decide +kernel
theorem dX0_rebase_60 : decode cX0_rebase 60 = .ok (.arraylength, 1) := by decide +kernel
theorem dX0_rebase_61 : decode cX0_rebase 61 = .ok (.bipush 63, 2) := by decide +kernel
theorem dX0_rebase_63 : decode cX0_rebase 63 = .ok (.if_icmp .ne 33, 3) := by decide +kernel
theorem dX0_rebase_66 : decode cX0_rebase 66 = .ok (.aload_n 1, 1) := by decide +kernel
theorem dX0_rebase_67 : decode cX0_rebase 67 = .ok (.getfield 195, 3) := by decide +kernel
theorem dX0_rebase_70 : decode cX0_rebase 70 = .ok (.iconst 0, 1) := by decide +kernel
theorem dX0_rebase_71 : decode cX0_rebase 71 = .ok (.aload_n 0, 1) := by decide +kernel
theorem dX0_rebase_72 : decode cX0_rebase 72 = .ok (.getfield 18, 3) := by decide +kernel
theorem dX0_rebase_75 : decode cX0_rebase 75 = .ok (.iconst 0, 1) := by decide +kernel
theorem dX0_rebase_76 : decode cX0_rebase 76 = .ok (.bipush 100, 2) := by decide +kernel
theorem dX0_rebase_78 : decode cX0_rebase 78 = .ok (.invokestatic 118, 3) := by decide +kernel
theorem dX0_rebase_81 : decode cX0_rebase 81 = .ok (.aload_n 1, 1) := by decide +kernel
theorem dX0_rebase_82 : decode cX0_rebase 82 = .ok (.getfield 196, 3) := by decide +kernel
theorem dX0_rebase_85 : decode cX0_rebase 85 = .ok (.iconst 0, 1) := by decide +kernel
theorem dX0_rebase_86 : decode cX0_rebase 86 = .ok (.aload_n 0, 1) := by decide +kernel
theorem dX0_rebase_87 : decode cX0_rebase 87 = .ok (.getfield 21, 3) := by decide +kernel
theorem dX0_rebase_90 : decode cX0_rebase 90 = .ok (.iconst 0, 1) := by decide +kernel
theorem dX0_rebase_91 : decode cX0_rebase 91 = .ok (.bipush 63, 2) := by decide +kernel
theorem dX0_rebase_93 : decode cX0_rebase 93 = .ok (.invokestatic 118, 3) := by decide +kernel
theorem dX0_rebase_96 : decode cX0_rebase 96 = .ok (.aload_n 0, 1) := by decide +kernel
theorem dX0_rebase_97 : decode cX0_rebase 97 = .ok (.invokevirtual 61, 3) := by decide +kernel
theorem dX0_rebase_100 : decode cX0_rebase 100 = .ok (.return_, 1) := by decide +kernel
theorem dX0_flush_0 : decode cX0_flush 0 = .ok (.aload_n 0, 1) := by decide +kernel
theorem dX0_flush_1 : decode cX0_flush 1 = .ok (.aload_n 0, 1) := by decide +kernel
theorem dX0_flush_2 : decode cX0_flush 2 = .ok (.getfield 70, 3) := by decide +kernel
theorem dX0_flush_5 : decode cX0_flush 5 = .ok (.aload_n 0, 1) := by decide +kernel
theorem dX0_flush_6 : decode cX0_flush 6 = .ok (.getfield 18, 3) := by decide +kernel
theorem dX0_flush_9 : decode cX0_flush 9 = .ok (.invokevirtual 95, 3) := by decide +kernel
theorem dX0_flush_12 : decode cX0_flush 12 = .ok (.aload_n 0, 1) := by decide +kernel
theorem dX0_flush_13 : decode cX0_flush 13 = .ok (.invokevirtual 197, 3) := by decide +kernel
theorem dX0_flush_16 : decode cX0_flush 16 = .ok (.aload_n 0, 1) := by decide +kernel
theorem dX0_flush_17 : decode cX0_flush 17 = .ok (.aload_n 0, 1) := by decide +kernel
theorem dX0_flush_18 : decode cX0_flush 18 = .ok (.getfield 70, 3) := by decide +kernel
theorem dX0_flush_21 : decode cX0_flush 21 = .ok (.putfield 64, 3) := by decide +kernel
theorem dX0_flush_24 : decode cX0_flush 24 = .ok (.aload_n 0, 1) := by decide +kernel
theorem dX0_flush_25 : decode cX0_flush 25 = .ok (.getfield 33, 3) := by decide +kernel
theorem dX0_flush_28 : decode cX0_flush 28 = .ok (.invokevirtual 140, 3) := by decide +kernel
theorem dX0_flush_31 : decode cX0_flush 31 = .ok (.aload_n 0, 1) := by decide +kernel
theorem dX0_flush_32 : decode cX0_flush 32 = .ok (.getfield 33, 3) := by decide +kernel
theorem dX0_flush_35 : decode cX0_flush 35 = .ok (.iconst 5, 1) := by decide +kernel
theorem dX0_flush_36 : decode cX0_flush 36 = .ok (.invokevirtual 150, 3) := by decide +kernel
theorem dX0_flush_39 : decode cX0_flush 39 = .ok (.aload_n 0, 1) := by decide +kernel
theorem dX0_flush_40 : decode cX0_flush 40 = .ok (.getfield 33, 3) := by decide +kernel
theorem dX0_flush_43 : decode cX0_flush 43 = .ok (.aload_n 0, 1) := by decide +kernel
theorem dX0_flush_44 : decode cX0_flush 44 = .ok (.getfield 64, 3) := by decide +kernel
theorem dX0_flush_47 : decode cX0_flush 47 = .ok (.invokevirtual 153, 3) := by decide +kernel
theorem dX0_flush_50 : decode cX0_flush 50 = .ok (.aload_n 0, 1) := by decide +kernel
theorem dX0_flush_51 : decode cX0_flush 51 = .ok (.getfield 33, 3) := by decide +kernel
theorem dX0_flush_54 : decode cX0_flush 54 = .ok (.aload_n 0, 1) := by decide +kernel
theorem dX0_flush_55 : decode cX0_flush 55 = .ok (.getfield 51, 3) := by decide +kernel
theorem dX0_flush_58 : decode cX0_flush 58 = .ok (.invokevirtual 153, 3) := by decide +kernel
theorem dX0_flush_61 : decode cX0_flush 61 = .ok (.iconst 0, 1) := by decide +kernel
theorem dX0_flush_62 : decode cX0_flush 62 = .ok (.istore_n 1, 1) := by decide +kernel
theorem dX0_flush_63 : decode cX0_flush 63 = .ok (.iload_n 1, 1) := by decide +kernel
theorem dX0_flush_64 : decode cX0_flush 64 = .ok (.bipush 63, 2) := by decide +kernel
theorem dX0_flush_66 : decode cX0_flush 66 = .ok (.if_icmp .ge 22, 3) := by decide +kernel
theorem dX0_flush_69 : decode cX0_flush 69 = .ok (.aload_n 0, 1) := by decide +kernel
theorem dX0_flush_70 : decode cX0_flush 70 = .ok (.getfield 33, 3) := by decide +kernel
theorem dX0_flush_73 : decode cX0_flush 73 = .ok (.aload_n 0, 1) := by decide +kernel
theorem dX0_flush_74 : decode cX0_flush 74 = .ok (.getfield 21, 3) := by decide +kernel
theorem dX0_flush_77 : decode cX0_flush 77 = .ok (.iload_n 1, 1) := by decide +kernel
theorem dX0_flush_78 : decode cX0_flush 78 = .ok (.iaload, 1) := by decide +kernel
theorem dX0_flush_79 : decode cX0_flush 79 = .ok (.invokevirtual 200, 3) := by decide +kernel
theorem dX0_flush_82 : decode cX0_flush 82 = .ok (.iinc 1 1, 3) := by decide +kernel
theorem dX0_flush_85 : decode cX0_flush 85 = .ok (.goto (-22), 3) := by decide +kernel
theorem dX0_flush_88 : decode cX0_flush 88 = .ok (.aload_n 0, 1) := by decide +kernel
theorem dX0_flush_89 : decode cX0_flush 89 = .ok (.getfield 33, 3) := by decide +kernel
theorem dX0_flush_92 : decode cX0_flush 92 = .ok (.invokevirtual 156, 3) := by decide +kernel
theorem dX0_flush_95 : decode cX0_flush 95 = .ok (.iconst 0, 1) := by decide +kernel
theorem dX0_flush_96 : decode cX0_flush 96 = .ok (.istore_n 1, 1) := by decide +kernel
theorem dX0_flush_97 : decode cX0_flush 97 = .ok (.iload_n 1, 1) := by decide +kernel
theorem dX0_flush_98 : decode cX0_flush 98 = .ok (.bipush 100, 2) := by decide +kernel
theorem dX0_flush_100 : decode cX0_flush 100 = .ok (.if_icmp .ge 14, 3) := by decide +kernel
theorem dX0_flush_103 : decode cX0_flush 103 = .ok (.aload_n 0, 1) := by decide +kernel
theorem dX0_flush_104 : decode cX0_flush 104 = .ok (.iload_n 1, 1) := by decide +kernel
theorem dX0_flush_105 : decode cX0_flush 105 = .ok (.invokevirtual 203, 3) := by decide +kernel
theorem dX0_flush_108 : decode cX0_flush 108 = .ok (.iinc 1 1, 3) := by decide +kernel
theorem dX0_flush_111 : decode cX0_flush 111 = .ok (.goto (-14), 3) := by decide +kernel
theorem dX0_flush_114 : decode cX0_flush 114 = .ok (.aload_n 0, 1) := by decide +kernel
theorem dX0_flush_115 : decode cX0_flush 115 = .ok (.aload_n 0, 1) := by decide +kernel
theorem dX0_flush_116 : decode cX0_flush 116 = .ok (.getfield 73, 3) := by decide +kernel
theorem dX0_flush_119 : decode cX0_flush 119 = .ok (.invokevirtual 159, 3) := by decide +kernel
theorem dX0_flush_122 : decode cX0_flush 122 = .ok (.aload_n 0, 1) := by decide +kernel
theorem dX0_flush_123 : decode cX0_flush 123 = .ok (.getfield 64, 3) := by decide +kernel
theorem dX0_flush_126 : decode cX0_flush 126 = .ok (.iconst 1, 1) := by decide +kernel
theorem dX0_flush_127 : decode cX0_flush 127 = .ok (.iadd, 1) := by decide +kernel
theorem dX0_flush_128 : decode cX0_flush 128 = .ok (.istore_n 1, 1) := by decide +kernel
theorem dX0_flush_129 : decode cX0_flush 129 = .ok (.iload_n 1, 1) := by decide +kernel
theorem dX0_flush_130 : decode cX0_flush 130 = .ok (.aload_n 0, 1) := by decide +kernel
theorem dX0_flush_131 : decode cX0_flush 131 = .ok (.getfield 67, 3) := by decide +kernel
theorem dX0_flush_134 : decode cX0_flush 134 = .ok (.if_icmp .gt 32, 3) := by decide +kernel
theorem dX0_flush_137 : decode cX0_flush 137 = .ok (.aload_n 0, 1) := by decide +kernel
theorem dX0_flush_138 : decode cX0_flush 138 = .ok (.iload_n 1, 1) := by decide +kernel
theorem dX0_flush_139 : decode cX0_flush 139 = .ok (.aload_n 0, 1) := by decide +kernel
theorem dX0_flush_140 : decode cX0_flush 140 = .ok (.getfield 24, 3) := by decide +kernel
theorem dX0_flush_143 : decode cX0_flush 143 = .ok (.aload_n 0, 1) := by decide +kernel
theorem dX0_flush_144 : decode cX0_flush 144 = .ok (.iload_n 1, 1) := by decide +kernel
theorem dX0_flush_145 : decode cX0_flush 145 = .ok (.invokevirtual 99, 3) := by decide +kernel
theorem dX0_flush_148 : decode cX0_flush 148 = .ok (.invokevirtual 103, 3) := by decide +kernel
theorem dX0_flush_151 : decode cX0_flush 151 = .ok (.aload_n 0, 1) := by decide +kernel
theorem dX0_flush_152 : decode cX0_flush 152 = .ok (.getfield 15, 3) := by decide +kernel
theorem dX0_flush_155 : decode cX0_flush 155 = .ok (.iload_n 1, 1) := by decide +kernel
theorem dX0_flush_156 : decode cX0_flush 156 = .ok (.iaload, 1) := by decide +kernel
theorem dX0_flush_157 : decode cX0_flush 157 = .ok (.invokevirtual 143, 3) := by decide +kernel
theorem dX0_flush_160 : decode cX0_flush 160 = .ok (.iinc 1 1, 3) := by decide +kernel
theorem dX0_flush_163 : decode cX0_flush 163 = .ok (.goto (-34), 3) := by decide +kernel
theorem dX0_flush_166 : decode cX0_flush 166 = .ok (.aload_n 0, 1) := by decide +kernel
theorem dX0_flush_167 : decode cX0_flush 167 = .ok (.getfield 33, 3) := by decide +kernel
theorem dX0_flush_170 : decode cX0_flush 170 = .ok (.invokevirtual 206, 3) := by decide +kernel
theorem dX0_flush_173 : decode cX0_flush 173 = .ok (.return_, 1) := by decide +kernel
theorem dX0_markDone_0 : decode cX0_markDone 0 = .ok (.aload_n 0, 1) := by decide +kernel
theorem dX0_markDone_1 : decode cX0_markDone 1 = .ok (.getfield 64, 3) := by decide +kernel
theorem dX0_markDone_4 : decode cX0_markDone 4 = .ok (.iconst 1, 1) := by decide +kernel
theorem dX0_markDone_5 : decode cX0_markDone 5 = .ok (.iadd, 1) := by decide +kernel
theorem dX0_markDone_6 : decode cX0_markDone 6 = .ok (.istore_n 1, 1) := by decide +kernel
theorem dX0_markDone_7 : decode cX0_markDone 7 = .ok (.iload_n 1, 1) := by decide +kernel
theorem dX0_markDone_8 : decode cX0_markDone 8 = .ok (.aload_n 0, 1) := by decide +kernel
theorem dX0_markDone_9 : decode cX0_markDone 9 = .ok (.getfield 70, 3) := by decide +kernel
theorem dX0_markDone_12 : decode cX0_markDone 12 = .ok (.if_icmp .gt 44, 3) := by decide +kernel
theorem dX0_markDone_15 : decode cX0_markDone 15 = .ok (.aload_n 0, 1) := by decide +kernel
theorem dX0_markDone_16 : decode cX0_markDone 16 = .ok (.iload_n 1, 1) := by decide +kernel
theorem dX0_markDone_17 : decode cX0_markDone 17 = .ok (.invokevirtual 99, 3) := by decide +kernel
theorem dX0_markDone_20 : decode cX0_markDone 20 = .ok (.istore_n 2, 1) := by decide +kernel
theorem dX0_markDone_21 : decode cX0_markDone 21 = .ok (.iload_n 2, 1) := by decide +kernel
theorem dX0_markDone_22 : decode cX0_markDone 22 = .ok (.ifCond .lt 28, 3) := by decide +kernel
theorem dX0_markDone_25 : decode cX0_markDone 25 = .ok (.iload_n 2, 1) := by decide +kernel
theorem dX0_markDone_26 : decode cX0_markDone 26 = .ok (.sipush 504, 3) := by decide +kernel
theorem dX0_markDone_29 : decode cX0_markDone 29 = .ok (.if_icmp .ge 21, 3) := by decide +kernel
theorem dX0_markDone_32 : decode cX0_markDone 32 = .ok (.aload_n 0, 1) := by decide +kernel
theorem dX0_markDone_33 : decode cX0_markDone 33 = .ok (.getfield 21, 3) := by decide +kernel
theorem dX0_markDone_36 : decode cX0_markDone 36 = .ok (.iload_n 2, 1) := by decide +kernel
theorem dX0_markDone_37 : decode cX0_markDone 37 = .ok (.bipush 8, 2) := by decide +kernel
theorem dX0_markDone_39 : decode cX0_markDone 39 = .ok (.idiv, 1) := by decide +kernel
theorem dX0_markDone_40 : decode cX0_markDone 40 = .ok (.dup2, 1) := by decide +kernel
theorem dX0_markDone_41 : decode cX0_markDone 41 = .ok (.iaload, 1) := by decide +kernel
theorem dX0_markDone_42 : decode cX0_markDone 42 = .ok (.iconst 1, 1) := by decide +kernel
theorem dX0_markDone_43 : decode cX0_markDone 43 = .ok (.iload_n 2, 1) := by decide +kernel
theorem dX0_markDone_44 : decode cX0_markDone 44 = .ok (.bipush 8, 2) := by decide +kernel
theorem dX0_markDone_46 : decode cX0_markDone 46 = .ok (.irem, 1) := by decide +kernel
theorem dX0_markDone_47 : decode cX0_markDone 47 = .ok (.ishl, 1) := by decide +kernel
theorem dX0_markDone_48 : decode cX0_markDone 48 = .ok (.ior, 1) := by decide +kernel
theorem dX0_markDone_49 : decode cX0_markDone 49 = .ok (.iastore, 1) := by decide +kernel
theorem dX0_markDone_50 : decode cX0_markDone 50 = .ok (.iinc 1 1, 3) := by decide +kernel
theorem dX0_markDone_53 : decode cX0_markDone 53 = .ok (.goto (-46), 3) := by decide +kernel
theorem dX0_markDone_56 : decode cX0_markDone 56 = .ok (.return_, 1) := by decide +kernel
theorem dX0_addDocument_0 : decode cX0_addDocument 0 = .ok (.aload_n 0, 1) := by decide +kernel
theorem dX0_addDocument_1 : decode cX0_addDocument 1 = .ok (.getfield 24, 3) := by decide +kernel
theorem dX0_addDocument_4 : decode cX0_addDocument 4 = .ok (.aload_n 0, 1) := by decide +kernel
theorem dX0_addDocument_5 : decode cX0_addDocument 5 = .ok (.getfield 18, 3) := by decide +kernel
theorem dX0_addDocument_8 : decode cX0_addDocument 8 = .ok (.iload_n 1, 1) := by decide +kernel
theorem dX0_addDocument_9 : decode cX0_addDocument 9 = .ok (.iaload, 1) := by decide +kernel
theorem dX0_addDocument_10 : decode cX0_addDocument 10 = .ok (.invokevirtual 103, 3) := by decide +kernel
theorem dX0_addDocument_13 : decode cX0_addDocument 13 = .ok (.astore_n 2, 1) := by decide +kernel
theorem dX0_addDocument_14 : decode cX0_addDocument 14 = .ok (.aload_n 2, 1) := by decide +kernel
theorem dX0_addDocument_15 : decode cX0_addDocument 15 = .ok (.ifnull 49, 3) := by decide +kernel
theorem dX0_addDocument_18 : decode cX0_addDocument 18 = .ok (.aload_n 0, 1) := by decide +kernel
theorem dX0_addDocument_19 : decode cX0_addDocument 19 = .ok (.getfield 33, 3) := by decide +kernel
theorem dX0_addDocument_22 : decode cX0_addDocument 22 = .ok (.bipush 6, 2) := by decide +kernel
theorem dX0_addDocument_24 : decode cX0_addDocument 24 = .ok (.invokevirtual 150, 3) := by decide +kernel
theorem dX0_addDocument_27 : decode cX0_addDocument 27 = .ok (.aload_n 0, 1) := by decide +kernel
theorem dX0_addDocument_28 : decode cX0_addDocument 28 = .ok (.getfield 33, 3) := by decide +kernel
theorem dX0_addDocument_31 : decode cX0_addDocument 31 = .ok (.iload_n 1, 1) := by decide +kernel
theorem dX0_addDocument_32 : decode cX0_addDocument 32 = .ok (.invokevirtual 200, 3) := by decide +kernel
theorem dX0_addDocument_35 : decode cX0_addDocument 35 = .ok (.aload_n 0, 1) := by decide +kernel
theorem dX0_addDocument_36 : decode cX0_addDocument 36 = .ok (.getfield 33, 3) := by decide +kernel
theorem dX0_addDocument_39 : decode cX0_addDocument 39 = .ok (.aload_n 2, 1) := by decide +kernel
theorem dX0_addDocument_40 : decode cX0_addDocument 40 = .ok (.getfield 115, 3) := by decide +kernel
theorem dX0_addDocument_43 : decode cX0_addDocument 43 = .ok (.invokevirtual 153, 3) := by decide +kernel
theorem dX0_addDocument_46 : decode cX0_addDocument 46 = .ok (.aload_n 0, 1) := by decide +kernel
theorem dX0_addDocument_47 : decode cX0_addDocument 47 = .ok (.getfield 33, 3) := by decide +kernel
theorem dX0_addDocument_50 : decode cX0_addDocument 50 = .ok (.aload_n 2, 1) := by decide +kernel
theorem dX0_addDocument_51 : decode cX0_addDocument 51 = .ok (.getfield 133, 3) := by decide +kernel
theorem dX0_addDocument_54 : decode cX0_addDocument 54 = .ok (.invokevirtual 209, 3) := by decide +kernel
theorem dX0_addDocument_57 : decode cX0_addDocument 57 = .ok (.aload_n 0, 1) := by decide +kernel
theorem dX0_addDocument_58 : decode cX0_addDocument 58 = .ok (.getfield 33, 3) := by decide +kernel
theorem dX0_addDocument_61 : decode cX0_addDocument 61 = .ok (.invokevirtual 156, 3) := by decide +kernel
theorem dX0_addDocument_64 : decode cX0_addDocument 64 = .ok (.return_, 1) := by decide +kernel
theorem dX0_addShown_0 : decode cX0_addShown 0 = .ok (.aload_n 0, 1) := by decide +kernel
theorem dX0_addShown_1 : decode cX0_addShown 1 = .ok (.getfield 33, 3) := by decide +kernel
theorem dX0_addShown_4 : decode cX0_addShown 4 = .ok (.iconst 4, 1) := by decide +kernel
theorem dX0_addShown_5 : decode cX0_addShown 5 = .ok (.invokevirtual 150, 3) := by decide +kernel
theorem dX0_addShown_8 : decode cX0_addShown 8 = .ok (.aload_n 0, 1) := by decide +kernel
theorem dX0_addShown_9 : decode cX0_addShown 9 = .ok (.getfield 33, 3) := by decide +kernel
theorem dX0_addShown_12 : decode cX0_addShown 12 = .ok (.iload_n 1, 1) := by decide +kernel
theorem dX0_addShown_13 : decode cX0_addShown 13 = .ok (.invokevirtual 153, 3) := by decide +kernel
theorem dX0_addShown_16 : decode cX0_addShown 16 = .ok (.aload_n 0, 1) := by decide +kernel
theorem dX0_addShown_17 : decode cX0_addShown 17 = .ok (.getfield 33, 3) := by decide +kernel
theorem dX0_addShown_20 : decode cX0_addShown 20 = .ok (.invokevirtual 156, 3) := by decide +kernel
theorem dX0_addShown_23 : decode cX0_addShown 23 = .ok (.return_, 1) := by decide +kernel
theorem dX0_addAct_0 : decode cX0_addAct 0 = .ok (.aload_n 2, 1) := by decide +kernel
theorem dX0_addAct_1 : decode cX0_addAct 1 = .ok (.ifnonnull 4, 3) := by decide +kernel
theorem dX0_addAct_4 : decode cX0_addAct 4 = .ok (.return_, 1) := by decide +kernel
theorem dX0_addAct_5 : decode cX0_addAct 5 = .ok (.aload_n 0, 1) := by decide +kernel
theorem dX0_addAct_6 : decode cX0_addAct 6 = .ok (.getfield 33, 3) := by decide +kernel
theorem dX0_addAct_9 : decode cX0_addAct 9 = .ok (.aload_n 2, 1) := by decide +kernel
theorem dX0_addAct_10 : decode cX0_addAct 10 = .ok (.getfield 112, 3) := by decide +kernel
theorem dX0_addAct_13 : decode cX0_addAct 13 = .ok (.ifCond .ne 7, 3) := by decide +kernel
theorem dX0_addAct_16 : decode cX0_addAct 16 = .ok (.iconst 1, 1) := by decide +kernel
theorem dX0_addAct_17 : decode cX0_addAct 17 = .ok (.goto 4, 3) := by decide +kernel
theorem dX0_addAct_20 : decode cX0_addAct 20 = .ok (.iconst 2, 1) := by decide +kernel
theorem dX0_addAct_21 : decode cX0_addAct 21 = .ok (.invokevirtual 150, 3) := by decide +kernel
theorem dX0_addAct_24 : decode cX0_addAct 24 = .ok (.aload_n 0, 1) := by decide +kernel
theorem dX0_addAct_25 : decode cX0_addAct 25 = .ok (.getfield 33, 3) := by decide +kernel
theorem dX0_addAct_28 : decode cX0_addAct 28 = .ok (.iload_n 1, 1) := by decide +kernel
theorem dX0_addAct_29 : decode cX0_addAct 29 = .ok (.invokevirtual 153, 3) := by decide +kernel
theorem dX0_addAct_32 : decode cX0_addAct 32 = .ok (.aload_n 0, 1) := by decide +kernel
theorem dX0_addAct_33 : decode cX0_addAct 33 = .ok (.getfield 33, 3) := by decide +kernel
theorem dX0_addAct_36 : decode cX0_addAct 36 = .ok (.iload_n 3, 1) := by decide +kernel
theorem dX0_addAct_37 : decode cX0_addAct 37 = .ok (.invokevirtual 153, 3) := by decide +kernel
theorem dX0_addAct_40 : decode cX0_addAct 40 = .ok (.aload_n 0, 1) := by decide +kernel
theorem dX0_addAct_41 : decode cX0_addAct 41 = .ok (.getfield 33, 3) := by decide +kernel
theorem dX0_addAct_44 : decode cX0_addAct 44 = .ok (.aload_n 2, 1) := by decide +kernel
theorem dX0_addAct_45 : decode cX0_addAct 45 = .ok (.getfield 115, 3) := by decide +kernel
theorem dX0_addAct_48 : decode cX0_addAct 48 = .ok (.invokevirtual 153, 3) := by decide +kernel
theorem dX0_addAct_51 : decode cX0_addAct 51 = .ok (.aload_n 0, 1) := by decide +kernel
theorem dX0_addAct_52 : decode cX0_addAct 52 = .ok (.getfield 33, 3) := by decide +kernel
theorem dX0_addAct_55 : decode cX0_addAct 55 = .ok (.aload_n 0, 1) := by decide +kernel
theorem dX0_addAct_56 : decode cX0_addAct 56 = .ok (.getfield 70, 3) := by decide +kernel
theorem dX0_addAct_59 : decode cX0_addAct 59 = .ok (.invokevirtual 153, 3) := by decide +kernel
theorem dX0_addAct_62 : decode cX0_addAct 62 = .ok (.aload_n 0, 1) := by decide +kernel
theorem dX0_addAct_63 : decode cX0_addAct 63 = .ok (.getfield 33, 3) := by decide +kernel
theorem dX0_addAct_66 : decode cX0_addAct 66 = .ok (.aload_n 2, 1) := by decide +kernel
theorem dX0_addAct_67 : decode cX0_addAct 67 = .ok (.getfield 107, 3) := by decide +kernel
theorem dX0_addAct_70 : decode cX0_addAct 70 = .ok (.invokevirtual 200, 3) := by decide +kernel
theorem dX0_addAct_73 : decode cX0_addAct 73 = .ok (.aload_n 0, 1) := by decide +kernel
theorem dX0_addAct_74 : decode cX0_addAct 74 = .ok (.getfield 33, 3) := by decide +kernel
theorem dX0_addAct_77 : decode cX0_addAct 77 = .ok (.aload_n 2, 1) := by decide +kernel
theorem dX0_addAct_78 : decode cX0_addAct 78 = .ok (.getfield 133, 3) := by decide +kernel
theorem dX0_addAct_81 : decode cX0_addAct 81 = .ok (.invokevirtual 209, 3) := by decide +kernel
theorem dX0_addAct_84 : decode cX0_addAct 84 = .ok (.aload_n 0, 1) := by decide +kernel
theorem dX0_addAct_85 : decode cX0_addAct 85 = .ok (.getfield 33, 3) := by decide +kernel
theorem dX0_addAct_88 : decode cX0_addAct 88 = .ok (.invokevirtual 156, 3) := by decide +kernel
theorem dX0_addAct_91 : decode cX0_addAct 91 = .ok (.return_, 1) := by decide +kernel
theorem dX0_load_0 : decode cX0_load 0 = .ok (.aload_n 0, 1) := by decide +kernel
theorem dX0_load_1 : decode cX0_load 1 = .ok (.invokevirtual 48, 3) := by decide +kernel
theorem dX0_load_4 : decode cX0_load 4 = .ok (.aload_n 0, 1) := by decide +kernel
theorem dX0_load_5 : decode cX0_load 5 = .ok (.getfield 33, 3) := by decide +kernel
theorem dX0_load_8 : decode cX0_load 8 = .ok (.invokevirtual 212, 3) := by decide +kernel
theorem dX0_load_11 : decode cX0_load 11 = .ok (.iconst 0, 1) := by decide +kernel
theorem dX0_load_12 : decode cX0_load 12 = .ok (.istore_n 1, 1) := by decide +kernel
theorem dX0_load_13 : decode cX0_load 13 = .ok (.aload_n 0, 1) := by decide +kernel
theorem dX0_load_14 : decode cX0_load 14 = .ok (.getfield 33, 3) := by decide +kernel
theorem dX0_load_17 : decode cX0_load 17 = .ok (.iload_n 1, 1) := by decide +kernel
theorem dX0_load_18 : decode cX0_load 18 = .ok (.invokevirtual 215, 3) := by decide +kernel
theorem dX0_load_21 : decode cX0_load 21 = .ok (.istore_n 2, 1) := by decide +kernel
theorem dX0_load_22 : decode cX0_load 22 = .ok (.iload_n 2, 1) := by decide +kernel
theorem dX0_load_23 : decode cX0_load 23 = .ok (.ifCond .le 31, 3) := by decide +kernel
theorem dX0_load_26 : decode cX0_load 26 = .ok (.iload_n 1, 1) := by decide +kernel
theorem dX0_load_27 : decode cX0_load 27 = .ok (.sipush 6400, 3) := by decide +kernel
theorem dX0_load_30 : decode cX0_load 30 = .ok (.if_icmp .ge 24, 3) := by decide +kernel
theorem dX0_load_33 : decode cX0_load 33 = .ok (.aload_n 0, 1) := by decide +kernel
theorem dX0_load_34 : decode cX0_load 34 = .ok (.iload_n 1, 1) := by decide +kernel
theorem dX0_load_35 : decode cX0_load 35 = .ok (.invokevirtual 218, 3) := by decide +kernel
theorem dX0_load_38 : decode cX0_load 38 = .ok (.iload_n 1, 1) := by decide +kernel
theorem dX0_load_39 : decode cX0_load 39 = .ok (.iload_n 2, 1) := by decide +kernel
theorem dX0_load_40 : decode cX0_load 40 = .ok (.iadd, 1) := by decide +kernel
theorem dX0_load_41 : decode cX0_load 41 = .ok (.istore_n 1, 1) := by decide +kernel
theorem dX0_load_42 : decode cX0_load 42 = .ok (.aload_n 0, 1) := by decide +kernel
theorem dX0_load_43 : decode cX0_load 43 = .ok (.getfield 33, 3) := by decide +kernel
theorem dX0_load_46 : decode cX0_load 46 = .ok (.iload_n 1, 1) := by decide +kernel
theorem dX0_load_47 : decode cX0_load 47 = .ok (.invokevirtual 215, 3) := by decide +kernel
theorem dX0_load_50 : decode cX0_load 50 = .ok (.istore_n 2, 1) := by decide +kernel
theorem dX0_load_51 : decode cX0_load 51 = .ok (.goto (-29), 3) := by decide +kernel
theorem dX0_load_54 : decode cX0_load 54 = .ok (.aload_n 0, 1) := by decide +kernel
theorem dX0_load_55 : decode cX0_load 55 = .ok (.getfield 33, 3) := by decide +kernel
theorem dX0_load_58 : decode cX0_load 58 = .ok (.iload_n 1, 1) := by decide +kernel
theorem dX0_load_59 : decode cX0_load 59 = .ok (.invokevirtual 221, 3) := by decide +kernel
theorem dX0_load_62 : decode cX0_load 62 = .ok (.aload_n 0, 1) := by decide +kernel
theorem dX0_load_63 : decode cX0_load 63 = .ok (.aload_n 0, 1) := by decide +kernel
theorem dX0_load_64 : decode cX0_load 64 = .ok (.getfield 73, 3) := by decide +kernel
theorem dX0_load_67 : decode cX0_load 67 = .ok (.aload_n 0, 1) := by decide +kernel
theorem dX0_load_68 : decode cX0_load 68 = .ok (.getfield 64, 3) := by decide +kernel
theorem dX0_load_71 : decode cX0_load 71 = .ok (.invokestatic 130, 3) := by decide +kernel
theorem dX0_load_74 : decode cX0_load 74 = .ok (.aload_n 0, 1) := by decide +kernel
theorem dX0_load_75 : decode cX0_load 75 = .ok (.getfield 67, 3) := by decide +kernel
theorem dX0_load_78 : decode cX0_load 78 = .ok (.invokestatic 124, 3) := by decide +kernel
theorem dX0_load_81 : decode cX0_load 81 = .ok (.putfield 73, 3) := by decide +kernel
theorem dX0_load_84 : decode cX0_load 84 = .ok (.aload_n 0, 1) := by decide +kernel
theorem dX0_load_85 : decode cX0_load 85 = .ok (.aload_n 0, 1) := by decide +kernel
theorem dX0_load_86 : decode cX0_load 86 = .ok (.getfield 70, 3) := by decide +kernel
theorem dX0_load_89 : decode cX0_load 89 = .ok (.aload_n 0, 1) := by decide +kernel
theorem dX0_load_90 : decode cX0_load 90 = .ok (.getfield 73, 3) := by decide +kernel
theorem dX0_load_93 : decode cX0_load 93 = .ok (.invokestatic 130, 3) := by decide +kernel
theorem dX0_load_96 : decode cX0_load 96 = .ok (.aload_n 0, 1) := by decide +kernel
theorem dX0_load_97 : decode cX0_load 97 = .ok (.getfield 67, 3) := by decide +kernel
theorem dX0_load_100 : decode cX0_load 100 = .ok (.invokestatic 124, 3) := by decide +kernel
theorem dX0_load_103 : decode cX0_load 103 = .ok (.putfield 70, 3) := by decide +kernel
theorem dX0_load_106 : decode cX0_load 106 = .ok (.aload_n 0, 1) := by decide +kernel
theorem dX0_load_107 : decode cX0_load 107 = .ok (.getfield 40, 3) := by decide +kernel
theorem dX0_load_110 : decode cX0_load 110 = .ok (.aload_n 0, 1) := by decide +kernel
theorem dX0_load_111 : decode cX0_load 111 = .ok (.getfield 44, 3) := by decide +kernel
theorem dX0_load_114 : decode cX0_load 114 = .ok (.invokevirtual 54, 3) := by decide +kernel
theorem dX0_load_117 : decode cX0_load 117 = .ok (.aload_n 0, 1) := by decide +kernel
theorem dX0_load_118 : decode cX0_load 118 = .ok (.aload_n 0, 1) := by decide +kernel
theorem dX0_load_119 : decode cX0_load 119 = .ok (.getfield 73, 3) := by decide +kernel
theorem dX0_load_122 : decode cX0_load 122 = .ok (.aload_n 0, 1) := by decide +kernel
theorem dX0_load_123 : decode cX0_load 123 = .ok (.getfield 24, 3) := by decide +kernel
theorem dX0_load_126 : decode cX0_load 126 = .ok (.getfield 92, 3) := by decide +kernel
theorem dX0_load_129 : decode cX0_load 129 = .ok (.invokevirtual 95, 3) := by decide +kernel
theorem dX0_load_132 : decode cX0_load 132 = .ok (.aload_n 0, 1) := by decide +kernel
theorem dX0_load_133 : decode cX0_load 133 = .ok (.getfield 40, 3) := by decide +kernel
theorem dX0_load_136 : decode cX0_load 136 = .ok (.aload_n 0, 1) := by decide +kernel
theorem dX0_load_137 : decode cX0_load 137 = .ok (.getfield 24, 3) := by decide +kernel
theorem dX0_load_140 : decode cX0_load 140 = .ok (.getfield 92, 3) := by decide +kernel
theorem dX0_load_143 : decode cX0_load 143 = .ok (.invokevirtual 162, 3) := by decide +kernel
theorem dX0_load_146 : decode cX0_load 146 = .ok (.return_, 1) := by decide +kernel
theorem dX0_readRecord_0 : decode cX0_readRecord 0 = .ok (.aload_n 0, 1) := by decide +kernel
theorem dX0_readRecord_1 : decode cX0_readRecord 1 = .ok (.getfield 33, 3) := by decide +kernel
theorem dX0_readRecord_4 : decode cX0_readRecord 4 = .ok (.iload_n 1, 1) := by decide +kernel
theorem dX0_readRecord_5 : decode cX0_readRecord 5 = .ok (.iconst 2, 1) := by decide +kernel
theorem dX0_readRecord_6 : decode cX0_readRecord 6 = .ok (.iadd, 1) := by decide +kernel
theorem dX0_readRecord_7 : decode cX0_readRecord 7 = .ok (.invokevirtual 224, 3) := by decide +kernel
theorem dX0_readRecord_10 : decode cX0_readRecord 10 = .ok (.istore_n 2, 1) := by decide +kernel
theorem dX0_readRecord_11 : decode cX0_readRecord 11 = .ok (.aload_n 0, 1) := by decide +kernel
theorem dX0_readRecord_12 : decode cX0_readRecord 12 = .ok (.getfield 33, 3) := by decide +kernel
theorem dX0_readRecord_15 : decode cX0_readRecord 15 = .ok (.iload_n 1, 1) := by decide +kernel
theorem dX0_readRecord_16 : decode cX0_readRecord 16 = .ok (.invokevirtual 227, 3) := by decide +kernel
theorem dX0_readRecord_19 : decode cX0_readRecord 19 = .ok (.tableswitch 140 1 6 #[37, 37, 45, 81, 96, 104], 37) := by decide +kernel
theorem dX0_readRecord_56 : decode cX0_readRecord 56 = .ok (.aload_n 0, 1) := by decide +kernel
theorem dX0_readRecord_57 : decode cX0_readRecord 57 = .ok (.iload_n 1, 1) := by decide +kernel
theorem dX0_readRecord_58 : decode cX0_readRecord 58 = .ok (.invokevirtual 230, 3) := by decide +kernel
theorem dX0_readRecord_61 : decode cX0_readRecord 61 = .ok (.goto 98, 3) := by decide +kernel
theorem dX0_readRecord_64 : decode cX0_readRecord 64 = .ok (.aload_n 0, 1) := by decide +kernel
theorem dX0_readRecord_65 : decode cX0_readRecord 65 = .ok (.aload_n 0, 1) := by decide +kernel
theorem dX0_readRecord_66 : decode cX0_readRecord 66 = .ok (.getfield 67, 3) := by decide +kernel
theorem dX0_readRecord_69 : decode cX0_readRecord 69 = .ok (.iload_n 2, 1) := by decide +kernel
theorem dX0_readRecord_70 : decode cX0_readRecord 70 = .ok (.invokestatic 124, 3) := by decide +kernel
theorem dX0_readRecord_73 : decode cX0_readRecord 73 = .ok (.putfield 67, 3) := by decide +kernel
theorem dX0_readRecord_76 : decode cX0_readRecord 76 = .ok (.aload_n 0, 1) := by decide +kernel
theorem dX0_readRecord_77 : decode cX0_readRecord 77 = .ok (.aload_n 0, 1) := by decide +kernel
theorem dX0_readRecord_78 : decode cX0_readRecord 78 = .ok (.getfield 51, 3) := by decide +kernel
theorem dX0_readRecord_81 : decode cX0_readRecord 81 = .ok (.aload_n 0, 1) := by decide +kernel
theorem dX0_readRecord_82 : decode cX0_readRecord 82 = .ok (.getfield 33, 3) := by decide +kernel
theorem dX0_readRecord_85 : decode cX0_readRecord 85 = .ok (.iload_n 1, 1) := by decide +kernel
theorem dX0_readRecord_86 : decode cX0_readRecord 86 = .ok (.iconst 4, 1) := by decide +kernel
theorem dX0_readRecord_87 : decode cX0_readRecord 87 = .ok (.iadd, 1) := by decide +kernel
theorem dX0_readRecord_88 : decode cX0_readRecord 88 = .ok (.invokevirtual 224, 3) := by decide +kernel
theorem dX0_readRecord_91 : decode cX0_readRecord 91 = .ok (.invokestatic 130, 3) := by decide +kernel
theorem dX0_readRecord_94 : decode cX0_readRecord 94 = .ok (.putfield 51, 3) := by decide +kernel
theorem dX0_readRecord_97 : decode cX0_readRecord 97 = .ok (.goto 62, 3) := by decide +kernel
theorem dX0_readRecord_100 : decode cX0_readRecord 100 = .ok (.aload_n 0, 1) := by decide +kernel
theorem dX0_readRecord_101 : decode cX0_readRecord 101 = .ok (.aload_n 0, 1) := by decide +kernel
theorem dX0_readRecord_102 : decode cX0_readRecord 102 = .ok (.getfield 73, 3) := by decide +kernel
theorem dX0_readRecord_105 : decode cX0_readRecord 105 = .ok (.iload_n 2, 1) := by decide +kernel
theorem dX0_readRecord_106 : decode cX0_readRecord 106 = .ok (.invokestatic 130, 3) := by decide +kernel
theorem dX0_readRecord_109 : decode cX0_readRecord 109 = .ok (.putfield 73, 3) := by decide +kernel
theorem dX0_readRecord_112 : decode cX0_readRecord 112 = .ok (.goto 47, 3) := by decide +kernel
theorem dX0_readRecord_115 : decode cX0_readRecord 115 = .ok (.aload_n 0, 1) := by decide +kernel
theorem dX0_readRecord_116 : decode cX0_readRecord 116 = .ok (.iload_n 1, 1) := by decide +kernel
theorem dX0_readRecord_117 : decode cX0_readRecord 117 = .ok (.invokevirtual 233, 3) := by decide +kernel
theorem dX0_readRecord_120 : decode cX0_readRecord 120 = .ok (.goto 39, 3) := by decide +kernel
theorem dX0_readRecord_123 : decode cX0_readRecord 123 = .ok (.aload_n 0, 1) := by decide +kernel
theorem dX0_readRecord_124 : decode cX0_readRecord 124 = .ok (.getfield 33, 3) := by decide +kernel
theorem dX0_readRecord_127 : decode cX0_readRecord 127 = .ok (.iload_n 1, 1) := by decide +kernel
theorem dX0_readRecord_128 : decode cX0_readRecord 128 = .ok (.iconst 2, 1) := by decide +kernel
theorem dX0_readRecord_129 : decode cX0_readRecord 129 = .ok (.iadd, 1) := by decide +kernel
theorem dX0_readRecord_130 : decode cX0_readRecord 130 = .ok (.invokevirtual 227, 3) := by decide +kernel
theorem dX0_readRecord_133 : decode cX0_readRecord 133 = .ok (.istore_n 3, 1) := by decide +kernel
theorem dX0_readRecord_134 : decode cX0_readRecord 134 = .ok (.iload_n 3, 1) := by decide +kernel
theorem dX0_readRecord_135 : decode cX0_readRecord 135 = .ok (.bipush 100, 2) := by decide +kernel
theorem dX0_readRecord_137 : decode cX0_readRecord 137 = .ok (.if_icmp .ge 22, 3) := by decide +kernel
theorem dX0_readRecord_140 : decode cX0_readRecord 140 = .ok (.aload_n 0, 1) := by decide +kernel
theorem dX0_readRecord_141 : decode cX0_readRecord 141 = .ok (.getfield 18, 3) := by decide +kernel
theorem dX0_readRecord_144 : decode cX0_readRecord 144 = .ok (.iload_n 3, 1) := by decide +kernel
theorem dX0_readRecord_145 : decode cX0_readRecord 145 = .ok (.aload_n 0, 1) := by decide +kernel
theorem dX0_readRecord_146 : decode cX0_readRecord 146 = .ok (.getfield 33, 3) := by decide +kernel
theorem dX0_readRecord_149 : decode cX0_readRecord 149 = .ok (.iload_n 1, 1) := by decide +kernel
theorem dX0_readRecord_150 : decode cX0_readRecord 150 = .ok (.iconst 3, 1) := by decide +kernel
theorem dX0_readRecord_151 : decode cX0_readRecord 151 = .ok (.iadd, 1) := by decide +kernel
theorem dX0_readRecord_152 : decode cX0_readRecord 152 = .ok (.invokevirtual 224, 3) := by decide +kernel
theorem dX0_readRecord_155 : decode cX0_readRecord 155 = .ok (.iastore, 1) := by decide +kernel
theorem dX0_readRecord_156 : decode cX0_readRecord 156 = .ok (.goto 3, 3) := by decide +kernel
theorem dX0_readRecord_159 : decode cX0_readRecord 159 = .ok (.return_, 1) := by decide +kernel
theorem dX0_readAct_0 : decode cX0_readAct 0 = .ok (.aload_n 0, 1) := by decide +kernel
theorem dX0_readAct_1 : decode cX0_readAct 1 = .ok (.getfield 33, 3) := by decide +kernel
theorem dX0_readAct_4 : decode cX0_readAct 4 = .ok (.iload_n 1, 1) := by decide +kernel
theorem dX0_readAct_5 : decode cX0_readAct 5 = .ok (.iconst 2, 1) := by decide +kernel
theorem dX0_readAct_6 : decode cX0_readAct 6 = .ok (.iadd, 1) := by decide +kernel
theorem dX0_readAct_7 : decode cX0_readAct 7 = .ok (.invokevirtual 224, 3) := by decide +kernel
theorem dX0_readAct_10 : decode cX0_readAct 10 = .ok (.istore_n 2, 1) := by decide +kernel
theorem dX0_readAct_11 : decode cX0_readAct 11 = .ok (.iload_n 2, 1) := by decide +kernel
theorem dX0_readAct_12 : decode cX0_readAct 12 = .ok (.aload_n 0, 1) := by decide +kernel
theorem dX0_readAct_13 : decode cX0_readAct 13 = .ok (.getfield 67, 3) := by decide +kernel
theorem dX0_readAct_16 : decode cX0_readAct 16 = .ok (.iconst 1, 1) := by decide +kernel
theorem dX0_readAct_17 : decode cX0_readAct 17 = .ok (.iadd, 1) := by decide +kernel
theorem dX0_readAct_18 : decode cX0_readAct 18 = .ok (.if_icmp .ne 10, 3) := by decide +kernel
theorem dX0_readAct_21 : decode cX0_readAct 21 = .ok (.iload_n 2, 1) := by decide +kernel
theorem dX0_readAct_22 : decode cX0_readAct 22 = .ok (.sipush 512, 3) := by decide +kernel
theorem dX0_readAct_25 : decode cX0_readAct 25 = .ok (.if_icmp .lt 4, 3) := by decide +kernel
theorem dX0_readAct_28 : decode cX0_readAct 28 = .ok (.return_, 1) := by decide +kernel
theorem dX0_readAct_29 : decode cX0_readAct 29 = .ok (.aload_n 0, 1) := by decide +kernel
theorem dX0_readAct_30 : decode cX0_readAct 30 = .ok (.iload_n 2, 1) := by decide +kernel
theorem dX0_readAct_31 : decode cX0_readAct 31 = .ok (.putfield 67, 3) := by decide +kernel
theorem dX0_readAct_34 : decode cX0_readAct 34 = .ok (.aload_n 0, 1) := by decide +kernel
theorem dX0_readAct_35 : decode cX0_readAct 35 = .ok (.getfield 15, 3) := by decide +kernel
theorem dX0_readAct_38 : decode cX0_readAct 38 = .ok (.iload_n 2, 1) := by decide +kernel
theorem dX0_readAct_39 : decode cX0_readAct 39 = .ok (.aload_n 0, 1) := by decide +kernel
theorem dX0_readAct_40 : decode cX0_readAct 40 = .ok (.getfield 33, 3) := by decide +kernel
theorem dX0_readAct_43 : decode cX0_readAct 43 = .ok (.iload_n 1, 1) := by decide +kernel
theorem dX0_readAct_44 : decode cX0_readAct 44 = .ok (.iconst 4, 1) := by decide +kernel
theorem dX0_readAct_45 : decode cX0_readAct 45 = .ok (.iadd, 1) := by decide +kernel
theorem dX0_readAct_46 : decode cX0_readAct 46 = .ok (.invokevirtual 224, 3) := by decide +kernel
theorem dX0_readAct_49 : decode cX0_readAct 49 = .ok (.iastore, 1) := by decide +kernel
theorem dX0_readAct_50 : decode cX0_readAct 50 = .ok (.aload_n 0, 1) := by decide +kernel
theorem dX0_readAct_51 : decode cX0_readAct 51 = .ok (.getfield 9, 3) := by decide +kernel
theorem dX0_readAct_54 : decode cX0_readAct 54 = .ok (.iload_n 2, 1) := by decide +kernel
theorem dX0_readAct_55 : decode cX0_readAct 55 = .ok (.aload_n 0, 1) := by decide +kernel
theorem dX0_readAct_56 : decode cX0_readAct 56 = .ok (.getfield 33, 3) := by decide +kernel
theorem dX0_readAct_59 : decode cX0_readAct 59 = .ok (.iload_n 1, 1) := by decide +kernel
theorem dX0_readAct_60 : decode cX0_readAct 60 = .ok (.bipush 6, 2) := by decide +kernel
theorem dX0_readAct_62 : decode cX0_readAct 62 = .ok (.iadd, 1) := by decide +kernel
theorem dX0_readAct_63 : decode cX0_readAct 63 = .ok (.invokevirtual 224, 3) := by decide +kernel
theorem dX0_readAct_66 : decode cX0_readAct 66 = .ok (.iastore, 1) := by decide +kernel
theorem dX0_readAct_67 : decode cX0_readAct 67 = .ok (.aload_n 0, 1) := by decide +kernel
theorem dX0_readAct_68 : decode cX0_readAct 68 = .ok (.aload_n 0, 1) := by decide +kernel
theorem dX0_readAct_69 : decode cX0_readAct 69 = .ok (.getfield 51, 3) := by decide +kernel
theorem dX0_readAct_72 : decode cX0_readAct 72 = .ok (.aload_n 0, 1) := by decide +kernel
theorem dX0_readAct_73 : decode cX0_readAct 73 = .ok (.getfield 15, 3) := by decide +kernel
theorem dX0_readAct_76 : decode cX0_readAct 76 = .ok (.iload_n 2, 1) := by decide +kernel
theorem dX0_readAct_77 : decode cX0_readAct 77 = .ok (.iaload, 1) := by decide +kernel
theorem dX0_readAct_78 : decode cX0_readAct 78 = .ok (.invokestatic 130, 3) := by decide +kernel
theorem dX0_readAct_81 : decode cX0_readAct 81 = .ok (.putfield 51, 3) := by decide +kernel
theorem dX0_readAct_84 : decode cX0_readAct 84 = .ok (.aload_n 0, 1) := by decide +kernel
theorem dX0_readAct_85 : decode cX0_readAct 85 = .ok (.aload_n 0, 1) := by decide +kernel
theorem dX0_readAct_86 : decode cX0_readAct 86 = .ok (.getfield 70, 3) := by decide +kernel
theorem dX0_readAct_89 : decode cX0_readAct 89 = .ok (.aload_n 0, 1) := by decide +kernel
theorem dX0_readAct_90 : decode cX0_readAct 90 = .ok (.getfield 33, 3) := by decide +kernel
theorem dX0_readAct_93 : decode cX0_readAct 93 = .ok (.iload_n 1, 1) := by decide +kernel
theorem dX0_readAct_94 : decode cX0_readAct 94 = .ok (.bipush 8, 2) := by decide +kernel
theorem dX0_readAct_96 : decode cX0_readAct 96 = .ok (.iadd, 1) := by decide +kernel
theorem dX0_readAct_97 : decode cX0_readAct 97 = .ok (.invokevirtual 224, 3) := by decide +kernel
theorem dX0_readAct_100 : decode cX0_readAct 100 = .ok (.invokestatic 130, 3) := by decide +kernel
theorem dX0_readAct_103 : decode cX0_readAct 103 = .ok (.putfield 70, 3) := by decide +kernel
theorem dX0_readAct_106 : decode cX0_readAct 106 = .ok (.return_, 1) := by decide +kernel
theorem dX0_readBase_0 : decode cX0_readBase 0 = .ok (.aload_n 0, 1) := by decide +kernel
theorem dX0_readBase_1 : decode cX0_readBase 1 = .ok (.aload_n 0, 1) := by decide +kernel
theorem dX0_readBase_2 : decode cX0_readBase 2 = .ok (.getfield 33, 3) := by decide +kernel
theorem dX0_readBase_5 : decode cX0_readBase 5 = .ok (.iload_n 1, 1) := by decide +kernel
theorem dX0_readBase_6 : decode cX0_readBase 6 = .ok (.iconst 2, 1) := by decide +kernel
theorem dX0_readBase_7 : decode cX0_readBase 7 = .ok (.iadd, 1) := by decide +kernel
theorem dX0_readBase_8 : decode cX0_readBase 8 = .ok (.invokevirtual 224, 3) := by decide +kernel
theorem dX0_readBase_11 : decode cX0_readBase 11 = .ok (.putfield 64, 3) := by decide +kernel
theorem dX0_readBase_14 : decode cX0_readBase 14 = .ok (.aload_n 0, 1) := by decide +kernel
theorem dX0_readBase_15 : decode cX0_readBase 15 = .ok (.aload_n 0, 1) := by decide +kernel
theorem dX0_readBase_16 : decode cX0_readBase 16 = .ok (.getfield 64, 3) := by decide +kernel
theorem dX0_readBase_19 : decode cX0_readBase 19 = .ok (.putfield 67, 3) := by decide +kernel
theorem dX0_readBase_22 : decode cX0_readBase 22 = .ok (.aload_n 0, 1) := by decide +kernel
theorem dX0_readBase_23 : decode cX0_readBase 23 = .ok (.aload_n 0, 1) := by decide +kernel
theorem dX0_readBase_24 : decode cX0_readBase 24 = .ok (.getfield 51, 3) := by decide +kernel
theorem dX0_readBase_27 : decode cX0_readBase 27 = .ok (.aload_n 0, 1) := by decide +kernel
theorem dX0_readBase_28 : decode cX0_readBase 28 = .ok (.getfield 33, 3) := by decide +kernel
theorem dX0_readBase_31 : decode cX0_readBase 31 = .ok (.iload_n 1, 1) := by decide +kernel
theorem dX0_readBase_32 : decode cX0_readBase 32 = .ok (.iconst 4, 1) := by decide +kernel
theorem dX0_readBase_33 : decode cX0_readBase 33 = .ok (.iadd, 1) := by decide +kernel
theorem dX0_readBase_34 : decode cX0_readBase 34 = .ok (.invokevirtual 224, 3) := by decide +kernel
theorem dX0_readBase_37 : decode cX0_readBase 37 = .ok (.invokestatic 130, 3) := by decide +kernel
theorem dX0_readBase_40 : decode cX0_readBase 40 = .ok (.putfield 51, 3) := by decide +kernel
theorem dX0_readBase_43 : decode cX0_readBase 43 = .ok (.iconst 0, 1) := by decide +kernel
theorem dX0_readBase_44 : decode cX0_readBase 44 = .ok (.istore_n 2, 1) := by decide +kernel
theorem dX0_readBase_45 : decode cX0_readBase 45 = .ok (.iload_n 2, 1) := by decide +kernel
theorem dX0_readBase_46 : decode cX0_readBase 46 = .ok (.bipush 63, 2) := by decide +kernel
theorem dX0_readBase_48 : decode cX0_readBase 48 = .ok (.if_icmp .ge 28, 3) := by decide +kernel
theorem dX0_readBase_51 : decode cX0_readBase 51 = .ok (.aload_n 0, 1) := by decide +kernel
theorem dX0_readBase_52 : decode cX0_readBase 52 = .ok (.getfield 21, 3) := by decide +kernel
theorem dX0_readBase_55 : decode cX0_readBase 55 = .ok (.iload_n 2, 1) := by decide +kernel
theorem dX0_readBase_56 : decode cX0_readBase 56 = .ok (.aload_n 0, 1) := by decide +kernel
theorem dX0_readBase_57 : decode cX0_readBase 57 = .ok (.getfield 33, 3) := by decide +kernel
theorem dX0_readBase_60 : decode cX0_readBase 60 = .ok (.iload_n 1, 1) := by decide +kernel
theorem dX0_readBase_61 : decode cX0_readBase 61 = .ok (.bipush 6, 2) := by decide +kernel
theorem dX0_readBase_63 : decode cX0_readBase 63 = .ok (.iadd, 1) := by decide +kernel
theorem dX0_readBase_64 : decode cX0_readBase 64 = .ok (.iload_n 2, 1) := by decide +kernel
theorem dX0_readBase_65 : decode cX0_readBase 65 = .ok (.iadd, 1) := by decide +kernel
theorem dX0_readBase_66 : decode cX0_readBase 66 = .ok (.invokevirtual 227, 3) := by decide +kernel
theorem dX0_readBase_69 : decode cX0_readBase 69 = .ok (.iastore, 1) := by decide +kernel
theorem dX0_readBase_70 : decode cX0_readBase 70 = .ok (.iinc 2 1, 3) := by decide +kernel
theorem dX0_readBase_73 : decode cX0_readBase 73 = .ok (.goto (-28), 3) := by decide +kernel
theorem dX0_readBase_76 : decode cX0_readBase 76 = .ok (.return_, 1) := by decide +kernel
theorem dX1_init_0 : decode cX1_init 0 = .ok (.aload_n 0, 1) := by decide +kernel
theorem dX1_init_1 : decode cX1_init 1 = .ok (.invokespecial 3, 3) := by decide +kernel
theorem dX1_init_4 : decode cX1_init 4 = .ok (.aload_n 0, 1) := by decide +kernel
theorem dX1_init_5 : decode cX1_init 5 = .ok (.sipush 12928, 3) := by decide +kernel
theorem dX1_init_8 : decode cX1_init 8 = .ok (.newarray .byte, 2) := by decide +kernel
theorem dX1_init_10 : decode cX1_init 10 = .ok (.putfield 9, 3) := by decide +kernel
theorem dX1_init_13 : decode cX1_init 13 = .ok (.aload_n 0, 1) := by decide +kernel
theorem dX1_init_14 : decode cX1_init 14 = .ok (.aload_n 1, 1) := by decide +kernel
theorem dX1_init_15 : decode cX1_init 15 = .ok (.putfield 15, 3) := by decide +kernel
theorem dX1_init_18 : decode cX1_init 18 = .ok (.return_, 1) := by decide +kernel
theorem dX1_begin_0 : decode cX1_begin 0 = .ok (.aload_n 0, 1) := by decide +kernel
theorem dX1_begin_1 : decode cX1_begin 1 = .ok (.aload_n 1, 1) := by decide +kernel
theorem dX1_begin_2 : decode cX1_begin 2 = .ok (.putfield 19, 3) := by decide +kernel
theorem dX1_begin_5 : decode cX1_begin 5 = .ok (.aload_n 0, 1) := by decide +kernel
theorem dX1_begin_6 : decode cX1_begin 6 = .ok (.getfield 23, 3) := by decide +kernel
theorem dX1_begin_9 : decode cX1_begin 9 = .ok (.ifCond .eq 11, 3) := by decide +kernel
theorem dX1_begin_12 : decode cX1_begin 12 = .ok (.aload_n 0, 1) := by decide +kernel
theorem dX1_begin_13 : decode cX1_begin 13 = .ok (.getfield 9, 3) := by decide +kernel
theorem dX1_begin_16 : decode cX1_begin 16 = .ok (.iconst 0, 1) := by decide +kernel
theorem dX1_begin_17 : decode cX1_begin 17 = .ok (.invokestatic 27, 3) := by decide +kernel
theorem dX1_begin_20 : decode cX1_begin 20 = .ok (.aload_n 0, 1) := by decide +kernel
theorem dX1_begin_21 : decode cX1_begin 21 = .ok (.iconst 0, 1) := by decide +kernel
theorem dX1_begin_22 : decode cX1_begin 22 = .ok (.iconst 0, 1) := by decide +kernel
theorem dX1_begin_23 : decode cX1_begin 23 = .ok (.invokestatic 33, 3) := by decide +kernel
theorem dX1_begin_26 : decode cX1_begin 26 = .ok (.iconst 0, 1) := by decide +kernel
theorem dX1_begin_27 : decode cX1_begin 27 = .ok (.invokevirtual 37, 3) := by decide +kernel
theorem dX1_begin_30 : decode cX1_begin 30 = .ok (.return_, 1) := by decide +kernel
theorem dX1_countFrom_0 : decode cX1_countFrom 0 = .ok (.aload_n 0, 1) := by decide +kernel
theorem dX1_countFrom_1 : decode cX1_countFrom 1 = .ok (.iload_n 1, 1) := by decide +kernel
theorem dX1_countFrom_2 : decode cX1_countFrom 2 = .ok (.putfield 23, 3) := by decide +kernel
theorem dX1_countFrom_5 : decode cX1_countFrom 5 = .ok (.aload_n 0, 1) := by decide +kernel
theorem dX1_countFrom_6 : decode cX1_countFrom 6 = .ok (.iload_n 2, 1) := by decide +kernel
theorem dX1_countFrom_7 : decode cX1_countFrom 7 = .ok (.bipush 64, 2) := by decide +kernel
theorem dX1_countFrom_9 : decode cX1_countFrom 9 = .ok (.imul, 1) := by decide +kernel
theorem dX1_countFrom_10 : decode cX1_countFrom 10 = .ok (.putfield 41, 3) := by decide +kernel
theorem dX1_countFrom_13 : decode cX1_countFrom 13 = .ok (.aload_n 0, 1) := by decide +kernel
theorem dX1_countFrom_14 : decode cX1_countFrom 14 = .ok (.iload_n 3, 1) := by decide +kernel
theorem dX1_countFrom_15 : decode cX1_countFrom 15 = .ok (.putfield 44, 3) := by decide +kernel
theorem dX1_countFrom_18 : decode cX1_countFrom 18 = .ok (.return_, 1) := by decide +kernel
theorem dX1_after_0 : decode cX1_after 0 = .ok (.iload_n 0, 1) := by decide +kernel
theorem dX1_after_1 : decode cX1_after 1 = .ok (.sipush 250, 3) := by decide +kernel
theorem dX1_after_4 : decode cX1_after 4 = .ok (.if_icmp .lt 7, 3) := by decide +kernel
theorem dX1_after_7 : decode cX1_after 7 = .ok (.iconst 1, 1) := by decide +kernel
theorem dX1_after_8 : decode cX1_after 8 = .ok (.goto 6, 3) := by decide +kernel
theorem dX1_after_11 : decode cX1_after 11 = .ok (.iload_n 0, 1) := by decide +kernel
theorem dX1_after_12 : decode cX1_after 12 = .ok (.iconst 1, 1) := by decide +kernel
theorem dX1_after_13 : decode cX1_after 13 = .ok (.iadd, 1) := by decide +kernel
theorem dX1_after_14 : decode cX1_after 14 = .ok (.ireturn, 1) := by decide +kernel
theorem dX1_firstBlockOf_0 : decode cX1_firstBlockOf 0 = .ok (.iconst 2, 1) := by decide +kernel
theorem dX1_firstBlockOf_1 : decode cX1_firstBlockOf 1 = .ok (.iload_n 0, 1) := by decide +kernel
theorem dX1_firstBlockOf_2 : decode cX1_firstBlockOf 2 = .ok (.iconst 2, 1) := by decide +kernel
theorem dX1_firstBlockOf_3 : decode cX1_firstBlockOf 3 = .ok (.irem, 1) := by decide +kernel
theorem dX1_firstBlockOf_4 : decode cX1_firstBlockOf 4 = .ok (.bipush 100, 2) := by decide +kernel
theorem dX1_firstBlockOf_6 : decode cX1_firstBlockOf 6 = .ok (.imul, 1) := by decide +kernel
theorem dX1_firstBlockOf_7 : decode cX1_firstBlockOf 7 = .ok (.iadd, 1) := by decide +kernel
theorem dX1_firstBlockOf_8 : decode cX1_firstBlockOf 8 = .ok (.ireturn, 1) := by decide +kernel
theorem dX1_fits_0 : decode cX1_fits 0 = .ok (.aload_n 0, 1) := by decide +kernel
theorem dX1_fits_1 : decode cX1_fits 1 = .ok (.getfield 44, 3) := by decide +kernel
theorem dX1_fits_4 : decode cX1_fits 4 = .ok (.iload_n 1, 1) := by decide +kernel
theorem dX1_fits_5 : decode cX1_fits 5 = .ok (.iadd, 1) := by decide +kernel
theorem dX1_fits_6 : decode cX1_fits 6 = .ok (.sipush 6400, 3) := by decide +kernel
theorem dX1_fits_9 : decode cX1_fits 9 = .ok (.if_icmp .gt 7, 3) := by decide +kernel
theorem dX1_fits_12 : decode cX1_fits 12 = .ok (.iconst 1, 1) := by decide +kernel
theorem dX1_fits_13 : decode cX1_fits 13 = .ok (.goto 4, 3) := by decide +kernel
theorem dX1_fits_16 : decode cX1_fits 16 = .ok (.iconst 0, 1) := by decide +kernel
theorem dX1_fits_17 : decode cX1_fits 17 = .ok (.ireturn, 1) := by decide +kernel
theorem dX1_clearImage_0 : decode cX1_clearImage 0 = .ok (.aload_n 0, 1) := by decide +kernel
theorem dX1_clearImage_1 : decode cX1_clearImage 1 = .ok (.iconst 0, 1) := by decide +kernel
theorem dX1_clearImage_2 : decode cX1_clearImage 2 = .ok (.putfield 47, 3) := by decide +kernel
theorem dX1_clearImage_5 : decode cX1_clearImage 5 = .ok (.return_, 1) := by decide +kernel
theorem dX1_open_0 : decode cX1_open 0 = .ok (.aload_n 0, 1) := by decide +kernel
theorem dX1_open_1 : decode cX1_open 1 = .ok (.aload_n 0, 1) := by decide +kernel
theorem dX1_open_2 : decode cX1_open 2 = .ok (.getfield 47, 3) := by decide +kernel
theorem dX1_open_5 : decode cX1_open 5 = .ok (.putfield 50, 3) := by decide +kernel
theorem dX1_open_8 : decode cX1_open 8 = .ok (.aload_n 0, 1) := by decide +kernel
theorem dX1_open_9 : decode cX1_open 9 = .ok (.getfield 47, 3) := by decide +kernel
theorem dX1_open_12 : decode cX1_open 12 = .ok (.iconst 1, 1) := by decide +kernel
theorem dX1_open_13 : decode cX1_open 13 = .ok (.iadd, 1) := by decide +kernel
theorem dX1_open_14 : decode cX1_open 14 = .ok (.sipush 6400, 3) := by decide +kernel
theorem dX1_open_17 : decode cX1_open 17 = .ok (.if_icmp .ge 27, 3) := by decide +kernel
theorem dX1_open_20 : decode cX1_open 20 = .ok (.aload_n 0, 1) := by decide +kernel
theorem dX1_open_21 : decode cX1_open 21 = .ok (.getfield 15, 3) := by decide +kernel
theorem dX1_open_24 : decode cX1_open 24 = .ok (.getfield 53, 3) := by decide +kernel
theorem dX1_open_27 : decode cX1_open 27 = .ok (.aload_n 0, 1) := by decide +kernel
theorem dX1_open_28 : decode cX1_open 28 = .ok (.getfield 47, 3) := by decide +kernel
theorem dX1_open_31 : decode cX1_open 31 = .ok (.iload_n 1, 1) := by decide +kernel
theorem dX1_open_32 : decode cX1_open 32 = .ok (.i2b, 1) := by decide +kernel
theorem dX1_open_33 : decode cX1_open 33 = .ok (.bastore, 1) := by decide +kernel
theorem dX1_open_34 : decode cX1_open 34 = .ok (.aload_n 0, 1) := by decide +kernel
theorem dX1_open_35 : decode cX1_open 35 = .ok (.dup, 1) := by decide +kernel
theorem dX1_open_36 : decode cX1_open 36 = .ok (.getfield 47, 3) := by decide +kernel
theorem dX1_open_39 : decode cX1_open 39 = .ok (.iconst 2, 1) := by decide +kernel
theorem dX1_open_40 : decode cX1_open 40 = .ok (.iadd, 1) := by decide +kernel
theorem dX1_open_41 : decode cX1_open 41 = .ok (.putfield 47, 3) := by decide +kernel
theorem dX1_open_44 : decode cX1_open 44 = .ok (.return_, 1) := by decide +kernel
theorem dX1_addOne_0 : decode cX1_addOne 0 = .ok (.aload_n 0, 1) := by decide +kernel
theorem dX1_addOne_1 : decode cX1_addOne 1 = .ok (.getfield 47, 3) := by decide +kernel
theorem dX1_addOne_4 : decode cX1_addOne 4 = .ok (.sipush 6400, 3) := by decide +kernel
theorem dX1_addOne_7 : decode cX1_addOne 7 = .ok (.if_icmp .ge 27, 3) := by decide +kernel
theorem dX1_addOne_10 : decode cX1_addOne 10 = .ok (.aload_n 0, 1) := by decide +kernel
theorem dX1_addOne_11 : decode cX1_addOne 11 = .ok (.getfield 15, 3) := by decide +kernel
theorem dX1_addOne_14 : decode cX1_addOne 14 = .ok (.getfield 53, 3) := by decide +kernel
theorem dX1_addOne_17 : decode cX1_addOne 17 = .ok (.aload_n 0, 1) := by decide +kernel
theorem dX1_addOne_18 : decode cX1_addOne 18 = .ok (.getfield 47, 3) := by decide +kernel
theorem dX1_addOne_21 : decode cX1_addOne 21 = .ok (.iload_n 1, 1) := by decide +kernel
theorem dX1_addOne_22 : decode cX1_addOne 22 = .ok (.i2b, 1) := by decide +kernel
theorem dX1_addOne_23 : decode cX1_addOne 23 = .ok (.bastore, 1) := by decide +kernel
theorem dX1_addOne_24 : decode cX1_addOne 24 = .ok (.aload_n 0, 1) := by decide +kernel
theorem dX1_addOne_25 : decode cX1_addOne 25 = .ok (.dup, 1) := by decide +kernel
theorem dX1_addOne_26 : decode cX1_addOne 26 = .ok (.getfield 47, 3) := by decide +kernel
theorem dX1_addOne_29 : decode cX1_addOne 29 = .ok (.iconst 1, 1) := by decide +kernel
theorem dX1_addOne_30 : decode cX1_addOne 30 = .ok (.iadd, 1) := by decide +kernel
theorem dX1_addOne_31 : decode cX1_addOne 31 = .ok (.putfield 47, 3) := by decide +kernel
theorem dX1_addOne_34 : decode cX1_addOne 34 = .ok (.return_, 1) := by decide +kernel
theorem dX1_addTwo_0 : decode cX1_addTwo 0 = .ok (.aload_n 0, 1) := by decide +kernel
theorem dX1_addTwo_1 : decode cX1_addTwo 1 = .ok (.getfield 47, 3) := by decide +kernel
theorem dX1_addTwo_4 : decode cX1_addTwo 4 = .ok (.iconst 1, 1) := by decide +kernel
theorem dX1_addTwo_5 : decode cX1_addTwo 5 = .ok (.iadd, 1) := by decide +kernel
theorem dX1_addTwo_6 : decode cX1_addTwo 6 = .ok (.sipush 6400, 3) := by decide +kernel
theorem dX1_addTwo_9 : decode cX1_addTwo 9 = .ok (.if_icmp .ge 46, 3) := by decide +kernel
theorem dX1_addTwo_12 : decode cX1_addTwo 12 = .ok (.aload_n 0, 1) := by decide +kernel
theorem dX1_addTwo_13 : decode cX1_addTwo 13 = .ok (.getfield 15, 3) := by decide +kernel
theorem dX1_addTwo_16 : decode cX1_addTwo 16 = .ok (.getfield 53, 3) := by decide +kernel
theorem dX1_addTwo_19 : decode cX1_addTwo 19 = .ok (.aload_n 0, 1) := by decide +kernel
theorem dX1_addTwo_20 : decode cX1_addTwo 20 = .ok (.getfield 47, 3) := by decide +kernel
theorem dX1_addTwo_23 : decode cX1_addTwo 23 = .ok (.iload_n 1, 1) := by decide +kernel
theorem dX1_addTwo_24 : decode cX1_addTwo 24 = .ok (.bipush 8, 2) := by decide +kernel
theorem dX1_addTwo_26 : decode cX1_addTwo 26 = .ok (.ishr, 1) := by decide +kernel
theorem dX1_addTwo_27 : decode cX1_addTwo 27 = .ok (.i2b, 1) := by decide +kernel
theorem dX1_addTwo_28 : decode cX1_addTwo 28 = .ok (.bastore, 1) := by decide +kernel
theorem dX1_addTwo_29 : decode cX1_addTwo 29 = .ok (.aload_n 0, 1) := by decide +kernel
theorem dX1_addTwo_30 : decode cX1_addTwo 30 = .ok (.getfield 15, 3) := by decide +kernel
theorem dX1_addTwo_33 : decode cX1_addTwo 33 = .ok (.getfield 53, 3) := by decide +kernel
theorem dX1_addTwo_36 : decode cX1_addTwo 36 = .ok (.aload_n 0, 1) := by decide +kernel
theorem dX1_addTwo_37 : decode cX1_addTwo 37 = .ok (.getfield 47, 3) := by decide +kernel
theorem dX1_addTwo_40 : decode cX1_addTwo 40 = .ok (.iconst 1, 1) := by decide +kernel
theorem dX1_addTwo_41 : decode cX1_addTwo 41 = .ok (.iadd, 1) := by decide +kernel
theorem dX1_addTwo_42 : decode cX1_addTwo 42 = .ok (.iload_n 1, 1) := by decide +kernel
theorem dX1_addTwo_43 : decode cX1_addTwo 43 = .ok (.i2b, 1) := by decide +kernel
theorem dX1_addTwo_44 : decode cX1_addTwo 44 = .ok (.bastore, 1) := by decide +kernel
theorem dX1_addTwo_45 : decode cX1_addTwo 45 = .ok (.aload_n 0, 1) := by decide +kernel
theorem dX1_addTwo_46 : decode cX1_addTwo 46 = .ok (.dup, 1) := by decide +kernel
theorem dX1_addTwo_47 : decode cX1_addTwo 47 = .ok (.getfield 47, 3) := by decide +kernel
theorem dX1_addTwo_50 : decode cX1_addTwo 50 = .ok (.iconst 2, 1) := by decide +kernel
theorem dX1_addTwo_51 : decode cX1_addTwo 51 = .ok (.iadd, 1) := by decide +kernel
theorem dX1_addTwo_52 : decode cX1_addTwo 52 = .ok (.putfield 47, 3) := by decide +kernel
theorem dX1_addTwo_55 : decode cX1_addTwo 55 = .ok (.return_, 1) := by decide +kernel
theorem dX1_addText_0 : decode cX1_addText 0 = .ok (.iconst 0, 1) := by decide +kernel
theorem dX1_addText_1 : decode cX1_addText 1 = .ok (.istore_n 2, 1) := by decide +kernel
theorem dX1_addText_2 : decode cX1_addText 2 = .ok (.iload_n 2, 1) := by decide +kernel
theorem dX1_addText_3 : decode cX1_addText 3 = .ok (.aload_n 1, 1) := by decide +kernel
theorem dX1_addText_4 : decode cX1_addText 4 = .ok (.arraylength, 1) := by decide +kernel
theorem dX1_addText_5 : decode cX1_addText 5 = .ok (.if_icmp .ge 45, 3) := by decide +kernel
theorem dX1_addText_8 : decode cX1_addText 8 = .ok (.aload_n 0, 1) := by decide +kernel
theorem dX1_addText_9 : decode cX1_addText 9 = .ok (.getfield 47, 3) := by decide +kernel
theorem dX1_addText_12 : decode cX1_addText 12 = .ok (.sipush 6400, 3) := by decide +kernel
theorem dX1_addText_15 : decode cX1_addText 15 = .ok (.if_icmp .ge 35, 3) := by decide +kernel
theorem dX1_addText_18 : decode cX1_addText 18 = .ok (.aload_n 0, 1) := by decide +kernel
theorem dX1_addText_19 : decode cX1_addText 19 = .ok (.getfield 15, 3) := by decide +kernel
theorem dX1_addText_22 : decode cX1_addText 22 = .ok (.getfield 53, 3) := by decide +kernel
theorem dX1_addText_25 : decode cX1_addText 25 = .ok (.aload_n 0, 1) := by decide +kernel
theorem dX1_addText_26 : decode cX1_addText 26 = .ok (.getfield 47, 3) := by decide +kernel
theorem dX1_addText_29 : decode cX1_addText 29 = .ok (.aload_n 1, 1) := by decide +kernel
theorem dX1_addText_30 : decode cX1_addText 30 = .ok (.iload_n 2, 1) := by decide +kernel
theorem dX1_addText_31 : decode cX1_addText 31 = .ok (.iaload, 1) := by decide +kernel
theorem dX1_addText_32 : decode cX1_addText 32 = .ok (.i2b, 1) := by decide +kernel
theorem dX1_addText_33 : decode cX1_addText 33 = .ok (.bastore, 1) := by decide +kernel
theorem dX1_addText_34 : decode cX1_addText 34 = .ok (.aload_n 0, 1) := by decide +kernel
theorem dX1_addText_35 : decode cX1_addText 35 = .ok (.dup, 1) := by decide +kernel
theorem dX1_addText_36 : decode cX1_addText 36 = .ok (.getfield 47, 3) := by decide +kernel
theorem dX1_addText_39 : decode cX1_addText 39 = .ok (.iconst 1, 1) := by decide +kernel
theorem dX1_addText_40 : decode cX1_addText 40 = .ok (.iadd, 1) := by decide +kernel
theorem dX1_addText_41 : decode cX1_addText 41 = .ok (.putfield 47, 3) := by decide +kernel
theorem dX1_addText_44 : decode cX1_addText 44 = .ok (.iinc 2 1, 3) := by decide +kernel
theorem dX1_addText_47 : decode cX1_addText 47 = .ok (.goto (-45), 3) := by decide +kernel
theorem dX1_addText_50 : decode cX1_addText 50 = .ok (.return_, 1) := by decide +kernel
theorem dX1_close_0 : decode cX1_close 0 = .ok (.aload_n 0, 1) := by decide +kernel
theorem dX1_close_1 : decode cX1_close 1 = .ok (.getfield 50, 3) := by decide +kernel
theorem dX1_close_4 : decode cX1_close 4 = .ok (.iconst 1, 1) := by decide +kernel
theorem dX1_close_5 : decode cX1_close 5 = .ok (.iadd, 1) := by decide +kernel
theorem dX1_close_6 : decode cX1_close 6 = .ok (.aload_n 0, 1) := by decide +kernel
theorem dX1_close_7 : decode cX1_close 7 = .ok (.getfield 47, 3) := by decide +kernel
theorem dX1_close_10 : decode cX1_close 10 = .ok (.if_icmp .ge 62, 3) := by decide +kernel
theorem dX1_close_13 : decode cX1_close 13 = .ok (.aload_n 0, 1) := by decide +kernel
theorem dX1_close_14 : decode cX1_close 14 = .ok (.getfield 47, 3) := by decide +kernel
theorem dX1_close_17 : decode cX1_close 17 = .ok (.sipush 6400, 3) := by decide +kernel
theorem dX1_close_20 : decode cX1_close 20 = .ok (.if_icmp .ge 52, 3) := by decide +kernel
theorem dX1_close_23 : decode cX1_close 23 = .ok (.aload_n 0, 1) := by decide +kernel
theorem dX1_close_24 : decode cX1_close 24 = .ok (.getfield 15, 3) := by decide +kernel
theorem dX1_close_27 : decode cX1_close 27 = .ok (.getfield 53, 3) := by decide +kernel
theorem dX1_close_30 : decode cX1_close 30 = .ok (.aload_n 0, 1) := by decide +kernel
theorem dX1_close_31 : decode cX1_close 31 = .ok (.getfield 50, 3) := by decide +kernel
theorem dX1_close_34 : decode cX1_close 34 = .ok (.iconst 1, 1) := by decide +kernel
theorem dX1_close_35 : decode cX1_close 35 = .ok (.iadd, 1) := by decide +kernel
theorem dX1_close_36 : decode cX1_close 36 = .ok (.aload_n 0, 1) := by decide +kernel
theorem dX1_close_37 : decode cX1_close 37 = .ok (.getfield 47, 3) := by decide +kernel
theorem dX1_close_40 : decode cX1_close 40 = .ok (.aload_n 0, 1) := by decide +kernel
theorem dX1_close_41 : decode cX1_close 41 = .ok (.getfield 50, 3) := by decide +kernel
theorem dX1_close_44 : decode cX1_close 44 = .ok (.isub, 1) := by decide +kernel
theorem dX1_close_45 : decode cX1_close 45 = .ok (.iconst 2, 1) := by decide +kernel
theorem dX1_close_46 : decode cX1_close 46 = .ok (.isub, 1) := by decide +kernel
theorem dX1_close_47 : decode cX1_close 47 = .ok (.i2b, 1) := by decide +kernel
theorem dX1_close_48 : decode cX1_close 48 = .ok (.bastore, 1) := by decide +kernel
theorem dX1_close_49 : decode cX1_close 49 = .ok (.aload_n 0, 1) := by decide +kernel
theorem dX1_close_50 : decode cX1_close 50 = .ok (.getfield 15, 3) := by decide +kernel
theorem dX1_close_53 : decode cX1_close 53 = .ok (.getfield 53, 3) := by decide +kernel
theorem dX1_close_56 : decode cX1_close 56 = .ok (.aload_n 0, 1) := by decide +kernel
theorem dX1_close_57 : decode cX1_close 57 = .ok (.getfield 47, 3) := by decide +kernel
theorem dX1_close_60 : decode cX1_close 60 = .ok (.iconst (-1), 1) := by decide +kernel
theorem dX1_close_61 : decode cX1_close 61 = .ok (.bastore, 1) := by decide +kernel
theorem dX1_close_62 : decode cX1_close 62 = .ok (.aload_n 0, 1) := by decide +kernel
theorem dX1_close_63 : decode cX1_close 63 = .ok (.dup, 1) := by decide +kernel
theorem dX1_close_64 : decode cX1_close 64 = .ok (.getfield 47, 3) := by decide +kernel
theorem dX1_close_67 : decode cX1_close 67 = .ok (.iconst 1, 1) := by decide +kernel
theorem dX1_close_68 : decode cX1_close 68 = .ok (.iadd, 1) := by decide +kernel
theorem dX1_close_69 : decode cX1_close 69 = .ok (.putfield 47, 3) := by decide +kernel
theorem dX1_close_72 : decode cX1_close 72 = .ok (.return_, 1) := by decide +kernel
theorem dX1_commit_0 : decode cX1_commit 0 = .ok (.aload_n 0, 1) := by decide +kernel
theorem dX1_commit_1 : decode cX1_commit 1 = .ok (.getfield 47, 3) := by decide +kernel
theorem dX1_commit_4 : decode cX1_commit 4 = .ok (.ifCond .eq 14, 3) := by decide +kernel
theorem dX1_commit_7 : decode cX1_commit 7 = .ok (.aload_n 0, 1) := by decide +kernel
theorem dX1_commit_8 : decode cX1_commit 8 = .ok (.aload_n 0, 1) := by decide +kernel
theorem dX1_commit_9 : decode cX1_commit 9 = .ok (.getfield 47, 3) := by decide +kernel
theorem dX1_commit_12 : decode cX1_commit 12 = .ok (.invokevirtual 58, 3) := by decide +kernel
theorem dX1_commit_15 : decode cX1_commit 15 = .ok (.ifCond .ne 4, 3) := by decide +kernel
theorem dX1_commit_18 : decode cX1_commit 18 = .ok (.return_, 1) := by decide +kernel
theorem dX1_commit_19 : decode cX1_commit 19 = .ok (.aload_n 0, 1) := by decide +kernel
theorem dX1_commit_20 : decode cX1_commit 20 = .ok (.getfield 41, 3) := by decide +kernel
theorem dX1_commit_23 : decode cX1_commit 23 = .ok (.aload_n 0, 1) := by decide +kernel
theorem dX1_commit_24 : decode cX1_commit 24 = .ok (.getfield 44, 3) := by decide +kernel
theorem dX1_commit_27 : decode cX1_commit 27 = .ok (.iadd, 1) := by decide +kernel
theorem dX1_commit_28 : decode cX1_commit 28 = .ok (.istore_n 1, 1) := by decide +kernel
theorem dX1_commit_29 : decode cX1_commit 29 = .ok (.iload_n 1, 1) := by decide +kernel
theorem dX1_commit_30 : decode cX1_commit 30 = .ok (.aload_n 0, 1) := by decide +kernel
theorem dX1_commit_31 : decode cX1_commit 31 = .ok (.getfield 47, 3) := by decide +kernel
theorem dX1_commit_34 : decode cX1_commit 34 = .ok (.iadd, 1) := by decide +kernel
theorem dX1_commit_35 : decode cX1_commit 35 = .ok (.istore_n 2, 1) := by decide +kernel
theorem dX1_commit_36 : decode cX1_commit 36 = .ok (.iload_n 1, 1) := by decide +kernel
theorem dX1_commit_37 : decode cX1_commit 37 = .ok (.bipush 64, 2) := by decide +kernel
theorem dX1_commit_39 : decode cX1_commit 39 = .ok (.idiv, 1) := by decide +kernel
theorem dX1_commit_40 : decode cX1_commit 40 = .ok (.istore_n 3, 1) := by decide +kernel
theorem dX1_commit_41 : decode cX1_commit 41 = .ok (.iload_n 3, 1) := by decide +kernel
theorem dX1_commit_42 : decode cX1_commit 42 = .ok (.bipush 64, 2) := by decide +kernel
theorem dX1_commit_44 : decode cX1_commit 44 = .ok (.imul, 1) := by decide +kernel
theorem dX1_commit_45 : decode cX1_commit 45 = .ok (.iload_n 2, 1) := by decide +kernel
theorem dX1_commit_46 : decode cX1_commit 46 = .ok (.if_icmp .ge 99, 3) := by decide +kernel
theorem dX1_commit_49 : decode cX1_commit 49 = .ok (.iload_n 1, 1) := by decide +kernel
theorem dX1_commit_50 : decode cX1_commit 50 = .ok (.iload_n 3, 1) := by decide +kernel
theorem dX1_commit_51 : decode cX1_commit 51 = .ok (.bipush 64, 2) := by decide +kernel
theorem dX1_commit_53 : decode cX1_commit 53 = .ok (.imul, 1) := by decide +kernel
theorem dX1_commit_54 : decode cX1_commit 54 = .ok (.invokestatic 62, 3) := by decide +kernel
theorem dX1_commit_57 : decode cX1_commit 57 = .ok (.istore 4, 2) := by decide +kernel
theorem dX1_commit_59 : decode cX1_commit 59 = .ok (.iload_n 2, 1) := by decide +kernel
theorem dX1_commit_60 : decode cX1_commit 60 = .ok (.iload_n 3, 1) := by decide +kernel
theorem dX1_commit_61 : decode cX1_commit 61 = .ok (.bipush 64, 2) := by decide +kernel
theorem dX1_commit_63 : decode cX1_commit 63 = .ok (.imul, 1) := by decide +kernel
theorem dX1_commit_64 : decode cX1_commit 64 = .ok (.bipush 64, 2) := by decide +kernel
theorem dX1_commit_66 : decode cX1_commit 66 = .ok (.iadd, 1) := by decide +kernel
theorem dX1_commit_67 : decode cX1_commit 67 = .ok (.invokestatic 68, 3) := by decide +kernel
theorem dX1_commit_70 : decode cX1_commit 70 = .ok (.istore 5, 2) := by decide +kernel
theorem dX1_commit_72 : decode cX1_commit 72 = .ok (.aload_n 0, 1) := by decide +kernel
theorem dX1_commit_73 : decode cX1_commit 73 = .ok (.getfield 9, 3) := by decide +kernel
theorem dX1_commit_76 : decode cX1_commit 76 = .ok (.iload_n 3, 1) := by decide +kernel
theorem dX1_commit_77 : decode cX1_commit 77 = .ok (.bipush 64, 2) := by decide +kernel
theorem dX1_commit_79 : decode cX1_commit 79 = .ok (.imul, 1) := by decide +kernel
theorem dX1_commit_80 : decode cX1_commit 80 = .ok (.aload_n 0, 1) := by decide +kernel
theorem dX1_commit_81 : decode cX1_commit 81 = .ok (.getfield 15, 3) := by decide +kernel
theorem dX1_commit_84 : decode cX1_commit 84 = .ok (.getfield 71, 3) := by decide +kernel
theorem dX1_commit_87 : decode cX1_commit 87 = .ok (.iconst 0, 1) := by decide +kernel
theorem dX1_commit_88 : decode cX1_commit 88 = .ok (.bipush 64, 2) := by decide +kernel
theorem dX1_commit_90 : decode cX1_commit 90 = .ok (.invokestatic 74, 3) := by decide +kernel
theorem dX1_commit_93 : decode cX1_commit 93 = .ok (.aload_n 0, 1) := by decide +kernel
theorem dX1_commit_94 : decode cX1_commit 94 = .ok (.getfield 15, 3) := by decide +kernel
theorem dX1_commit_97 : decode cX1_commit 97 = .ok (.getfield 53, 3) := by decide +kernel
theorem dX1_commit_100 : decode cX1_commit 100 = .ok (.iload 4, 2) := by decide +kernel
theorem dX1_commit_102 : decode cX1_commit 102 = .ok (.iload_n 1, 1) := by decide +kernel
theorem dX1_commit_103 : decode cX1_commit 103 = .ok (.isub, 1) := by decide +kernel
theorem dX1_commit_104 : decode cX1_commit 104 = .ok (.aload_n 0, 1) := by decide +kernel
theorem dX1_commit_105 : decode cX1_commit 105 = .ok (.getfield 15, 3) := by decide +kernel
theorem dX1_commit_108 : decode cX1_commit 108 = .ok (.getfield 71, 3) := by decide +kernel
theorem dX1_commit_111 : decode cX1_commit 111 = .ok (.iload 4, 2) := by decide +kernel
theorem dX1_commit_113 : decode cX1_commit 113 = .ok (.iload_n 3, 1) := by decide +kernel
theorem dX1_commit_114 : decode cX1_commit 114 = .ok (.bipush 64, 2) := by decide +kernel
theorem dX1_commit_116 : decode cX1_commit 116 = .ok (.imul, 1) := by decide +kernel
theorem dX1_commit_117 : decode cX1_commit 117 = .ok (.isub, 1) := by decide +kernel
theorem dX1_commit_118 : decode cX1_commit 118 = .ok (.iload 5, 2) := by decide +kernel
theorem dX1_commit_120 : decode cX1_commit 120 = .ok (.iload 4, 2) := by decide +kernel
theorem dX1_commit_122 : decode cX1_commit 122 = .ok (.isub, 1) := by decide +kernel
theorem dX1_commit_123 : decode cX1_commit 123 = .ok (.invokestatic 74, 3) := by decide +kernel
theorem dX1_commit_126 : decode cX1_commit 126 = .ok (.aload_n 0, 1) := by decide +kernel
theorem dX1_commit_127 : decode cX1_commit 127 = .ok (.iload_n 3, 1) := by decide +kernel
theorem dX1_commit_128 : decode cX1_commit 128 = .ok (.aload_n 0, 1) := by decide +kernel
theorem dX1_commit_129 : decode cX1_commit 129 = .ok (.getfield 15, 3) := by decide +kernel
theorem dX1_commit_132 : decode cX1_commit 132 = .ok (.getfield 71, 3) := by decide +kernel
theorem dX1_commit_135 : decode cX1_commit 135 = .ok (.iconst 0, 1) := by decide +kernel
theorem dX1_commit_136 : decode cX1_commit 136 = .ok (.invokevirtual 80, 3) := by decide +kernel
theorem dX1_commit_139 : decode cX1_commit 139 = .ok (.iinc 3 1, 3) := by decide +kernel
theorem dX1_commit_142 : decode cX1_commit 142 = .ok (.goto (-101), 3) := by decide +kernel
theorem dX1_commit_145 : decode cX1_commit 145 = .ok (.aload_n 0, 1) := by decide +kernel
theorem dX1_commit_146 : decode cX1_commit 146 = .ok (.dup, 1) := by decide +kernel
theorem dX1_commit_147 : decode cX1_commit 147 = .ok (.getfield 44, 3) := by decide +kernel
theorem dX1_commit_150 : decode cX1_commit 150 = .ok (.aload_n 0, 1) := by decide +kernel
theorem dX1_commit_151 : decode cX1_commit 151 = .ok (.getfield 47, 3) := by decide +kernel
theorem dX1_commit_154 : decode cX1_commit 154 = .ok (.iadd, 1) := by decide +kernel
theorem dX1_commit_155 : decode cX1_commit 155 = .ok (.putfield 44, 3) := by decide +kernel
theorem dX1_commit_158 : decode cX1_commit 158 = .ok (.return_, 1) := by decide +kernel
theorem dX1_swap_0 : decode cX1_swap 0 = .ok (.aload_n 0, 1) := by decide +kernel
theorem dX1_swap_1 : decode cX1_swap 1 = .ok (.getfield 23, 3) := by decide +kernel
theorem dX1_swap_4 : decode cX1_swap 4 = .ok (.invokestatic 84, 3) := by decide +kernel
theorem dX1_swap_7 : decode cX1_swap 7 = .ok (.istore_n 1, 1) := by decide +kernel
theorem dX1_swap_8 : decode cX1_swap 8 = .ok (.iload_n 1, 1) := by decide +kernel
theorem dX1_swap_9 : decode cX1_swap 9 = .ok (.invokestatic 33, 3) := by decide +kernel
theorem dX1_swap_12 : decode cX1_swap 12 = .ok (.istore_n 2, 1) := by decide +kernel
theorem dX1_swap_13 : decode cX1_swap 13 = .ok (.aload_n 0, 1) := by decide +kernel
theorem dX1_swap_14 : decode cX1_swap 14 = .ok (.getfield 15, 3) := by decide +kernel
theorem dX1_swap_17 : decode cX1_swap 17 = .ok (.getfield 53, 3) := by decide +kernel
theorem dX1_swap_20 : decode cX1_swap 20 = .ok (.aload_n 0, 1) := by decide +kernel
theorem dX1_swap_21 : decode cX1_swap 21 = .ok (.getfield 47, 3) := by decide +kernel
theorem dX1_swap_24 : decode cX1_swap 24 = .ok (.sipush 6400, 3) := by decide +kernel
theorem dX1_swap_27 : decode cX1_swap 27 = .ok (.iconst 0, 1) := by decide +kernel
theorem dX1_swap_28 : decode cX1_swap 28 = .ok (.invokestatic 87, 3) := by decide +kernel
theorem dX1_swap_31 : decode cX1_swap 31 = .ok (.iconst 0, 1) := by decide +kernel
theorem dX1_swap_32 : decode cX1_swap 32 = .ok (.istore_n 3, 1) := by decide +kernel
theorem dX1_swap_33 : decode cX1_swap 33 = .ok (.iload_n 3, 1) := by decide +kernel
theorem dX1_swap_34 : decode cX1_swap 34 = .ok (.bipush 100, 2) := by decide +kernel
theorem dX1_swap_36 : decode cX1_swap 36 = .ok (.if_icmp .ge 41, 3) := by decide +kernel
theorem dX1_swap_39 : decode cX1_swap 39 = .ok (.aload_n 0, 1) := by decide +kernel
theorem dX1_swap_40 : decode cX1_swap 40 = .ok (.iload_n 2, 1) := by decide +kernel
theorem dX1_swap_41 : decode cX1_swap 41 = .ok (.iload_n 3, 1) := by decide +kernel
theorem dX1_swap_42 : decode cX1_swap 42 = .ok (.iadd, 1) := by decide +kernel
theorem dX1_swap_43 : decode cX1_swap 43 = .ok (.iload_n 3, 1) := by decide +kernel
theorem dX1_swap_44 : decode cX1_swap 44 = .ok (.bipush 64, 2) := by decide +kernel
theorem dX1_swap_46 : decode cX1_swap 46 = .ok (.imul, 1) := by decide +kernel
theorem dX1_swap_47 : decode cX1_swap 47 = .ok (.invokevirtual 90, 3) := by decide +kernel
theorem dX1_swap_50 : decode cX1_swap 50 = .ok (.ifCond .ne 21, 3) := by decide +kernel
theorem dX1_swap_53 : decode cX1_swap 53 = .ok (.aload_n 0, 1) := by decide +kernel
theorem dX1_swap_54 : decode cX1_swap 54 = .ok (.iload_n 2, 1) := by decide +kernel
theorem dX1_swap_55 : decode cX1_swap 55 = .ok (.iload_n 3, 1) := by decide +kernel
theorem dX1_swap_56 : decode cX1_swap 56 = .ok (.iadd, 1) := by decide +kernel
theorem dX1_swap_57 : decode cX1_swap 57 = .ok (.aload_n 0, 1) := by decide +kernel
theorem dX1_swap_58 : decode cX1_swap 58 = .ok (.getfield 15, 3) := by decide +kernel
theorem dX1_swap_61 : decode cX1_swap 61 = .ok (.getfield 53, 3) := by decide +kernel
theorem dX1_swap_64 : decode cX1_swap 64 = .ok (.iload_n 3, 1) := by decide +kernel
theorem dX1_swap_65 : decode cX1_swap 65 = .ok (.bipush 64, 2) := by decide +kernel
theorem dX1_swap_67 : decode cX1_swap 67 = .ok (.imul, 1) := by decide +kernel
theorem dX1_swap_68 : decode cX1_swap 68 = .ok (.invokevirtual 80, 3) := by decide +kernel
theorem dX1_swap_71 : decode cX1_swap 71 = .ok (.iinc 3 1, 3) := by decide +kernel
theorem dX1_swap_74 : decode cX1_swap 74 = .ok (.goto (-41), 3) := by decide +kernel
theorem dX1_swap_77 : decode cX1_swap 77 = .ok (.aload_n 0, 1) := by decide +kernel
theorem dX1_swap_78 : decode cX1_swap 78 = .ok (.getfield 15, 3) := by decide +kernel
theorem dX1_swap_81 : decode cX1_swap 81 = .ok (.getfield 71, 3) := by decide +kernel
theorem dX1_swap_84 : decode cX1_swap 84 = .ok (.iconst 0, 1) := by decide +kernel
theorem dX1_swap_85 : decode cX1_swap 85 = .ok (.invokestatic 27, 3) := by decide +kernel
theorem dX1_swap_88 : decode cX1_swap 88 = .ok (.aload_n 0, 1) := by decide +kernel
theorem dX1_swap_89 : decode cX1_swap 89 = .ok (.getfield 15, 3) := by decide +kernel
theorem dX1_swap_92 : decode cX1_swap 92 = .ok (.getfield 71, 3) := by decide +kernel
theorem dX1_swap_95 : decode cX1_swap 95 = .ok (.iconst 0, 1) := by decide +kernel
theorem dX1_swap_96 : decode cX1_swap 96 = .ok (.iload_n 1, 1) := by decide +kernel
theorem dX1_swap_97 : decode cX1_swap 97 = .ok (.i2b, 1) := by decide +kernel
theorem dX1_swap_98 : decode cX1_swap 98 = .ok (.bastore, 1) := by decide +kernel
theorem dX1_swap_99 : decode cX1_swap 99 = .ok (.aload_n 0, 1) := by decide +kernel
theorem dX1_swap_100 : decode cX1_swap 100 = .ok (.iload_n 1, 1) := by decide +kernel
theorem dX1_swap_101 : decode cX1_swap 101 = .ok (.iconst 2, 1) := by decide +kernel
theorem dX1_swap_102 : decode cX1_swap 102 = .ok (.irem, 1) := by decide +kernel
theorem dX1_swap_103 : decode cX1_swap 103 = .ok (.aload_n 0, 1) := by decide +kernel
theorem dX1_swap_104 : decode cX1_swap 104 = .ok (.getfield 15, 3) := by decide +kernel
theorem dX1_swap_107 : decode cX1_swap 107 = .ok (.getfield 71, 3) := by decide +kernel
theorem dX1_swap_110 : decode cX1_swap 110 = .ok (.iconst 0, 1) := by decide +kernel
theorem dX1_swap_111 : decode cX1_swap 111 = .ok (.invokevirtual 80, 3) := by decide +kernel
theorem dX1_swap_114 : decode cX1_swap 114 = .ok (.aload_n 0, 1) := by decide +kernel
theorem dX1_swap_115 : decode cX1_swap 115 = .ok (.iload_n 1, 1) := by decide +kernel
theorem dX1_swap_116 : decode cX1_swap 116 = .ok (.iload_n 2, 1) := by decide +kernel
theorem dX1_swap_117 : decode cX1_swap 117 = .ok (.aload_n 0, 1) := by decide +kernel
theorem dX1_swap_118 : decode cX1_swap 118 = .ok (.getfield 47, 3) := by decide +kernel
theorem dX1_swap_121 : decode cX1_swap 121 = .ok (.invokevirtual 37, 3) := by decide +kernel
theorem dX1_swap_124 : decode cX1_swap 124 = .ok (.return_, 1) := by decide +kernel
theorem dX1_isSo_0 : decode cX1_isSo 0 = .ok (.iconst 0, 1) := by decide +kernel
theorem dX1_isSo_1 : decode cX1_isSo 1 = .ok (.istore_n 3, 1) := by decide +kernel
theorem dX1_isSo_2 : decode cX1_isSo 2 = .ok (.iload_n 3, 1) := by decide +kernel
theorem dX1_isSo_3 : decode cX1_isSo 3 = .ok (.bipush 64, 2) := by decide +kernel
theorem dX1_isSo_5 : decode cX1_isSo 5 = .ok (.if_icmp .ge 36, 3) := by decide +kernel
theorem dX1_isSo_8 : decode cX1_isSo 8 = .ok (.aload_n 0, 1) := by decide +kernel
theorem dX1_isSo_9 : decode cX1_isSo 9 = .ok (.getfield 9, 3) := by decide +kernel
theorem dX1_isSo_12 : decode cX1_isSo 12 = .ok (.iload_n 1, 1) := by decide +kernel
theorem dX1_isSo_13 : decode cX1_isSo 13 = .ok (.bipush 64, 2) := by decide +kernel
theorem dX1_isSo_15 : decode cX1_isSo 15 = .ok (.imul, 1) := by decide +kernel
theorem dX1_isSo_16 : decode cX1_isSo 16 = .ok (.iload_n 3, 1) := by decide +kernel
theorem dX1_isSo_17 : decode cX1_isSo 17 = .ok (.iadd, 1) := by decide +kernel
theorem dX1_isSo_18 : decode cX1_isSo 18 = .ok (.baload, 1) := by decide +kernel
theorem dX1_isSo_19 : decode cX1_isSo 19 = .ok (.aload_n 0, 1) := by decide +kernel
theorem dX1_isSo_20 : decode cX1_isSo 20 = .ok (.getfield 15, 3) := by decide +kernel
theorem dX1_isSo_23 : decode cX1_isSo 23 = .ok (.getfield 53, 3) := by decide +kernel
theorem dX1_isSo_26 : decode cX1_isSo 26 = .ok (.iload_n 2, 1) := by decide +kernel
theorem dX1_isSo_27 : decode cX1_isSo 27 = .ok (.iload_n 3, 1) := by decide +kernel
theorem dX1_isSo_28 : decode cX1_isSo 28 = .ok (.iadd, 1) := by decide +kernel
theorem dX1_isSo_29 : decode cX1_isSo 29 = .ok (.baload, 1) := by decide +kernel
theorem dX1_isSo_30 : decode cX1_isSo 30 = .ok (.if_icmp .eq 5, 3) := by decide +kernel
theorem dX1_isSo_33 : decode cX1_isSo 33 = .ok (.iconst 0, 1) := by decide +kernel
theorem dX1_isSo_34 : decode cX1_isSo 34 = .ok (.ireturn, 1) := by decide +kernel
theorem dX1_isSo_35 : decode cX1_isSo 35 = .ok (.iinc 3 1, 3) := by decide +kernel
theorem dX1_isSo_38 : decode cX1_isSo 38 = .ok (.goto (-36), 3) := by decide +kernel
theorem dX1_isSo_41 : decode cX1_isSo 41 = .ok (.iconst 1, 1) := by decide +kernel
theorem dX1_isSo_42 : decode cX1_isSo 42 = .ok (.ireturn, 1) := by decide +kernel
theorem dX1_writeBlock_0 : decode cX1_writeBlock 0 = .ok (.aload_n 0, 1) := by decide +kernel
theorem dX1_writeBlock_1 : decode cX1_writeBlock 1 = .ok (.getfield 15, 3) := by decide +kernel
theorem dX1_writeBlock_4 : decode cX1_writeBlock 4 = .ok (.dup, 1) := by decide +kernel
theorem dX1_writeBlock_5 : decode cX1_writeBlock 5 = .ok (.getfield 94, 3) := by decide +kernel
theorem dX1_writeBlock_8 : decode cX1_writeBlock 8 = .ok (.iconst 1, 1) := by decide +kernel
theorem dX1_writeBlock_9 : decode cX1_writeBlock 9 = .ok (.iadd, 1) := by decide +kernel
theorem dX1_writeBlock_10 : decode cX1_writeBlock 10 = .ok (.putfield 94, 3) := by decide +kernel
theorem dX1_writeBlock_13 : decode cX1_writeBlock 13 = .ok (.iconst 0, 1) := by decide +kernel
theorem dX1_writeBlock_14 : decode cX1_writeBlock 14 = .ok (.istore 4, 2) := by decide +kernel
theorem dX1_writeBlock_16 : decode cX1_writeBlock 16 = .ok (.bipush 64, 2) := by decide +kernel
theorem dX1_writeBlock_18 : decode cX1_writeBlock 18 = .ok (.istore 5, 2) := by decide +kernel
theorem dX1_writeBlock_20 : decode cX1_writeBlock 20 = .ok (.aload_n 0, 1) := by decide +kernel
theorem dX1_writeBlock_21 : decode cX1_writeBlock 21 = .ok (.getfield 19, 3) := by decide +kernel
theorem dX1_writeBlock_24 : decode cX1_writeBlock 24 = .ok (.ifnull 62, 3) := by decide +kernel
theorem dX1_writeBlock_27 : decode cX1_writeBlock 27 = .ok (.aload_n 0, 1) := by decide +kernel
theorem dX1_writeBlock_28 : decode cX1_writeBlock 28 = .ok (.getfield 19, 3) := by decide +kernel
theorem dX1_writeBlock_31 : decode cX1_writeBlock 31 = .ok (.getfield 97, 3) := by decide +kernel
theorem dX1_writeBlock_34 : decode cX1_writeBlock 34 = .ok (.ifCond .le 52, 3) := by decide +kernel
theorem dX1_writeBlock_37 : decode cX1_writeBlock 37 = .ok (.aload_n 0, 1) := by decide +kernel
theorem dX1_writeBlock_38 : decode cX1_writeBlock 38 = .ok (.getfield 19, 3) := by decide +kernel
theorem dX1_writeBlock_41 : decode cX1_writeBlock 41 = .ok (.dup, 1) := by decide +kernel
theorem dX1_writeBlock_42 : decode cX1_writeBlock 42 = .ok (.getfield 97, 3) := by decide +kernel
theorem dX1_writeBlock_45 : decode cX1_writeBlock 45 = .ok (.iconst 1, 1) := by decide +kernel
theorem dX1_writeBlock_46 : decode cX1_writeBlock 46 = .ok (.isub, 1) := by decide +kernel
theorem dX1_writeBlock_47 : decode cX1_writeBlock 47 = .ok (.putfield 97, 3) := by decide +kernel
theorem dX1_writeBlock_50 : decode cX1_writeBlock 50 = .ok (.aload_n 0, 1) := by decide +kernel
theorem dX1_writeBlock_51 : decode cX1_writeBlock 51 = .ok (.getfield 19, 3) := by decide +kernel
theorem dX1_writeBlock_54 : decode cX1_writeBlock 54 = .ok (.getfield 97, 3) := by decide +kernel
theorem dX1_writeBlock_57 : decode cX1_writeBlock 57 = .ok (.ifCond .ne 7, 3) := by decide +kernel
theorem dX1_writeBlock_60 : decode cX1_writeBlock 60 = .ok (.iconst 1, 1) := by decide +kernel
theorem dX1_writeBlock_61 : decode cX1_writeBlock 61 = .ok (.goto 4, 3) := by decide +kernel
theorem dX1_writeBlock_64 : decode cX1_writeBlock 64 = .ok (.iconst 0, 1) := by decide +kernel
theorem dX1_writeBlock_65 : decode cX1_writeBlock 65 = .ok (.istore 4, 2) := by decide +kernel
theorem dX1_writeBlock_67 : decode cX1_writeBlock 67 = .ok (.iload 4, 2) := by decide +kernel
theorem dX1_writeBlock_69 : decode cX1_writeBlock 69 = .ok (.ifCond .eq 13, 3) := by decide +kernel
theorem dX1_writeBlock_72 : decode cX1_writeBlock 72 = .ok (.aload_n 0, 1) := by decide +kernel
theorem dX1_writeBlock_73 : decode cX1_writeBlock 73 = .ok (.getfield 19, 3) := by decide +kernel
theorem dX1_writeBlock_76 : decode cX1_writeBlock 76 = .ok (.getfield 102, 3) := by decide +kernel
theorem dX1_writeBlock_79 : decode cX1_writeBlock 79 = .ok (.goto 5, 3) := by decide +kernel
theorem dX1_writeBlock_82 : decode cX1_writeBlock 82 = .ok (.bipush 64, 2) := by decide +kernel
theorem dX1_writeBlock_84 : decode cX1_writeBlock 84 = .ok (.istore 5, 2) := by decide +kernel
theorem dX1_writeBlock_86 : decode cX1_writeBlock 86 = .ok (.aload_n 2, 1) := by decide +kernel
theorem dX1_writeBlock_87 : decode cX1_writeBlock 87 = .ok (.iload_n 3, 1) := by decide +kernel
theorem dX1_writeBlock_88 : decode cX1_writeBlock 88 = .ok (.aload_n 0, 1) := by decide +kernel
theorem dX1_writeBlock_89 : decode cX1_writeBlock 89 = .ok (.getfield 9, 3) := by decide +kernel
theorem dX1_writeBlock_92 : decode cX1_writeBlock 92 = .ok (.iload_n 1, 1) := by decide +kernel
theorem dX1_writeBlock_93 : decode cX1_writeBlock 93 = .ok (.bipush 64, 2) := by decide +kernel
theorem dX1_writeBlock_95 : decode cX1_writeBlock 95 = .ok (.imul, 1) := by decide +kernel
theorem dX1_writeBlock_96 : decode cX1_writeBlock 96 = .ok (.iload 5, 2) := by decide +kernel
theorem dX1_writeBlock_98 : decode cX1_writeBlock 98 = .ok (.invokestatic 74, 3) := by decide +kernel
theorem dX1_writeBlock_101 : decode cX1_writeBlock 101 = .ok (.iload 4, 2) := by decide +kernel
theorem dX1_writeBlock_103 : decode cX1_writeBlock 103 = .ok (.ifCond .eq 13, 3) := by decide +kernel
theorem dX1_writeBlock_106 : decode cX1_writeBlock 106 = .ok (.new 105, 3) := by decide +kernel
theorem dX1_writeBlock_109 : decode cX1_writeBlock 109 = .ok (.dup, 1) := by decide +kernel
theorem dX1_writeBlock_110 : decode cX1_writeBlock 110 = .ok (.ldc 107, 2) := by decide +kernel
theorem dX1_writeBlock_112 : decode cX1_writeBlock 112 = .ok (.invokespecial 109, 3) := by decide +kernel
theorem dX1_writeBlock_115 : decode cX1_writeBlock 115 = .ok (.athrow, 1) := by decide +kernel
theorem dX1_writeBlock_116 : decode cX1_writeBlock 116 = .ok (.return_, 1) := by decide +kernel
theorem dX1_choose_0 : decode cX1_choose 0 = .ok (.aload_n 0, 1) := by decide +kernel
theorem dX1_choose_1 : decode cX1_choose 1 = .ok (.getfield 9, 3) := by decide +kernel
theorem dX1_choose_4 : decode cX1_choose 4 = .ok (.iconst 0, 1) := by decide +kernel
theorem dX1_choose_5 : decode cX1_choose 5 = .ok (.baload, 1) := by decide +kernel
theorem dX1_choose_6 : decode cX1_choose 6 = .ok (.sipush 255, 3) := by decide +kernel
theorem dX1_choose_9 : decode cX1_choose 9 = .ok (.iand, 1) := by decide +kernel
theorem dX1_choose_10 : decode cX1_choose 10 = .ok (.istore_n 1, 1) := by decide +kernel
theorem dX1_choose_11 : decode cX1_choose 11 = .ok (.aload_n 0, 1) := by decide +kernel
theorem dX1_choose_12 : decode cX1_choose 12 = .ok (.getfield 9, 3) := by decide +kernel
theorem dX1_choose_15 : decode cX1_choose 15 = .ok (.bipush 64, 2) := by decide +kernel
theorem dX1_choose_17 : decode cX1_choose 17 = .ok (.baload, 1) := by decide +kernel
theorem dX1_choose_18 : decode cX1_choose 18 = .ok (.sipush 255, 3) := by decide +kernel
theorem dX1_choose_21 : decode cX1_choose 21 = .ok (.iand, 1) := by decide +kernel
theorem dX1_choose_22 : decode cX1_choose 22 = .ok (.istore_n 2, 1) := by decide +kernel
theorem dX1_choose_23 : decode cX1_choose 23 = .ok (.iload_n 1, 1) := by decide +kernel
theorem dX1_choose_24 : decode cX1_choose 24 = .ok (.ifCond .eq 15, 3) := by decide +kernel
theorem dX1_choose_27 : decode cX1_choose 27 = .ok (.iload_n 2, 1) := by decide +kernel
theorem dX1_choose_28 : decode cX1_choose 28 = .ok (.ifCond .eq 15, 3) := by decide +kernel
theorem dX1_choose_31 : decode cX1_choose 31 = .ok (.iload_n 1, 1) := by decide +kernel
theorem dX1_choose_32 : decode cX1_choose 32 = .ok (.invokestatic 84, 3) := by decide +kernel
theorem dX1_choose_35 : decode cX1_choose 35 = .ok (.iload_n 2, 1) := by decide +kernel
theorem dX1_choose_36 : decode cX1_choose 36 = .ok (.if_icmp .ne 7, 3) := by decide +kernel
theorem dX1_choose_39 : decode cX1_choose 39 = .ok (.iload_n 2, 1) := by decide +kernel
theorem dX1_choose_40 : decode cX1_choose 40 = .ok (.goto 4, 3) := by decide +kernel
theorem dX1_choose_43 : decode cX1_choose 43 = .ok (.iload_n 1, 1) := by decide +kernel
theorem dX1_choose_44 : decode cX1_choose 44 = .ok (.istore_n 3, 1) := by decide +kernel
theorem dX1_choose_45 : decode cX1_choose 45 = .ok (.aload_n 0, 1) := by decide +kernel
theorem dX1_choose_46 : decode cX1_choose 46 = .ok (.iload_n 3, 1) := by decide +kernel
theorem dX1_choose_47 : decode cX1_choose 47 = .ok (.iload_n 3, 1) := by decide +kernel
theorem dX1_choose_48 : decode cX1_choose 48 = .ok (.invokestatic 33, 3) := by decide +kernel
theorem dX1_choose_51 : decode cX1_choose 51 = .ok (.iconst 0, 1) := by decide +kernel
theorem dX1_choose_52 : decode cX1_choose 52 = .ok (.invokevirtual 37, 3) := by decide +kernel
theorem dX1_choose_55 : decode cX1_choose 55 = .ok (.return_, 1) := by decide +kernel
theorem dX1_oneAt_0 : decode cX1_oneAt 0 = .ok (.iload_n 1, 1) := by decide +kernel
theorem dX1_oneAt_1 : decode cX1_oneAt 1 = .ok (.ifCond .lt 10, 3) := by decide +kernel
theorem dX1_oneAt_4 : decode cX1_oneAt 4 = .ok (.iload_n 1, 1) := by decide +kernel
theorem dX1_oneAt_5 : decode cX1_oneAt 5 = .ok (.sipush 6400, 3) := by decide +kernel
theorem dX1_oneAt_8 : decode cX1_oneAt 8 = .ok (.if_icmp .lt 7, 3) := by decide +kernel
theorem dX1_oneAt_11 : decode cX1_oneAt 11 = .ok (.iconst 0, 1) := by decide +kernel
theorem dX1_oneAt_12 : decode cX1_oneAt 12 = .ok (.goto 18, 3) := by decide +kernel
theorem dX1_oneAt_15 : decode cX1_oneAt 15 = .ok (.aload_n 0, 1) := by decide +kernel
theorem dX1_oneAt_16 : decode cX1_oneAt 16 = .ok (.getfield 9, 3) := by decide +kernel
theorem dX1_oneAt_19 : decode cX1_oneAt 19 = .ok (.aload_n 0, 1) := by decide +kernel
theorem dX1_oneAt_20 : decode cX1_oneAt 20 = .ok (.getfield 41, 3) := by decide +kernel
theorem dX1_oneAt_23 : decode cX1_oneAt 23 = .ok (.iload_n 1, 1) := by decide +kernel
theorem dX1_oneAt_24 : decode cX1_oneAt 24 = .ok (.iadd, 1) := by decide +kernel
theorem dX1_oneAt_25 : decode cX1_oneAt 25 = .ok (.baload, 1) := by decide +kernel
theorem dX1_oneAt_26 : decode cX1_oneAt 26 = .ok (.sipush 255, 3) := by decide +kernel
theorem dX1_oneAt_29 : decode cX1_oneAt 29 = .ok (.iand, 1) := by decide +kernel
theorem dX1_oneAt_30 : decode cX1_oneAt 30 = .ok (.ireturn, 1) := by decide +kernel
theorem dX1_twoAt_0 : decode cX1_twoAt 0 = .ok (.aload_n 0, 1) := by decide +kernel
theorem dX1_twoAt_1 : decode cX1_twoAt 1 = .ok (.iload_n 1, 1) := by decide +kernel
theorem dX1_twoAt_2 : decode cX1_twoAt 2 = .ok (.invokevirtual 112, 3) := by decide +kernel
theorem dX1_twoAt_5 : decode cX1_twoAt 5 = .ok (.bipush 8, 2) := by decide +kernel
theorem dX1_twoAt_7 : decode cX1_twoAt 7 = .ok (.ishl, 1) := by decide +kernel
theorem dX1_twoAt_8 : decode cX1_twoAt 8 = .ok (.aload_n 0, 1) := by decide +kernel
theorem dX1_twoAt_9 : decode cX1_twoAt 9 = .ok (.iload_n 1, 1) := by decide +kernel
theorem dX1_twoAt_10 : decode cX1_twoAt 10 = .ok (.iconst 1, 1) := by decide +kernel
theorem dX1_twoAt_11 : decode cX1_twoAt 11 = .ok (.iadd, 1) := by decide +kernel
theorem dX1_twoAt_12 : decode cX1_twoAt 12 = .ok (.invokevirtual 112, 3) := by decide +kernel
theorem dX1_twoAt_15 : decode cX1_twoAt 15 = .ok (.ior, 1) := by decide +kernel
theorem dX1_twoAt_16 : decode cX1_twoAt 16 = .ok (.ireturn, 1) := by decide +kernel
theorem dX1_sizeAt_0 : decode cX1_sizeAt 0 = .ok (.aload_n 0, 1) := by decide +kernel
theorem dX1_sizeAt_1 : decode cX1_sizeAt 1 = .ok (.iload_n 1, 1) := by decide +kernel
theorem dX1_sizeAt_2 : decode cX1_sizeAt 2 = .ok (.iconst 1, 1) := by decide +kernel
theorem dX1_sizeAt_3 : decode cX1_sizeAt 3 = .ok (.iadd, 1) := by decide +kernel
theorem dX1_sizeAt_4 : decode cX1_sizeAt 4 = .ok (.invokevirtual 112, 3) := by decide +kernel
theorem dX1_sizeAt_7 : decode cX1_sizeAt 7 = .ok (.iconst 3, 1) := by decide +kernel
theorem dX1_sizeAt_8 : decode cX1_sizeAt 8 = .ok (.iadd, 1) := by decide +kernel
theorem dX1_sizeAt_9 : decode cX1_sizeAt 9 = .ok (.istore_n 2, 1) := by decide +kernel
theorem dX1_sizeAt_10 : decode cX1_sizeAt 10 = .ok (.aload_n 0, 1) := by decide +kernel
theorem dX1_sizeAt_11 : decode cX1_sizeAt 11 = .ok (.iload_n 1, 1) := by decide +kernel
theorem dX1_sizeAt_12 : decode cX1_sizeAt 12 = .ok (.invokevirtual 112, 3) := by decide +kernel
theorem dX1_sizeAt_15 : decode cX1_sizeAt 15 = .ok (.ifCond .eq 27, 3) := by decide +kernel
theorem dX1_sizeAt_18 : decode cX1_sizeAt 18 = .ok (.iload_n 1, 1) := by decide +kernel
theorem dX1_sizeAt_19 : decode cX1_sizeAt 19 = .ok (.iload_n 2, 1) := by decide +kernel
theorem dX1_sizeAt_20 : decode cX1_sizeAt 20 = .ok (.iadd, 1) := by decide +kernel
theorem dX1_sizeAt_21 : decode cX1_sizeAt 21 = .ok (.sipush 6400, 3) := by decide +kernel
theorem dX1_sizeAt_24 : decode cX1_sizeAt 24 = .ok (.if_icmp .gt 18, 3) := by decide +kernel
theorem dX1_sizeAt_27 : decode cX1_sizeAt 27 = .ok (.aload_n 0, 1) := by decide +kernel
theorem dX1_sizeAt_28 : decode cX1_sizeAt 28 = .ok (.iload_n 1, 1) := by decide +kernel
theorem dX1_sizeAt_29 : decode cX1_sizeAt 29 = .ok (.iload_n 2, 1) := by decide +kernel
theorem dX1_sizeAt_30 : decode cX1_sizeAt 30 = .ok (.iadd, 1) := by decide +kernel
theorem dX1_sizeAt_31 : decode cX1_sizeAt 31 = .ok (.iconst 1, 1) := by decide +kernel
theorem dX1_sizeAt_32 : decode cX1_sizeAt 32 = .ok (.isub, 1) := by decide +kernel
theorem dX1_sizeAt_33 : decode cX1_sizeAt 33 = .ok (.invokevirtual 112, 3) := by decide +kernel
theorem dX1_sizeAt_36 : decode cX1_sizeAt 36 = .ok (.sipush 255, 3) := by decide +kernel
theorem dX1_sizeAt_39 : decode cX1_sizeAt 39 = .ok (.if_icmp .eq 7, 3) := by decide +kernel
theorem dX1_sizeAt_42 : decode cX1_sizeAt 42 = .ok (.iconst 0, 1) := by decide +kernel
theorem dX1_sizeAt_43 : decode cX1_sizeAt 43 = .ok (.goto 4, 3) := by decide +kernel
theorem dX1_sizeAt_46 : decode cX1_sizeAt 46 = .ok (.iload_n 2, 1) := by decide +kernel
theorem dX1_sizeAt_47 : decode cX1_sizeAt 47 = .ok (.ireturn, 1) := by decide +kernel
theorem dX1_endAt_0 : decode cX1_endAt 0 = .ok (.aload_n 0, 1) := by decide +kernel
theorem dX1_endAt_1 : decode cX1_endAt 1 = .ok (.iload_n 1, 1) := by decide +kernel
theorem dX1_endAt_2 : decode cX1_endAt 2 = .ok (.putfield 44, 3) := by decide +kernel
theorem dX1_endAt_5 : decode cX1_endAt 5 = .ok (.aload_n 0, 1) := by decide +kernel
theorem dX1_endAt_6 : decode cX1_endAt 6 = .ok (.getfield 41, 3) := by decide +kernel
theorem dX1_endAt_9 : decode cX1_endAt 9 = .ok (.iload_n 1, 1) := by decide +kernel
theorem dX1_endAt_10 : decode cX1_endAt 10 = .ok (.iadd, 1) := by decide +kernel
theorem dX1_endAt_11 : decode cX1_endAt 11 = .ok (.bipush 64, 2) := by decide +kernel
theorem dX1_endAt_13 : decode cX1_endAt 13 = .ok (.idiv, 1) := by decide +kernel
theorem dX1_endAt_14 : decode cX1_endAt 14 = .ok (.istore_n 2, 1) := by decide +kernel
theorem dX1_endAt_15 : decode cX1_endAt 15 = .ok (.aload_n 0, 1) := by decide +kernel
theorem dX1_endAt_16 : decode cX1_endAt 16 = .ok (.getfield 41, 3) := by decide +kernel
theorem dX1_endAt_19 : decode cX1_endAt 19 = .ok (.bipush 64, 2) := by decide +kernel
theorem dX1_endAt_21 : decode cX1_endAt 21 = .ok (.idiv, 1) := by decide +kernel
theorem dX1_endAt_22 : decode cX1_endAt 22 = .ok (.bipush 100, 2) := by decide +kernel
theorem dX1_endAt_24 : decode cX1_endAt 24 = .ok (.iadd, 1) := by decide +kernel
theorem dX1_endAt_25 : decode cX1_endAt 25 = .ok (.istore_n 3, 1) := by decide +kernel
theorem dX1_endAt_26 : decode cX1_endAt 26 = .ok (.iload_n 2, 1) := by decide +kernel
theorem dX1_endAt_27 : decode cX1_endAt 27 = .ok (.iconst 1, 1) := by decide +kernel
theorem dX1_endAt_28 : decode cX1_endAt 28 = .ok (.iadd, 1) := by decide +kernel
theorem dX1_endAt_29 : decode cX1_endAt 29 = .ok (.iload_n 3, 1) := by decide +kernel
theorem dX1_endAt_30 : decode cX1_endAt 30 = .ok (.if_icmp .ge 11, 3) := by decide +kernel
theorem dX1_endAt_33 : decode cX1_endAt 33 = .ok (.aload_n 0, 1) := by decide +kernel
theorem dX1_endAt_34 : decode cX1_endAt 34 = .ok (.iload_n 2, 1) := by decide +kernel
theorem dX1_endAt_35 : decode cX1_endAt 35 = .ok (.iconst 1, 1) := by decide +kernel
theorem dX1_endAt_36 : decode cX1_endAt 36 = .ok (.iadd, 1) := by decide +kernel
theorem dX1_endAt_37 : decode cX1_endAt 37 = .ok (.iconst 0, 1) := by decide +kernel
theorem dX1_endAt_38 : decode cX1_endAt 38 = .ok (.invokevirtual 115, 3) := by decide +kernel
theorem dX1_endAt_41 : decode cX1_endAt 41 = .ok (.iload_n 2, 1) := by decide +kernel
theorem dX1_endAt_42 : decode cX1_endAt 42 = .ok (.iload_n 3, 1) := by decide +kernel
theorem dX1_endAt_43 : decode cX1_endAt 43 = .ok (.if_icmp .ge 12, 3) := by decide +kernel
theorem dX1_endAt_46 : decode cX1_endAt 46 = .ok (.aload_n 0, 1) := by decide +kernel
theorem dX1_endAt_47 : decode cX1_endAt 47 = .ok (.iload_n 2, 1) := by decide +kernel
theorem dX1_endAt_48 : decode cX1_endAt 48 = .ok (.iload_n 1, 1) := by decide +kernel
theorem dX1_endAt_49 : decode cX1_endAt 49 = .ok (.bipush 64, 2) := by decide +kernel
theorem dX1_endAt_51 : decode cX1_endAt 51 = .ok (.irem, 1) := by decide +kernel
theorem dX1_endAt_52 : decode cX1_endAt 52 = .ok (.invokevirtual 115, 3) := by decide +kernel
theorem dX1_endAt_55 : decode cX1_endAt 55 = .ok (.return_, 1) := by decide +kernel
theorem dX1_wipe_0 : decode cX1_wipe 0 = .ok (.iconst 0, 1) := by decide +kernel
theorem dX1_wipe_1 : decode cX1_wipe 1 = .ok (.istore_n 3, 1) := by decide +kernel
theorem dX1_wipe_2 : decode cX1_wipe 2 = .ok (.iconst 0, 1) := by decide +kernel
theorem dX1_wipe_3 : decode cX1_wipe 3 = .ok (.istore 4, 2) := by decide +kernel
theorem dX1_wipe_5 : decode cX1_wipe 5 = .ok (.iload 4, 2) := by decide +kernel
theorem dX1_wipe_7 : decode cX1_wipe 7 = .ok (.bipush 64, 2) := by decide +kernel
theorem dX1_wipe_9 : decode cX1_wipe 9 = .ok (.if_icmp .ge 66, 3) := by decide +kernel
theorem dX1_wipe_12 : decode cX1_wipe 12 = .ok (.aload_n 0, 1) := by decide +kernel
theorem dX1_wipe_13 : decode cX1_wipe 13 = .ok (.getfield 9, 3) := by decide +kernel
theorem dX1_wipe_16 : decode cX1_wipe 16 = .ok (.iload_n 1, 1) := by decide +kernel
theorem dX1_wipe_17 : decode cX1_wipe 17 = .ok (.bipush 64, 2) := by decide +kernel
theorem dX1_wipe_19 : decode cX1_wipe 19 = .ok (.imul, 1) := by decide +kernel
theorem dX1_wipe_20 : decode cX1_wipe 20 = .ok (.iload 4, 2) := by decide +kernel
theorem dX1_wipe_22 : decode cX1_wipe 22 = .ok (.iadd, 1) := by decide +kernel
theorem dX1_wipe_23 : decode cX1_wipe 23 = .ok (.baload, 1) := by decide +kernel
theorem dX1_wipe_24 : decode cX1_wipe 24 = .ok (.istore 5, 2) := by decide +kernel
theorem dX1_wipe_26 : decode cX1_wipe 26 = .ok (.iload_n 3, 1) := by decide +kernel
theorem dX1_wipe_27 : decode cX1_wipe 27 = .ok (.ifCond .ne 14, 3) := by decide +kernel
theorem dX1_wipe_30 : decode cX1_wipe 30 = .ok (.iload 4, 2) := by decide +kernel
theorem dX1_wipe_32 : decode cX1_wipe 32 = .ok (.iload_n 2, 1) := by decide +kernel
theorem dX1_wipe_33 : decode cX1_wipe 33 = .ok (.if_icmp .lt 12, 3) := by decide +kernel
theorem dX1_wipe_36 : decode cX1_wipe 36 = .ok (.iload 5, 2) := by decide +kernel
theorem dX1_wipe_38 : decode cX1_wipe 38 = .ok (.ifCond .eq 7, 3) := by decide +kernel
theorem dX1_wipe_41 : decode cX1_wipe 41 = .ok (.iconst 1, 1) := by decide +kernel
theorem dX1_wipe_42 : decode cX1_wipe 42 = .ok (.goto 4, 3) := by decide +kernel
theorem dX1_wipe_45 : decode cX1_wipe 45 = .ok (.iconst 0, 1) := by decide +kernel
theorem dX1_wipe_46 : decode cX1_wipe 46 = .ok (.istore_n 3, 1) := by decide +kernel
theorem dX1_wipe_47 : decode cX1_wipe 47 = .ok (.aload_n 0, 1) := by decide +kernel
theorem dX1_wipe_48 : decode cX1_wipe 48 = .ok (.getfield 15, 3) := by decide +kernel
theorem dX1_wipe_51 : decode cX1_wipe 51 = .ok (.getfield 71, 3) := by decide +kernel
theorem dX1_wipe_54 : decode cX1_wipe 54 = .ok (.iload 4, 2) := by decide +kernel
theorem dX1_wipe_56 : decode cX1_wipe 56 = .ok (.iload 4, 2) := by decide +kernel
theorem dX1_wipe_58 : decode cX1_wipe 58 = .ok (.iload_n 2, 1) := by decide +kernel
theorem dX1_wipe_59 : decode cX1_wipe 59 = .ok (.if_icmp .ge 8, 3) := by decide +kernel
theorem dX1_wipe_62 : decode cX1_wipe 62 = .ok (.iload 5, 2) := by decide +kernel
theorem dX1_wipe_64 : decode cX1_wipe 64 = .ok (.goto 4, 3) := by decide +kernel
theorem dX1_wipe_67 : decode cX1_wipe 67 = .ok (.iconst 0, 1) := by decide +kernel
theorem dX1_wipe_68 : decode cX1_wipe 68 = .ok (.bastore, 1) := by decide +kernel
theorem dX1_wipe_69 : decode cX1_wipe 69 = .ok (.iinc 4 1, 3) := by decide +kernel
theorem dX1_wipe_72 : decode cX1_wipe 72 = .ok (.goto (-67), 3) := by decide +kernel
theorem dX1_wipe_75 : decode cX1_wipe 75 = .ok (.iload_n 3, 1) := by decide +kernel
theorem dX1_wipe_76 : decode cX1_wipe 76 = .ok (.ifCond .eq 16, 3) := by decide +kernel
theorem dX1_wipe_79 : decode cX1_wipe 79 = .ok (.aload_n 0, 1) := by decide +kernel
theorem dX1_wipe_80 : decode cX1_wipe 80 = .ok (.iload_n 1, 1) := by decide +kernel
theorem dX1_wipe_81 : decode cX1_wipe 81 = .ok (.aload_n 0, 1) := by decide +kernel
theorem dX1_wipe_82 : decode cX1_wipe 82 = .ok (.getfield 15, 3) := by decide +kernel
theorem dX1_wipe_85 : decode cX1_wipe 85 = .ok (.getfield 71, 3) := by decide +kernel
theorem dX1_wipe_88 : decode cX1_wipe 88 = .ok (.iconst 0, 1) := by decide +kernel
theorem dX1_wipe_89 : decode cX1_wipe 89 = .ok (.invokevirtual 80, 3) := by decide +kernel
theorem dX1_wipe_92 : decode cX1_wipe 92 = .ok (.return_, 1) := by decide +kernel
theorem dX2_init_0 : decode cX2_init 0 = .ok (.aload_n 0, 1) := by decide +kernel
theorem dX2_init_1 : decode cX2_init 1 = .ok (.invokespecial 3, 3) := by decide +kernel
theorem dX2_init_4 : decode cX2_init 4 = .ok (.aload_n 0, 1) := by decide +kernel
theorem dX2_init_5 : decode cX2_init 5 = .ok (.iconst 5, 1) := by decide +kernel
theorem dX2_init_6 : decode cX2_init 6 = .ok (.bipush 100, 2) := by decide +kernel
theorem dX2_init_8 : decode cX2_init 8 = .ok (.multianewarray 9 2, 4) := by decide +kernel
theorem dX2_init_12 : decode cX2_init 12 = .ok (.putfield 11, 3) := by decide +kernel
theorem dX2_init_15 : decode cX2_init 15 = .ok (.aload_n 0, 1) := by decide +kernel
theorem dX2_init_16 : decode cX2_init 16 = .ok (.iconst 5, 1) := by decide +kernel
theorem dX2_init_17 : decode cX2_init 17 = .ok (.bipush 100, 2) := by decide +kernel
theorem dX2_init_19 : decode cX2_init 19 = .ok (.multianewarray 9 2, 4) := by decide +kernel
theorem dX2_init_23 : decode cX2_init 23 = .ok (.putfield 16, 3) := by decide +kernel
theorem dX2_init_26 : decode cX2_init 26 = .ok (.aload_n 0, 1) := by decide +kernel
theorem dX2_init_27 : decode cX2_init 27 = .ok (.iconst 5, 1) := by decide +kernel
theorem dX2_init_28 : decode cX2_init 28 = .ok (.bipush 100, 2) := by decide +kernel
theorem dX2_init_30 : decode cX2_init 30 = .ok (.multianewarray 9 2, 4) := by decide +kernel
theorem dX2_init_34 : decode cX2_init 34 = .ok (.putfield 19, 3) := by decide +kernel
theorem dX2_init_37 : decode cX2_init 37 = .ok (.aload_n 0, 1) := by decide +kernel
theorem dX2_init_38 : decode cX2_init 38 = .ok (.iconst 5, 1) := by decide +kernel
theorem dX2_init_39 : decode cX2_init 39 = .ok (.newarray .int, 2) := by decide +kernel
theorem dX2_init_41 : decode cX2_init 41 = .ok (.putfield 22, 3) := by decide +kernel
theorem dX2_init_44 : decode cX2_init 44 = .ok (.aload_n 0, 1) := by decide +kernel
theorem dX2_init_45 : decode cX2_init 45 = .ok (.iconst 5, 1) := by decide +kernel
theorem dX2_init_46 : decode cX2_init 46 = .ok (.newarray .int, 2) := by decide +kernel
theorem dX2_init_48 : decode cX2_init 48 = .ok (.putfield 26, 3) := by decide +kernel
theorem dX2_init_51 : decode cX2_init 51 = .ok (.aload_n 0, 1) := by decide +kernel
theorem dX2_init_52 : decode cX2_init 52 = .ok (.bipush 100, 2) := by decide +kernel
theorem dX2_init_54 : decode cX2_init 54 = .ok (.newarray .int, 2) := by decide +kernel
theorem dX2_init_56 : decode cX2_init 56 = .ok (.putfield 29, 3) := by decide +kernel
theorem dX2_init_59 : decode cX2_init 59 = .ok (.aload_n 0, 1) := by decide +kernel
theorem dX2_init_60 : decode cX2_init 60 = .ok (.aload_n 1, 1) := by decide +kernel
theorem dX2_init_61 : decode cX2_init 61 = .ok (.putfield 32, 3) := by decide +kernel
theorem dX2_init_64 : decode cX2_init 64 = .ok (.return_, 1) := by decide +kernel
theorem dX2_begin_0 : decode cX2_begin 0 = .ok (.aload_n 0, 1) := by decide +kernel
theorem dX2_begin_1 : decode cX2_begin 1 = .ok (.iload_n 1, 1) := by decide +kernel
theorem dX2_begin_2 : decode cX2_begin 2 = .ok (.putfield 36, 3) := by decide +kernel
theorem dX2_begin_5 : decode cX2_begin 5 = .ok (.aload_n 0, 1) := by decide +kernel
theorem dX2_begin_6 : decode cX2_begin 6 = .ok (.iconst 0, 1) := by decide +kernel
theorem dX2_begin_7 : decode cX2_begin 7 = .ok (.putfield 40, 3) := by decide +kernel
theorem dX2_begin_10 : decode cX2_begin 10 = .ok (.aload_n 0, 1) := by decide +kernel
theorem dX2_begin_11 : decode cX2_begin 11 = .ok (.getfield 29, 3) := by decide +kernel
theorem dX2_begin_14 : decode cX2_begin 14 = .ok (.iconst (-1), 1) := by decide +kernel
theorem dX2_begin_15 : decode cX2_begin 15 = .ok (.invokestatic 43, 3) := by decide +kernel
theorem dX2_begin_18 : decode cX2_begin 18 = .ok (.return_, 1) := by decide +kernel
theorem dX2_liveIn_0 : decode cX2_liveIn 0 = .ok (.iconst 0, 1) := by decide +kernel
theorem dX2_liveIn_1 : decode cX2_liveIn 1 = .ok (.istore_n 2, 1) := by decide +kernel
theorem dX2_liveIn_2 : decode cX2_liveIn 2 = .ok (.iconst 0, 1) := by decide +kernel
theorem dX2_liveIn_3 : decode cX2_liveIn 3 = .ok (.istore_n 3, 1) := by decide +kernel
theorem dX2_liveIn_4 : decode cX2_liveIn 4 = .ok (.iload_n 3, 1) := by decide +kernel
theorem dX2_liveIn_5 : decode cX2_liveIn 5 = .ok (.aload_n 0, 1) := by decide +kernel
theorem dX2_liveIn_6 : decode cX2_liveIn 6 = .ok (.getfield 22, 3) := by decide +kernel
theorem dX2_liveIn_9 : decode cX2_liveIn 9 = .ok (.iload_n 1, 1) := by decide +kernel
theorem dX2_liveIn_10 : decode cX2_liveIn 10 = .ok (.iaload, 1) := by decide +kernel
theorem dX2_liveIn_11 : decode cX2_liveIn 11 = .ok (.if_icmp .ge 20, 3) := by decide +kernel
theorem dX2_liveIn_14 : decode cX2_liveIn 14 = .ok (.iload_n 2, 1) := by decide +kernel
theorem dX2_liveIn_15 : decode cX2_liveIn 15 = .ok (.aload_n 0, 1) := by decide +kernel
theorem dX2_liveIn_16 : decode cX2_liveIn 16 = .ok (.getfield 19, 3) := by decide +kernel
theorem dX2_liveIn_19 : decode cX2_liveIn 19 = .ok (.iload_n 1, 1) := by decide +kernel
theorem dX2_liveIn_20 : decode cX2_liveIn 20 = .ok (.aaload, 1) := by decide +kernel
theorem dX2_liveIn_21 : decode cX2_liveIn 21 = .ok (.iload_n 3, 1) := by decide +kernel
theorem dX2_liveIn_22 : decode cX2_liveIn 22 = .ok (.iaload, 1) := by decide +kernel
theorem dX2_liveIn_23 : decode cX2_liveIn 23 = .ok (.iadd, 1) := by decide +kernel
theorem dX2_liveIn_24 : decode cX2_liveIn 24 = .ok (.istore_n 2, 1) := by decide +kernel
theorem dX2_liveIn_25 : decode cX2_liveIn 25 = .ok (.iinc 3 1, 3) := by decide +kernel
theorem dX2_liveIn_28 : decode cX2_liveIn 28 = .ok (.goto (-24), 3) := by decide +kernel
theorem dX2_liveIn_31 : decode cX2_liveIn 31 = .ok (.iload_n 2, 1) := by decide +kernel
theorem dX2_liveIn_32 : decode cX2_liveIn 32 = .ok (.ireturn, 1) := by decide +kernel
theorem dX2_update_0 : decode cX2_update 0 = .ok (.aload_n 0, 1) := by decide +kernel
theorem dX2_update_1 : decode cX2_update 1 = .ok (.aload_n 0, 1) := by decide +kernel
theorem dX2_update_2 : decode cX2_update 2 = .ok (.getfield 40, 3) := by decide +kernel
theorem dX2_update_5 : decode cX2_update 5 = .ok (.invokevirtual 49, 3) := by decide +kernel
theorem dX2_update_8 : decode cX2_update 8 = .ok (.aload_n 0, 1) := by decide +kernel
theorem dX2_update_9 : decode cX2_update 9 = .ok (.getfield 36, 3) := by decide +kernel
theorem dX2_update_12 : decode cX2_update 12 = .ok (.istore_n 2, 1) := by decide +kernel
theorem dX2_update_13 : decode cX2_update 13 = .ok (.iload_n 2, 1) := by decide +kernel
theorem dX2_update_14 : decode cX2_update 14 = .ok (.bipush 100, 2) := by decide +kernel
theorem dX2_update_16 : decode cX2_update 16 = .ok (.if_icmp .ge 44, 3) := by decide +kernel
theorem dX2_update_19 : decode cX2_update 19 = .ok (.aload_n 1, 1) := by decide +kernel
theorem dX2_update_20 : decode cX2_update 20 = .ok (.iload_n 2, 1) := by decide +kernel
theorem dX2_update_21 : decode cX2_update 21 = .ok (.iaload, 1) := by decide +kernel
theorem dX2_update_22 : decode cX2_update 22 = .ok (.aload_n 0, 1) := by decide +kernel
theorem dX2_update_23 : decode cX2_update 23 = .ok (.getfield 29, 3) := by decide +kernel
theorem dX2_update_26 : decode cX2_update 26 = .ok (.iload_n 2, 1) := by decide +kernel
theorem dX2_update_27 : decode cX2_update 27 = .ok (.iaload, 1) := by decide +kernel
theorem dX2_update_28 : decode cX2_update 28 = .ok (.if_icmp .eq 26, 3) := by decide +kernel
theorem dX2_update_31 : decode cX2_update 31 = .ok (.aload_n 0, 1) := by decide +kernel
theorem dX2_update_32 : decode cX2_update 32 = .ok (.iload_n 2, 1) := by decide +kernel
theorem dX2_update_33 : decode cX2_update 33 = .ok (.invokevirtual 53, 3) := by decide +kernel
theorem dX2_update_36 : decode cX2_update 36 = .ok (.aload_n 0, 1) := by decide +kernel
theorem dX2_update_37 : decode cX2_update 37 = .ok (.getfield 29, 3) := by decide +kernel
theorem dX2_update_40 : decode cX2_update 40 = .ok (.iload_n 2, 1) := by decide +kernel
theorem dX2_update_41 : decode cX2_update 41 = .ok (.aload_n 1, 1) := by decide +kernel
theorem dX2_update_42 : decode cX2_update 42 = .ok (.iload_n 2, 1) := by decide +kernel
theorem dX2_update_43 : decode cX2_update 43 = .ok (.iaload, 1) := by decide +kernel
theorem dX2_update_44 : decode cX2_update 44 = .ok (.iastore, 1) := by decide +kernel
theorem dX2_update_45 : decode cX2_update 45 = .ok (.aload_n 0, 1) := by decide +kernel
theorem dX2_update_46 : decode cX2_update 46 = .ok (.aload_n 0, 1) := by decide +kernel
theorem dX2_update_47 : decode cX2_update 47 = .ok (.getfield 40, 3) := by decide +kernel
theorem dX2_update_50 : decode cX2_update 50 = .ok (.iload_n 2, 1) := by decide +kernel
theorem dX2_update_51 : decode cX2_update 51 = .ok (.invokevirtual 56, 3) := by decide +kernel
theorem dX2_update_54 : decode cX2_update 54 = .ok (.iinc 2 1, 3) := by decide +kernel
theorem dX2_update_57 : decode cX2_update 57 = .ok (.goto (-44), 3) := by decide +kernel
theorem dX2_update_60 : decode cX2_update 60 = .ok (.aload_n 0, 1) := by decide +kernel
theorem dX2_update_61 : decode cX2_update 61 = .ok (.getfield 22, 3) := by decide +kernel
theorem dX2_update_64 : decode cX2_update 64 = .ok (.aload_n 0, 1) := by decide +kernel
theorem dX2_update_65 : decode cX2_update 65 = .ok (.getfield 40, 3) := by decide +kernel
theorem dX2_update_68 : decode cX2_update 68 = .ok (.iaload, 1) := by decide +kernel
theorem dX2_update_69 : decode cX2_update 69 = .ok (.ifCond .le 13, 3) := by decide +kernel
theorem dX2_update_72 : decode cX2_update 72 = .ok (.aload_n 0, 1) := by decide +kernel
theorem dX2_update_73 : decode cX2_update 73 = .ok (.dup, 1) := by decide +kernel
theorem dX2_update_74 : decode cX2_update 74 = .ok (.getfield 40, 3) := by decide +kernel
theorem dX2_update_77 : decode cX2_update 77 = .ok (.iconst 1, 1) := by decide +kernel
theorem dX2_update_78 : decode cX2_update 78 = .ok (.iadd, 1) := by decide +kernel
theorem dX2_update_79 : decode cX2_update 79 = .ok (.putfield 40, 3) := by decide +kernel
theorem dX2_update_82 : decode cX2_update 82 = .ok (.aload_n 0, 1) := by decide +kernel
theorem dX2_update_83 : decode cX2_update 83 = .ok (.getfield 40, 3) := by decide +kernel
theorem dX2_update_86 : decode cX2_update 86 = .ok (.iconst 4, 1) := by decide +kernel
theorem dX2_update_87 : decode cX2_update 87 = .ok (.if_icmp .le 36, 3) := by decide +kernel
theorem dX2_update_90 : decode cX2_update 90 = .ok (.aload_n 0, 1) := by decide +kernel
theorem dX2_update_91 : decode cX2_update 91 = .ok (.iconst 0, 1) := by decide +kernel
theorem dX2_update_92 : decode cX2_update 92 = .ok (.invokevirtual 49, 3) := by decide +kernel
theorem dX2_update_95 : decode cX2_update 95 = .ok (.aload_n 0, 1) := by decide +kernel
theorem dX2_update_96 : decode cX2_update 96 = .ok (.getfield 36, 3) := by decide +kernel
theorem dX2_update_99 : decode cX2_update 99 = .ok (.istore_n 2, 1) := by decide +kernel
theorem dX2_update_100 : decode cX2_update 100 = .ok (.iload_n 2, 1) := by decide +kernel
theorem dX2_update_101 : decode cX2_update 101 = .ok (.bipush 100, 2) := by decide +kernel
theorem dX2_update_103 : decode cX2_update 103 = .ok (.if_icmp .ge 15, 3) := by decide +kernel
theorem dX2_update_106 : decode cX2_update 106 = .ok (.aload_n 0, 1) := by decide +kernel
theorem dX2_update_107 : decode cX2_update 107 = .ok (.iconst 0, 1) := by decide +kernel
theorem dX2_update_108 : decode cX2_update 108 = .ok (.iload_n 2, 1) := by decide +kernel
theorem dX2_update_109 : decode cX2_update 109 = .ok (.invokevirtual 56, 3) := by decide +kernel
theorem dX2_update_112 : decode cX2_update 112 = .ok (.iinc 2 1, 3) := by decide +kernel
theorem dX2_update_115 : decode cX2_update 115 = .ok (.goto (-15), 3) := by decide +kernel
theorem dX2_update_118 : decode cX2_update 118 = .ok (.aload_n 0, 1) := by decide +kernel
theorem dX2_update_119 : decode cX2_update 119 = .ok (.iconst 1, 1) := by decide +kernel
theorem dX2_update_120 : decode cX2_update 120 = .ok (.putfield 40, 3) := by decide +kernel
theorem dX2_update_123 : decode cX2_update 123 = .ok (.aload_n 0, 1) := by decide +kernel
theorem dX2_update_124 : decode cX2_update 124 = .ok (.invokevirtual 60, 3) := by decide +kernel
theorem dX2_update_127 : decode cX2_update 127 = .ok (.return_, 1) := by decide +kernel
theorem dX2_openSegment_0 : decode cX2_openSegment 0 = .ok (.aload_n 0, 1) := by decide +kernel
theorem dX2_openSegment_1 : decode cX2_openSegment 1 = .ok (.getfield 22, 3) := by decide +kernel
theorem dX2_openSegment_4 : decode cX2_openSegment 4 = .ok (.iload_n 1, 1) := by decide +kernel
theorem dX2_openSegment_5 : decode cX2_openSegment 5 = .ok (.iconst 0, 1) := by decide +kernel
theorem dX2_openSegment_6 : decode cX2_openSegment 6 = .ok (.iastore, 1) := by decide +kernel
theorem dX2_openSegment_7 : decode cX2_openSegment 7 = .ok (.aload_n 0, 1) := by decide +kernel
theorem dX2_openSegment_8 : decode cX2_openSegment 8 = .ok (.getfield 32, 3) := by decide +kernel
theorem dX2_openSegment_11 : decode cX2_openSegment 11 = .ok (.dup, 1) := by decide +kernel
theorem dX2_openSegment_12 : decode cX2_openSegment 12 = .ok (.getfield 63, 3) := by decide +kernel
theorem dX2_openSegment_15 : decode cX2_openSegment 15 = .ok (.iconst 1, 1) := by decide +kernel
theorem dX2_openSegment_16 : decode cX2_openSegment 16 = .ok (.iadd, 1) := by decide +kernel
theorem dX2_openSegment_17 : decode cX2_openSegment 17 = .ok (.putfield 63, 3) := by decide +kernel
theorem dX2_openSegment_20 : decode cX2_openSegment 20 = .ok (.aload_n 0, 1) := by decide +kernel
theorem dX2_openSegment_21 : decode cX2_openSegment 21 = .ok (.getfield 26, 3) := by decide +kernel
theorem dX2_openSegment_24 : decode cX2_openSegment 24 = .ok (.iload_n 1, 1) := by decide +kernel
theorem dX2_openSegment_25 : decode cX2_openSegment 25 = .ok (.aload_n 0, 1) := by decide +kernel
theorem dX2_openSegment_26 : decode cX2_openSegment 26 = .ok (.getfield 32, 3) := by decide +kernel
theorem dX2_openSegment_29 : decode cX2_openSegment 29 = .ok (.getfield 63, 3) := by decide +kernel
theorem dX2_openSegment_32 : decode cX2_openSegment 32 = .ok (.iastore, 1) := by decide +kernel
theorem dX2_openSegment_33 : decode cX2_openSegment 33 = .ok (.return_, 1) := by decide +kernel
theorem dX2_addTo_0 : decode cX2_addTo 0 = .ok (.aload_n 0, 1) := by decide +kernel
theorem dX2_addTo_1 : decode cX2_addTo 1 = .ok (.getfield 29, 3) := by decide +kernel
theorem dX2_addTo_4 : decode cX2_addTo 4 = .ok (.iload_n 2, 1) := by decide +kernel
theorem dX2_addTo_5 : decode cX2_addTo 5 = .ok (.iaload, 1) := by decide +kernel
theorem dX2_addTo_6 : decode cX2_addTo 6 = .ok (.iconst (-1), 1) := by decide +kernel
theorem dX2_addTo_7 : decode cX2_addTo 7 = .ok (.if_icmp .eq 71, 3) := by decide +kernel
theorem dX2_addTo_10 : decode cX2_addTo 10 = .ok (.aload_n 0, 1) := by decide +kernel
theorem dX2_addTo_11 : decode cX2_addTo 11 = .ok (.getfield 22, 3) := by decide +kernel
theorem dX2_addTo_14 : decode cX2_addTo 14 = .ok (.iload_n 1, 1) := by decide +kernel
theorem dX2_addTo_15 : decode cX2_addTo 15 = .ok (.iaload, 1) := by decide +kernel
theorem dX2_addTo_16 : decode cX2_addTo 16 = .ok (.bipush 100, 2) := by decide +kernel
theorem dX2_addTo_18 : decode cX2_addTo 18 = .ok (.if_icmp .ge 60, 3) := by decide +kernel
theorem dX2_addTo_21 : decode cX2_addTo 21 = .ok (.aload_n 0, 1) := by decide +kernel
theorem dX2_addTo_22 : decode cX2_addTo 22 = .ok (.getfield 11, 3) := by decide +kernel
theorem dX2_addTo_25 : decode cX2_addTo 25 = .ok (.iload_n 1, 1) := by decide +kernel
theorem dX2_addTo_26 : decode cX2_addTo 26 = .ok (.aaload, 1) := by decide +kernel
theorem dX2_addTo_27 : decode cX2_addTo 27 = .ok (.aload_n 0, 1) := by decide +kernel
theorem dX2_addTo_28 : decode cX2_addTo 28 = .ok (.getfield 22, 3) := by decide +kernel
theorem dX2_addTo_31 : decode cX2_addTo 31 = .ok (.iload_n 1, 1) := by decide +kernel
theorem dX2_addTo_32 : decode cX2_addTo 32 = .ok (.iaload, 1) := by decide +kernel
theorem dX2_addTo_33 : decode cX2_addTo 33 = .ok (.iload_n 2, 1) := by decide +kernel
theorem dX2_addTo_34 : decode cX2_addTo 34 = .ok (.iastore, 1) := by decide +kernel
theorem dX2_addTo_35 : decode cX2_addTo 35 = .ok (.aload_n 0, 1) := by decide +kernel
theorem dX2_addTo_36 : decode cX2_addTo 36 = .ok (.getfield 16, 3) := by decide +kernel
theorem dX2_addTo_39 : decode cX2_addTo 39 = .ok (.iload_n 1, 1) := by decide +kernel
theorem dX2_addTo_40 : decode cX2_addTo 40 = .ok (.aaload, 1) := by decide +kernel
theorem dX2_addTo_41 : decode cX2_addTo 41 = .ok (.aload_n 0, 1) := by decide +kernel
theorem dX2_addTo_42 : decode cX2_addTo 42 = .ok (.getfield 22, 3) := by decide +kernel
theorem dX2_addTo_45 : decode cX2_addTo 45 = .ok (.iload_n 1, 1) := by decide +kernel
theorem dX2_addTo_46 : decode cX2_addTo 46 = .ok (.iaload, 1) := by decide +kernel
theorem dX2_addTo_47 : decode cX2_addTo 47 = .ok (.aload_n 0, 1) := by decide +kernel
theorem dX2_addTo_48 : decode cX2_addTo 48 = .ok (.getfield 29, 3) := by decide +kernel
theorem dX2_addTo_51 : decode cX2_addTo 51 = .ok (.iload_n 2, 1) := by decide +kernel
theorem dX2_addTo_52 : decode cX2_addTo 52 = .ok (.iaload, 1) := by decide +kernel
theorem dX2_addTo_53 : decode cX2_addTo 53 = .ok (.iastore, 1) := by decide +kernel
theorem dX2_addTo_54 : decode cX2_addTo 54 = .ok (.aload_n 0, 1) := by decide +kernel
theorem dX2_addTo_55 : decode cX2_addTo 55 = .ok (.getfield 19, 3) := by decide +kernel
theorem dX2_addTo_58 : decode cX2_addTo 58 = .ok (.iload_n 1, 1) := by decide +kernel
theorem dX2_addTo_59 : decode cX2_addTo 59 = .ok (.aaload, 1) := by decide +kernel
theorem dX2_addTo_60 : decode cX2_addTo 60 = .ok (.aload_n 0, 1) := by decide +kernel
theorem dX2_addTo_61 : decode cX2_addTo 61 = .ok (.getfield 22, 3) := by decide +kernel
theorem dX2_addTo_64 : decode cX2_addTo 64 = .ok (.iload_n 1, 1) := by decide +kernel
theorem dX2_addTo_65 : decode cX2_addTo 65 = .ok (.iaload, 1) := by decide +kernel
theorem dX2_addTo_66 : decode cX2_addTo 66 = .ok (.iconst 1, 1) := by decide +kernel
theorem dX2_addTo_67 : decode cX2_addTo 67 = .ok (.iastore, 1) := by decide +kernel
theorem dX2_addTo_68 : decode cX2_addTo 68 = .ok (.aload_n 0, 1) := by decide +kernel
theorem dX2_addTo_69 : decode cX2_addTo 69 = .ok (.getfield 22, 3) := by decide +kernel
theorem dX2_addTo_72 : decode cX2_addTo 72 = .ok (.iload_n 1, 1) := by decide +kernel
theorem dX2_addTo_73 : decode cX2_addTo 73 = .ok (.dup2, 1) := by decide +kernel
theorem dX2_addTo_74 : decode cX2_addTo 74 = .ok (.iaload, 1) := by decide +kernel
theorem dX2_addTo_75 : decode cX2_addTo 75 = .ok (.iconst 1, 1) := by decide +kernel
theorem dX2_addTo_76 : decode cX2_addTo 76 = .ok (.iadd, 1) := by decide +kernel
theorem dX2_addTo_77 : decode cX2_addTo 77 = .ok (.iastore, 1) := by decide +kernel
theorem dX2_addTo_78 : decode cX2_addTo 78 = .ok (.return_, 1) := by decide +kernel
theorem dX2_unlive_0 : decode cX2_unlive 0 = .ok (.iconst 0, 1) := by decide +kernel
theorem dX2_unlive_1 : decode cX2_unlive 1 = .ok (.istore_n 2, 1) := by decide +kernel
theorem dX2_unlive_2 : decode cX2_unlive 2 = .ok (.iload_n 2, 1) := by decide +kernel
theorem dX2_unlive_3 : decode cX2_unlive 3 = .ok (.aload_n 0, 1) := by decide +kernel
theorem dX2_unlive_4 : decode cX2_unlive 4 = .ok (.getfield 40, 3) := by decide +kernel
theorem dX2_unlive_7 : decode cX2_unlive 7 = .ok (.if_icmp .ge 48, 3) := by decide +kernel
theorem dX2_unlive_10 : decode cX2_unlive 10 = .ok (.iconst 0, 1) := by decide +kernel
theorem dX2_unlive_11 : decode cX2_unlive 11 = .ok (.istore_n 3, 1) := by decide +kernel
theorem dX2_unlive_12 : decode cX2_unlive 12 = .ok (.iload_n 3, 1) := by decide +kernel
theorem dX2_unlive_13 : decode cX2_unlive 13 = .ok (.aload_n 0, 1) := by decide +kernel
theorem dX2_unlive_14 : decode cX2_unlive 14 = .ok (.getfield 22, 3) := by decide +kernel
theorem dX2_unlive_17 : decode cX2_unlive 17 = .ok (.iload_n 2, 1) := by decide +kernel
theorem dX2_unlive_18 : decode cX2_unlive 18 = .ok (.iaload, 1) := by decide +kernel
theorem dX2_unlive_19 : decode cX2_unlive 19 = .ok (.if_icmp .ge 30, 3) := by decide +kernel
theorem dX2_unlive_22 : decode cX2_unlive 22 = .ok (.aload_n 0, 1) := by decide +kernel
theorem dX2_unlive_23 : decode cX2_unlive 23 = .ok (.getfield 11, 3) := by decide +kernel
theorem dX2_unlive_26 : decode cX2_unlive 26 = .ok (.iload_n 2, 1) := by decide +kernel
theorem dX2_unlive_27 : decode cX2_unlive 27 = .ok (.aaload, 1) := by decide +kernel
theorem dX2_unlive_28 : decode cX2_unlive 28 = .ok (.iload_n 3, 1) := by decide +kernel
theorem dX2_unlive_29 : decode cX2_unlive 29 = .ok (.iaload, 1) := by decide +kernel
theorem dX2_unlive_30 : decode cX2_unlive 30 = .ok (.iload_n 1, 1) := by decide +kernel
theorem dX2_unlive_31 : decode cX2_unlive 31 = .ok (.if_icmp .ne 12, 3) := by decide +kernel
theorem dX2_unlive_34 : decode cX2_unlive 34 = .ok (.aload_n 0, 1) := by decide +kernel
theorem dX2_unlive_35 : decode cX2_unlive 35 = .ok (.getfield 19, 3) := by decide +kernel
theorem dX2_unlive_38 : decode cX2_unlive 38 = .ok (.iload_n 2, 1) := by decide +kernel
theorem dX2_unlive_39 : decode cX2_unlive 39 = .ok (.aaload, 1) := by decide +kernel
theorem dX2_unlive_40 : decode cX2_unlive 40 = .ok (.iload_n 3, 1) := by decide +kernel
theorem dX2_unlive_41 : decode cX2_unlive 41 = .ok (.iconst 0, 1) := by decide +kernel
theorem dX2_unlive_42 : decode cX2_unlive 42 = .ok (.iastore, 1) := by decide +kernel
theorem dX2_unlive_43 : decode cX2_unlive 43 = .ok (.iinc 3 1, 3) := by decide +kernel
theorem dX2_unlive_46 : decode cX2_unlive 46 = .ok (.goto (-34), 3) := by decide +kernel
theorem dX2_unlive_49 : decode cX2_unlive 49 = .ok (.iinc 2 1, 3) := by decide +kernel
theorem dX2_unlive_52 : decode cX2_unlive 52 = .ok (.goto (-50), 3) := by decide +kernel
theorem dX2_unlive_55 : decode cX2_unlive 55 = .ok (.return_, 1) := by decide +kernel
theorem dX2_leaveOutDead_0 : decode cX2_leaveOutDead 0 = .ok (.iconst 0, 1) := by decide +kernel
theorem dX2_leaveOutDead_1 : decode cX2_leaveOutDead 1 = .ok (.istore_n 1, 1) := by decide +kernel
theorem dX2_leaveOutDead_2 : decode cX2_leaveOutDead 2 = .ok (.iconst 0, 1) := by decide +kernel
theorem dX2_leaveOutDead_3 : decode cX2_leaveOutDead 3 = .ok (.istore_n 2, 1) := by decide +kernel
theorem dX2_leaveOutDead_4 : decode cX2_leaveOutDead 4 = .ok (.iload_n 2, 1) := by decide +kernel
theorem dX2_leaveOutDead_5 : decode cX2_leaveOutDead 5 = .ok (.aload_n 0, 1) := by decide +kernel
theorem dX2_leaveOutDead_6 : decode cX2_leaveOutDead 6 = .ok (.getfield 40, 3) := by decide +kernel
theorem dX2_leaveOutDead_9 : decode cX2_leaveOutDead 9 = .ok (.if_icmp .ge 26, 3) := by decide +kernel
theorem dX2_leaveOutDead_12 : decode cX2_leaveOutDead 12 = .ok (.aload_n 0, 1) := by decide +kernel
theorem dX2_leaveOutDead_13 : decode cX2_leaveOutDead 13 = .ok (.iload_n 2, 1) := by decide +kernel
theorem dX2_leaveOutDead_14 : decode cX2_leaveOutDead 14 = .ok (.invokevirtual 67, 3) := by decide +kernel
theorem dX2_leaveOutDead_17 : decode cX2_leaveOutDead 17 = .ok (.ifCond .le 12, 3) := by decide +kernel
theorem dX2_leaveOutDead_20 : decode cX2_leaveOutDead 20 = .ok (.aload_n 0, 1) := by decide +kernel
theorem dX2_leaveOutDead_21 : decode cX2_leaveOutDead 21 = .ok (.iload_n 1, 1) := by decide +kernel
theorem dX2_leaveOutDead_22 : decode cX2_leaveOutDead 22 = .ok (.iload_n 2, 1) := by decide +kernel
theorem dX2_leaveOutDead_23 : decode cX2_leaveOutDead 23 = .ok (.invokevirtual 71, 3) := by decide +kernel
theorem dX2_leaveOutDead_26 : decode cX2_leaveOutDead 26 = .ok (.iinc 1 1, 3) := by decide +kernel
theorem dX2_leaveOutDead_29 : decode cX2_leaveOutDead 29 = .ok (.iinc 2 1, 3) := by decide +kernel
theorem dX2_leaveOutDead_32 : decode cX2_leaveOutDead 32 = .ok (.goto (-28), 3) := by decide +kernel
theorem dX2_leaveOutDead_35 : decode cX2_leaveOutDead 35 = .ok (.aload_n 0, 1) := by decide +kernel
theorem dX2_leaveOutDead_36 : decode cX2_leaveOutDead 36 = .ok (.iload_n 1, 1) := by decide +kernel
theorem dX2_leaveOutDead_37 : decode cX2_leaveOutDead 37 = .ok (.putfield 40, 3) := by decide +kernel
theorem dX2_leaveOutDead_40 : decode cX2_leaveOutDead 40 = .ok (.return_, 1) := by decide +kernel
theorem dX2_exchange_0 : decode cX2_exchange 0 = .ok (.aload_n 0, 1) := by decide +kernel
theorem dX2_exchange_1 : decode cX2_exchange 1 = .ok (.getfield 11, 3) := by decide +kernel
theorem dX2_exchange_4 : decode cX2_exchange 4 = .ok (.iload_n 1, 1) := by decide +kernel
theorem dX2_exchange_5 : decode cX2_exchange 5 = .ok (.aaload, 1) := by decide +kernel
theorem dX2_exchange_6 : decode cX2_exchange 6 = .ok (.astore_n 3, 1) := by decide +kernel
theorem dX2_exchange_7 : decode cX2_exchange 7 = .ok (.aload_n 0, 1) := by decide +kernel
theorem dX2_exchange_8 : decode cX2_exchange 8 = .ok (.getfield 11, 3) := by decide +kernel
theorem dX2_exchange_11 : decode cX2_exchange 11 = .ok (.iload_n 1, 1) := by decide +kernel
theorem dX2_exchange_12 : decode cX2_exchange 12 = .ok (.aload_n 0, 1) := by decide +kernel
theorem dX2_exchange_13 : decode cX2_exchange 13 = .ok (.getfield 11, 3) := by decide +kernel
theorem dX2_exchange_16 : decode cX2_exchange 16 = .ok (.iload_n 2, 1) := by decide +kernel
theorem dX2_exchange_17 : decode cX2_exchange 17 = .ok (.aaload, 1) := by decide +kernel
theorem dX2_exchange_18 : decode cX2_exchange 18 = .ok (.aastore, 1) := by decide +kernel
theorem dX2_exchange_19 : decode cX2_exchange 19 = .ok (.aload_n 0, 1) := by decide +kernel
theorem dX2_exchange_20 : decode cX2_exchange 20 = .ok (.getfield 11, 3) := by decide +kernel
theorem dX2_exchange_23 : decode cX2_exchange 23 = .ok (.iload_n 2, 1) := by decide +kernel
theorem dX2_exchange_24 : decode cX2_exchange 24 = .ok (.aload_n 3, 1) := by decide +kernel
theorem dX2_exchange_25 : decode cX2_exchange 25 = .ok (.aastore, 1) := by decide +kernel
theorem dX2_exchange_26 : decode cX2_exchange 26 = .ok (.aload_n 0, 1) := by decide +kernel
theorem dX2_exchange_27 : decode cX2_exchange 27 = .ok (.getfield 16, 3) := by decide +kernel
theorem dX2_exchange_30 : decode cX2_exchange 30 = .ok (.iload_n 1, 1) := by decide +kernel
theorem dX2_exchange_31 : decode cX2_exchange 31 = .ok (.aaload, 1) := by decide +kernel
theorem dX2_exchange_32 : decode cX2_exchange 32 = .ok (.astore_n 3, 1) := by decide +kernel
theorem dX2_exchange_33 : decode cX2_exchange 33 = .ok (.aload_n 0, 1) := by decide +kernel
theorem dX2_exchange_34 : decode cX2_exchange 34 = .ok (.getfield 16, 3) := by decide +kernel
theorem dX2_exchange_37 : decode cX2_exchange 37 = .ok (.iload_n 1, 1) := by decide +kernel
theorem dX2_exchange_38 : decode cX2_exchange 38 = .ok (.aload_n 0, 1) := by decide +kernel
theorem dX2_exchange_39 : decode cX2_exchange 39 = .ok (.getfield 16, 3) := by decide +kernel
theorem dX2_exchange_42 : decode cX2_exchange 42 = .ok (.iload_n 2, 1) := by decide +kernel
theorem dX2_exchange_43 : decode cX2_exchange 43 = .ok (.aaload, 1) := by decide +kernel
theorem dX2_exchange_44 : decode cX2_exchange 44 = .ok (.aastore, 1) := by decide +kernel
theorem dX2_exchange_45 : decode cX2_exchange 45 = .ok (.aload_n 0, 1) := by decide +kernel
theorem dX2_exchange_46 : decode cX2_exchange 46 = .ok (.getfield 16, 3) := by decide +kernel
theorem dX2_exchange_49 : decode cX2_exchange 49 = .ok (.iload_n 2, 1) := by decide +kernel
theorem dX2_exchange_50 : decode cX2_exchange 50 = .ok (.aload_n 3, 1) := by decide +kernel
theorem dX2_exchange_51 : decode cX2_exchange 51 = .ok (.aastore, 1) := by decide +kernel
theorem dX2_exchange_52 : decode cX2_exchange 52 = .ok (.aload_n 0, 1) := by decide +kernel
theorem dX2_exchange_53 : decode cX2_exchange 53 = .ok (.getfield 19, 3) := by decide +kernel
theorem dX2_exchange_56 : decode cX2_exchange 56 = .ok (.iload_n 1, 1) := by decide +kernel
theorem dX2_exchange_57 : decode cX2_exchange 57 = .ok (.aaload, 1) := by decide +kernel
theorem dX2_exchange_58 : decode cX2_exchange 58 = .ok (.astore_n 3, 1) := by decide +kernel
theorem dX2_exchange_59 : decode cX2_exchange 59 = .ok (.aload_n 0, 1) := by decide +kernel
theorem dX2_exchange_60 : decode cX2_exchange 60 = .ok (.getfield 19, 3) := by decide +kernel
theorem dX2_exchange_63 : decode cX2_exchange 63 = .ok (.iload_n 1, 1) := by decide +kernel
theorem dX2_exchange_64 : decode cX2_exchange 64 = .ok (.aload_n 0, 1) := by decide +kernel
theorem dX2_exchange_65 : decode cX2_exchange 65 = .ok (.getfield 19, 3) := by decide +kernel
theorem dX2_exchange_68 : decode cX2_exchange 68 = .ok (.iload_n 2, 1) := by decide +kernel
theorem dX2_exchange_69 : decode cX2_exchange 69 = .ok (.aaload, 1) := by decide +kernel
theorem dX2_exchange_70 : decode cX2_exchange 70 = .ok (.aastore, 1) := by decide +kernel
theorem dX2_exchange_71 : decode cX2_exchange 71 = .ok (.aload_n 0, 1) := by decide +kernel
theorem dX2_exchange_72 : decode cX2_exchange 72 = .ok (.getfield 19, 3) := by decide +kernel
theorem dX2_exchange_75 : decode cX2_exchange 75 = .ok (.iload_n 2, 1) := by decide +kernel
theorem dX2_exchange_76 : decode cX2_exchange 76 = .ok (.aload_n 3, 1) := by decide +kernel
theorem dX2_exchange_77 : decode cX2_exchange 77 = .ok (.aastore, 1) := by decide +kernel
theorem dX2_exchange_78 : decode cX2_exchange 78 = .ok (.aload_n 0, 1) := by decide +kernel
theorem dX2_exchange_79 : decode cX2_exchange 79 = .ok (.getfield 22, 3) := by decide +kernel
theorem dX2_exchange_82 : decode cX2_exchange 82 = .ok (.iload_n 1, 1) := by decide +kernel
theorem dX2_exchange_83 : decode cX2_exchange 83 = .ok (.iaload, 1) := by decide +kernel
theorem dX2_exchange_84 : decode cX2_exchange 84 = .ok (.istore 4, 2) := by decide +kernel
theorem dX2_exchange_86 : decode cX2_exchange 86 = .ok (.aload_n 0, 1) := by decide +kernel
theorem dX2_exchange_87 : decode cX2_exchange 87 = .ok (.getfield 22, 3) := by decide +kernel
theorem dX2_exchange_90 : decode cX2_exchange 90 = .ok (.iload_n 1, 1) := by decide +kernel
theorem dX2_exchange_91 : decode cX2_exchange 91 = .ok (.aload_n 0, 1) := by decide +kernel
theorem dX2_exchange_92 : decode cX2_exchange 92 = .ok (.getfield 22, 3) := by decide +kernel
theorem dX2_exchange_95 : decode cX2_exchange 95 = .ok (.iload_n 2, 1) := by decide +kernel
theorem dX2_exchange_96 : decode cX2_exchange 96 = .ok (.iaload, 1) := by decide +kernel
theorem dX2_exchange_97 : decode cX2_exchange 97 = .ok (.iastore, 1) := by decide +kernel
theorem dX2_exchange_98 : decode cX2_exchange 98 = .ok (.aload_n 0, 1) := by decide +kernel
theorem dX2_exchange_99 : decode cX2_exchange 99 = .ok (.getfield 22, 3) := by decide +kernel
theorem dX2_exchange_102 : decode cX2_exchange 102 = .ok (.iload_n 2, 1) := by decide +kernel
theorem dX2_exchange_103 : decode cX2_exchange 103 = .ok (.iload 4, 2) := by decide +kernel
theorem dX2_exchange_105 : decode cX2_exchange 105 = .ok (.iastore, 1) := by decide +kernel
theorem dX2_exchange_106 : decode cX2_exchange 106 = .ok (.aload_n 0, 1) := by decide +kernel
theorem dX2_exchange_107 : decode cX2_exchange 107 = .ok (.getfield 26, 3) := by decide +kernel
theorem dX2_exchange_110 : decode cX2_exchange 110 = .ok (.iload_n 1, 1) := by decide +kernel
theorem dX2_exchange_111 : decode cX2_exchange 111 = .ok (.iaload, 1) := by decide +kernel
theorem dX2_exchange_112 : decode cX2_exchange 112 = .ok (.istore 4, 2) := by decide +kernel
theorem dX2_exchange_114 : decode cX2_exchange 114 = .ok (.aload_n 0, 1) := by decide +kernel
theorem dX2_exchange_115 : decode cX2_exchange 115 = .ok (.getfield 26, 3) := by decide +kernel
theorem dX2_exchange_118 : decode cX2_exchange 118 = .ok (.iload_n 1, 1) := by decide +kernel
theorem dX2_exchange_119 : decode cX2_exchange 119 = .ok (.aload_n 0, 1) := by decide +kernel
theorem dX2_exchange_120 : decode cX2_exchange 120 = .ok (.getfield 26, 3) := by decide +kernel
theorem dX2_exchange_123 : decode cX2_exchange 123 = .ok (.iload_n 2, 1) := by decide +kernel
theorem dX2_exchange_124 : decode cX2_exchange 124 = .ok (.iaload, 1) := by decide +kernel
theorem dX2_exchange_125 : decode cX2_exchange 125 = .ok (.iastore, 1) := by decide +kernel
theorem dX2_exchange_126 : decode cX2_exchange 126 = .ok (.aload_n 0, 1) := by decide +kernel
theorem dX2_exchange_127 : decode cX2_exchange 127 = .ok (.getfield 26, 3) := by decide +kernel
theorem dX2_exchange_130 : decode cX2_exchange 130 = .ok (.iload_n 2, 1) := by decide +kernel
theorem dX2_exchange_131 : decode cX2_exchange 131 = .ok (.iload 4, 2) := by decide +kernel
theorem dX2_exchange_133 : decode cX2_exchange 133 = .ok (.iastore, 1) := by decide +kernel
theorem dX2_exchange_134 : decode cX2_exchange 134 = .ok (.return_, 1) := by decide +kernel
theorem dX3_init_0 : decode cX3_init 0 = .ok (.aload_n 0, 1) := by decide +kernel
theorem dX3_init_1 : decode cX3_init 1 = .ok (.invokespecial 3, 3) := by decide +kernel
theorem dX3_init_4 : decode cX3_init 4 = .ok (.aload_n 0, 1) := by decide +kernel
theorem dX3_init_5 : decode cX3_init 5 = .ok (.iconst 4, 1) := by decide +kernel
theorem dX3_init_6 : decode cX3_init 6 = .ok (.iconst 4, 1) := by decide +kernel
theorem dX3_init_7 : decode cX3_init 7 = .ok (.multianewarray 9 2, 4) := by decide +kernel
theorem dX3_init_11 : decode cX3_init 11 = .ok (.putfield 11, 3) := by decide +kernel
theorem dX3_init_14 : decode cX3_init 14 = .ok (.aload_n 0, 1) := by decide +kernel
theorem dX3_init_15 : decode cX3_init 15 = .ok (.iconst 5, 1) := by decide +kernel
theorem dX3_init_16 : decode cX3_init 16 = .ok (.newarray .boolean, 2) := by decide +kernel
theorem dX3_init_18 : decode cX3_init 18 = .ok (.putfield 16, 3) := by decide +kernel
theorem dX3_init_21 : decode cX3_init 21 = .ok (.aload_n 0, 1) := by decide +kernel
theorem dX3_init_22 : decode cX3_init 22 = .ok (.iconst 5, 1) := by decide +kernel
theorem dX3_init_23 : decode cX3_init 23 = .ok (.newarray .int, 2) := by decide +kernel
theorem dX3_init_25 : decode cX3_init 25 = .ok (.putfield 20, 3) := by decide +kernel
theorem dX3_init_28 : decode cX3_init 28 = .ok (.aload_n 0, 1) := by decide +kernel
theorem dX3_init_29 : decode cX3_init 29 = .ok (.aload_n 1, 1) := by decide +kernel
theorem dX3_init_30 : decode cX3_init 30 = .ok (.putfield 24, 3) := by decide +kernel
theorem dX3_init_33 : decode cX3_init 33 = .ok (.aload_n 0, 1) := by decide +kernel
theorem dX3_init_34 : decode cX3_init 34 = .ok (.new 28, 3) := by decide +kernel
theorem dX3_init_37 : decode cX3_init 37 = .ok (.dup, 1) := by decide +kernel
theorem dX3_init_38 : decode cX3_init 38 = .ok (.aload_n 1, 1) := by decide +kernel
theorem dX3_init_39 : decode cX3_init 39 = .ok (.invokespecial 30, 3) := by decide +kernel
theorem dX3_init_42 : decode cX3_init 42 = .ok (.putfield 33, 3) := by decide +kernel
theorem dX3_init_45 : decode cX3_init 45 = .ok (.return_, 1) := by decide +kernel
theorem dX3_begin_0 : decode cX3_begin 0 = .ok (.iconst 0, 1) := by decide +kernel
theorem dX3_begin_1 : decode cX3_begin 1 = .ok (.istore_n 2, 1) := by decide +kernel
theorem dX3_begin_2 : decode cX3_begin 2 = .ok (.iload_n 2, 1) := by decide +kernel
theorem dX3_begin_3 : decode cX3_begin 3 = .ok (.iconst 4, 1) := by decide +kernel
theorem dX3_begin_4 : decode cX3_begin 4 = .ok (.if_icmp .ge 59, 3) := by decide +kernel
theorem dX3_begin_7 : decode cX3_begin 7 = .ok (.aload_n 0, 1) := by decide +kernel
theorem dX3_begin_8 : decode cX3_begin 8 = .ok (.getfield 11, 3) := by decide +kernel
theorem dX3_begin_11 : decode cX3_begin 11 = .ok (.iload_n 2, 1) := by decide +kernel
theorem dX3_begin_12 : decode cX3_begin 12 = .ok (.aaload, 1) := by decide +kernel
theorem dX3_begin_13 : decode cX3_begin 13 = .ok (.iconst 0, 1) := by decide +kernel
theorem dX3_begin_14 : decode cX3_begin 14 = .ok (.iconst 1, 1) := by decide +kernel
theorem dX3_begin_15 : decode cX3_begin 15 = .ok (.iastore, 1) := by decide +kernel
theorem dX3_begin_16 : decode cX3_begin 16 = .ok (.aload_n 0, 1) := by decide +kernel
theorem dX3_begin_17 : decode cX3_begin 17 = .ok (.getfield 11, 3) := by decide +kernel
theorem dX3_begin_20 : decode cX3_begin 20 = .ok (.iload_n 2, 1) := by decide +kernel
theorem dX3_begin_21 : decode cX3_begin 21 = .ok (.aaload, 1) := by decide +kernel
theorem dX3_begin_22 : decode cX3_begin 22 = .ok (.iconst 1, 1) := by decide +kernel
theorem dX3_begin_23 : decode cX3_begin 23 = .ok (.aload_n 0, 1) := by decide +kernel
theorem dX3_begin_24 : decode cX3_begin 24 = .ok (.getfield 24, 3) := by decide +kernel
theorem dX3_begin_27 : decode cX3_begin 27 = .ok (.iload_n 2, 1) := by decide +kernel
theorem dX3_begin_28 : decode cX3_begin 28 = .ok (.invokevirtual 37, 3) := by decide +kernel
theorem dX3_begin_31 : decode cX3_begin 31 = .ok (.iastore, 1) := by decide +kernel
theorem dX3_begin_32 : decode cX3_begin 32 = .ok (.aload_n 0, 1) := by decide +kernel
theorem dX3_begin_33 : decode cX3_begin 33 = .ok (.getfield 11, 3) := by decide +kernel
theorem dX3_begin_36 : decode cX3_begin 36 = .ok (.iload_n 2, 1) := by decide +kernel
theorem dX3_begin_37 : decode cX3_begin 37 = .ok (.aaload, 1) := by decide +kernel
theorem dX3_begin_38 : decode cX3_begin 38 = .ok (.iconst 2, 1) := by decide +kernel
theorem dX3_begin_39 : decode cX3_begin 39 = .ok (.aload_n 0, 1) := by decide +kernel
theorem dX3_begin_40 : decode cX3_begin 40 = .ok (.getfield 24, 3) := by decide +kernel
theorem dX3_begin_43 : decode cX3_begin 43 = .ok (.iload_n 2, 1) := by decide +kernel
theorem dX3_begin_44 : decode cX3_begin 44 = .ok (.invokevirtual 43, 3) := by decide +kernel
theorem dX3_begin_47 : decode cX3_begin 47 = .ok (.iastore, 1) := by decide +kernel
theorem dX3_begin_48 : decode cX3_begin 48 = .ok (.aload_n 0, 1) := by decide +kernel
theorem dX3_begin_49 : decode cX3_begin 49 = .ok (.getfield 11, 3) := by decide +kernel
theorem dX3_begin_52 : decode cX3_begin 52 = .ok (.iload_n 2, 1) := by decide +kernel
theorem dX3_begin_53 : decode cX3_begin 53 = .ok (.aaload, 1) := by decide +kernel
theorem dX3_begin_54 : decode cX3_begin 54 = .ok (.iconst 3, 1) := by decide +kernel
theorem dX3_begin_55 : decode cX3_begin 55 = .ok (.iconst 1, 1) := by decide +kernel
theorem dX3_begin_56 : decode cX3_begin 56 = .ok (.iastore, 1) := by decide +kernel
theorem dX3_begin_57 : decode cX3_begin 57 = .ok (.iinc 2 1, 3) := by decide +kernel
theorem dX3_begin_60 : decode cX3_begin 60 = .ok (.goto (-58), 3) := by decide +kernel
theorem dX3_begin_63 : decode cX3_begin 63 = .ok (.aload_n 0, 1) := by decide +kernel
theorem dX3_begin_64 : decode cX3_begin 64 = .ok (.invokevirtual 46, 3) := by decide +kernel
theorem dX3_begin_67 : decode cX3_begin 67 = .ok (.aload_n 0, 1) := by decide +kernel
theorem dX3_begin_68 : decode cX3_begin 68 = .ok (.getfield 33, 3) := by decide +kernel
theorem dX3_begin_71 : decode cX3_begin 71 = .ok (.aload_n 1, 1) := by decide +kernel
theorem dX3_begin_72 : decode cX3_begin 72 = .ok (.invokevirtual 49, 3) := by decide +kernel
theorem dX3_begin_75 : decode cX3_begin 75 = .ok (.aload_n 0, 1) := by decide +kernel
theorem dX3_begin_76 : decode cX3_begin 76 = .ok (.invokevirtual 53, 3) := by decide +kernel
theorem dX3_begin_79 : decode cX3_begin 79 = .ok (.return_, 1) := by decide +kernel
theorem dX3_hearAll_0 : decode cX3_hearAll 0 = .ok (.iconst 0, 1) := by decide +kernel
theorem dX3_hearAll_1 : decode cX3_hearAll 1 = .ok (.istore_n 1, 1) := by decide +kernel
theorem dX3_hearAll_2 : decode cX3_hearAll 2 = .ok (.iload_n 1, 1) := by decide +kernel
theorem dX3_hearAll_3 : decode cX3_hearAll 3 = .ok (.iconst 5, 1) := by decide +kernel
theorem dX3_hearAll_4 : decode cX3_hearAll 4 = .ok (.if_icmp .ge 29, 3) := by decide +kernel
theorem dX3_hearAll_7 : decode cX3_hearAll 7 = .ok (.aload_n 0, 1) := by decide +kernel
theorem dX3_hearAll_8 : decode cX3_hearAll 8 = .ok (.getfield 16, 3) := by decide +kernel
theorem dX3_hearAll_11 : decode cX3_hearAll 11 = .ok (.iload_n 1, 1) := by decide +kernel
theorem dX3_hearAll_12 : decode cX3_hearAll 12 = .ok (.iconst 1, 1) := by decide +kernel
theorem dX3_hearAll_13 : decode cX3_hearAll 13 = .ok (.bastore, 1) := by decide +kernel
theorem dX3_hearAll_14 : decode cX3_hearAll 14 = .ok (.aload_n 0, 1) := by decide +kernel
theorem dX3_hearAll_15 : decode cX3_hearAll 15 = .ok (.getfield 20, 3) := by decide +kernel
theorem dX3_hearAll_18 : decode cX3_hearAll 18 = .ok (.iload_n 1, 1) := by decide +kernel
theorem dX3_hearAll_19 : decode cX3_hearAll 19 = .ok (.aload_n 0, 1) := by decide +kernel
theorem dX3_hearAll_20 : decode cX3_hearAll 20 = .ok (.getfield 24, 3) := by decide +kernel
theorem dX3_hearAll_23 : decode cX3_hearAll 23 = .ok (.getfield 56, 3) := by decide +kernel
theorem dX3_hearAll_26 : decode cX3_hearAll 26 = .ok (.iastore, 1) := by decide +kernel
theorem dX3_hearAll_27 : decode cX3_hearAll 27 = .ok (.iinc 1 1, 3) := by decide +kernel
theorem dX3_hearAll_30 : decode cX3_hearAll 30 = .ok (.goto (-28), 3) := by decide +kernel
theorem dX3_hearAll_33 : decode cX3_hearAll 33 = .ok (.return_, 1) := by decide +kernel
theorem dX3_flush_0 : decode cX3_flush 0 = .ok (.aload_n 0, 1) := by decide +kernel
theorem dX3_flush_1 : decode cX3_flush 1 = .ok (.getfield 33, 3) := by decide +kernel
theorem dX3_flush_4 : decode cX3_flush 4 = .ok (.invokevirtual 60, 3) := by decide +kernel
theorem dX3_flush_7 : decode cX3_flush 7 = .ok (.iconst 0, 1) := by decide +kernel
theorem dX3_flush_8 : decode cX3_flush 8 = .ok (.istore_n 1, 1) := by decide +kernel
theorem dX3_flush_9 : decode cX3_flush 9 = .ok (.iload_n 1, 1) := by decide +kernel
theorem dX3_flush_10 : decode cX3_flush 10 = .ok (.aload_n 0, 1) := by decide +kernel
theorem dX3_flush_11 : decode cX3_flush 11 = .ok (.getfield 24, 3) := by decide +kernel
theorem dX3_flush_14 : decode cX3_flush 14 = .ok (.getfield 63, 3) := by decide +kernel
theorem dX3_flush_17 : decode cX3_flush 17 = .ok (.if_icmp .ge 33, 3) := by decide +kernel
theorem dX3_flush_20 : decode cX3_flush 20 = .ok (.aload_n 0, 1) := by decide +kernel
theorem dX3_flush_21 : decode cX3_flush 21 = .ok (.getfield 11, 3) := by decide +kernel
theorem dX3_flush_24 : decode cX3_flush 24 = .ok (.iload_n 1, 1) := by decide +kernel
theorem dX3_flush_25 : decode cX3_flush 25 = .ok (.aaload, 1) := by decide +kernel
theorem dX3_flush_26 : decode cX3_flush 26 = .ok (.astore_n 2, 1) := by decide +kernel
theorem dX3_flush_27 : decode cX3_flush 27 = .ok (.aload_n 0, 1) := by decide +kernel
theorem dX3_flush_28 : decode cX3_flush 28 = .ok (.iload_n 1, 1) := by decide +kernel
theorem dX3_flush_29 : decode cX3_flush 29 = .ok (.aload_n 2, 1) := by decide +kernel
theorem dX3_flush_30 : decode cX3_flush 30 = .ok (.iconst 0, 1) := by decide +kernel
theorem dX3_flush_31 : decode cX3_flush 31 = .ok (.iaload, 1) := by decide +kernel
theorem dX3_flush_32 : decode cX3_flush 32 = .ok (.aload_n 2, 1) := by decide +kernel
theorem dX3_flush_33 : decode cX3_flush 33 = .ok (.iconst 1, 1) := by decide +kernel
theorem dX3_flush_34 : decode cX3_flush 34 = .ok (.iaload, 1) := by decide +kernel
theorem dX3_flush_35 : decode cX3_flush 35 = .ok (.aload_n 2, 1) := by decide +kernel
theorem dX3_flush_36 : decode cX3_flush 36 = .ok (.iconst 2, 1) := by decide +kernel
theorem dX3_flush_37 : decode cX3_flush 37 = .ok (.iaload, 1) := by decide +kernel
theorem dX3_flush_38 : decode cX3_flush 38 = .ok (.aload_n 2, 1) := by decide +kernel
theorem dX3_flush_39 : decode cX3_flush 39 = .ok (.iconst 3, 1) := by decide +kernel
theorem dX3_flush_40 : decode cX3_flush 40 = .ok (.iaload, 1) := by decide +kernel
theorem dX3_flush_41 : decode cX3_flush 41 = .ok (.invokevirtual 66, 3) := by decide +kernel
theorem dX3_flush_44 : decode cX3_flush 44 = .ok (.iinc 1 1, 3) := by decide +kernel
theorem dX3_flush_47 : decode cX3_flush 47 = .ok (.goto (-38), 3) := by decide +kernel
theorem dX3_flush_50 : decode cX3_flush 50 = .ok (.aload_n 0, 1) := by decide +kernel
theorem dX3_flush_51 : decode cX3_flush 51 = .ok (.getfield 33, 3) := by decide +kernel
theorem dX3_flush_54 : decode cX3_flush 54 = .ok (.invokevirtual 70, 3) := by decide +kernel
theorem dX3_flush_57 : decode cX3_flush 57 = .ok (.return_, 1) := by decide +kernel
theorem dX3_addView_0 : decode cX3_addView 0 = .ok (.aload_n 0, 1) := by decide +kernel
theorem dX3_addView_1 : decode cX3_addView 1 = .ok (.getfield 33, 3) := by decide +kernel
theorem dX3_addView_4 : decode cX3_addView 4 = .ok (.bipush 7, 2) := by decide +kernel
theorem dX3_addView_6 : decode cX3_addView 6 = .ok (.invokevirtual 73, 3) := by decide +kernel
theorem dX3_addView_9 : decode cX3_addView 9 = .ok (.aload_n 0, 1) := by decide +kernel
theorem dX3_addView_10 : decode cX3_addView 10 = .ok (.getfield 33, 3) := by decide +kernel
theorem dX3_addView_13 : decode cX3_addView 13 = .ok (.iload_n 1, 1) := by decide +kernel
theorem dX3_addView_14 : decode cX3_addView 14 = .ok (.invokevirtual 77, 3) := by decide +kernel
theorem dX3_addView_17 : decode cX3_addView 17 = .ok (.aload_n 0, 1) := by decide +kernel
theorem dX3_addView_18 : decode cX3_addView 18 = .ok (.getfield 33, 3) := by decide +kernel
theorem dX3_addView_21 : decode cX3_addView 21 = .ok (.iload_n 2, 1) := by decide +kernel
theorem dX3_addView_22 : decode cX3_addView 22 = .ok (.invokevirtual 80, 3) := by decide +kernel
theorem dX3_addView_25 : decode cX3_addView 25 = .ok (.aload_n 0, 1) := by decide +kernel
theorem dX3_addView_26 : decode cX3_addView 26 = .ok (.getfield 33, 3) := by decide +kernel
theorem dX3_addView_29 : decode cX3_addView 29 = .ok (.iload_n 3, 1) := by decide +kernel
theorem dX3_addView_30 : decode cX3_addView 30 = .ok (.invokevirtual 77, 3) := by decide +kernel
theorem dX3_addView_33 : decode cX3_addView 33 = .ok (.aload_n 0, 1) := by decide +kernel
theorem dX3_addView_34 : decode cX3_addView 34 = .ok (.getfield 33, 3) := by decide +kernel
theorem dX3_addView_37 : decode cX3_addView 37 = .ok (.iload 4, 2) := by decide +kernel
theorem dX3_addView_39 : decode cX3_addView 39 = .ok (.invokevirtual 77, 3) := by decide +kernel
theorem dX3_addView_42 : decode cX3_addView 42 = .ok (.aload_n 0, 1) := by decide +kernel
theorem dX3_addView_43 : decode cX3_addView 43 = .ok (.getfield 33, 3) := by decide +kernel
theorem dX3_addView_46 : decode cX3_addView 46 = .ok (.iload 5, 2) := by decide +kernel
theorem dX3_addView_48 : decode cX3_addView 48 = .ok (.invokevirtual 80, 3) := by decide +kernel
theorem dX3_addView_51 : decode cX3_addView 51 = .ok (.aload_n 0, 1) := by decide +kernel
theorem dX3_addView_52 : decode cX3_addView 52 = .ok (.getfield 33, 3) := by decide +kernel
theorem dX3_addView_55 : decode cX3_addView 55 = .ok (.invokevirtual 83, 3) := by decide +kernel
theorem dX3_addView_58 : decode cX3_addView 58 = .ok (.return_, 1) := by decide +kernel
theorem dX3_load_0 : decode cX3_load 0 = .ok (.aload_n 0, 1) := by decide +kernel
theorem dX3_load_1 : decode cX3_load 1 = .ok (.getfield 33, 3) := by decide +kernel
theorem dX3_load_4 : decode cX3_load 4 = .ok (.invokevirtual 86, 3) := by decide +kernel
theorem dX3_load_7 : decode cX3_load 7 = .ok (.iconst 0, 1) := by decide +kernel
theorem dX3_load_8 : decode cX3_load 8 = .ok (.istore_n 1, 1) := by decide +kernel
theorem dX3_load_9 : decode cX3_load 9 = .ok (.aload_n 0, 1) := by decide +kernel
theorem dX3_load_10 : decode cX3_load 10 = .ok (.getfield 33, 3) := by decide +kernel
theorem dX3_load_13 : decode cX3_load 13 = .ok (.iload_n 1, 1) := by decide +kernel
theorem dX3_load_14 : decode cX3_load 14 = .ok (.invokevirtual 89, 3) := by decide +kernel
theorem dX3_load_17 : decode cX3_load 17 = .ok (.istore_n 2, 1) := by decide +kernel
theorem dX3_load_18 : decode cX3_load 18 = .ok (.iload_n 2, 1) := by decide +kernel
theorem dX3_load_19 : decode cX3_load 19 = .ok (.ifCond .le 31, 3) := by decide +kernel
theorem dX3_load_22 : decode cX3_load 22 = .ok (.iload_n 1, 1) := by decide +kernel
theorem dX3_load_23 : decode cX3_load 23 = .ok (.sipush 6400, 3) := by decide +kernel
theorem dX3_load_26 : decode cX3_load 26 = .ok (.if_icmp .ge 24, 3) := by decide +kernel
theorem dX3_load_29 : decode cX3_load 29 = .ok (.aload_n 0, 1) := by decide +kernel
theorem dX3_load_30 : decode cX3_load 30 = .ok (.iload_n 1, 1) := by decide +kernel
theorem dX3_load_31 : decode cX3_load 31 = .ok (.invokevirtual 92, 3) := by decide +kernel
theorem dX3_load_34 : decode cX3_load 34 = .ok (.iload_n 1, 1) := by decide +kernel
theorem dX3_load_35 : decode cX3_load 35 = .ok (.iload_n 2, 1) := by decide +kernel
theorem dX3_load_36 : decode cX3_load 36 = .ok (.iadd, 1) := by decide +kernel
theorem dX3_load_37 : decode cX3_load 37 = .ok (.istore_n 1, 1) := by decide +kernel
theorem dX3_load_38 : decode cX3_load 38 = .ok (.aload_n 0, 1) := by decide +kernel
theorem dX3_load_39 : decode cX3_load 39 = .ok (.getfield 33, 3) := by decide +kernel
theorem dX3_load_42 : decode cX3_load 42 = .ok (.iload_n 1, 1) := by decide +kernel
theorem dX3_load_43 : decode cX3_load 43 = .ok (.invokevirtual 89, 3) := by decide +kernel
theorem dX3_load_46 : decode cX3_load 46 = .ok (.istore_n 2, 1) := by decide +kernel
theorem dX3_load_47 : decode cX3_load 47 = .ok (.goto (-29), 3) := by decide +kernel
theorem dX3_load_50 : decode cX3_load 50 = .ok (.aload_n 0, 1) := by decide +kernel
theorem dX3_load_51 : decode cX3_load 51 = .ok (.getfield 33, 3) := by decide +kernel
theorem dX3_load_54 : decode cX3_load 54 = .ok (.iload_n 1, 1) := by decide +kernel
theorem dX3_load_55 : decode cX3_load 55 = .ok (.invokevirtual 95, 3) := by decide +kernel
theorem dX3_load_58 : decode cX3_load 58 = .ok (.aload_n 0, 1) := by decide +kernel
theorem dX3_load_59 : decode cX3_load 59 = .ok (.invokevirtual 46, 3) := by decide +kernel
theorem dX3_load_62 : decode cX3_load 62 = .ok (.return_, 1) := by decide +kernel
theorem dX3_readView_0 : decode cX3_readView 0 = .ok (.aload_n 0, 1) := by decide +kernel
theorem dX3_readView_1 : decode cX3_readView 1 = .ok (.getfield 33, 3) := by decide +kernel
theorem dX3_readView_4 : decode cX3_readView 4 = .ok (.iload_n 1, 1) := by decide +kernel
theorem dX3_readView_5 : decode cX3_readView 5 = .ok (.iconst 2, 1) := by decide +kernel
theorem dX3_readView_6 : decode cX3_readView 6 = .ok (.iadd, 1) := by decide +kernel
theorem dX3_readView_7 : decode cX3_readView 7 = .ok (.invokevirtual 98, 3) := by decide +kernel
theorem dX3_readView_10 : decode cX3_readView 10 = .ok (.istore_n 2, 1) := by decide +kernel
theorem dX3_readView_11 : decode cX3_readView 11 = .ok (.aload_n 0, 1) := by decide +kernel
theorem dX3_readView_12 : decode cX3_readView 12 = .ok (.getfield 33, 3) := by decide +kernel
theorem dX3_readView_15 : decode cX3_readView 15 = .ok (.iload_n 1, 1) := by decide +kernel
theorem dX3_readView_16 : decode cX3_readView 16 = .ok (.invokevirtual 98, 3) := by decide +kernel
theorem dX3_readView_19 : decode cX3_readView 19 = .ok (.bipush 7, 2) := by decide +kernel
theorem dX3_readView_21 : decode cX3_readView 21 = .ok (.if_icmp .ne 82, 3) := by decide +kernel
theorem dX3_readView_24 : decode cX3_readView 24 = .ok (.iload_n 2, 1) := by decide +kernel
theorem dX3_readView_25 : decode cX3_readView 25 = .ok (.iconst 4, 1) := by decide +kernel
theorem dX3_readView_26 : decode cX3_readView 26 = .ok (.if_icmp .ge 77, 3) := by decide +kernel
theorem dX3_readView_29 : decode cX3_readView 29 = .ok (.aload_n 0, 1) := by decide +kernel
theorem dX3_readView_30 : decode cX3_readView 30 = .ok (.getfield 11, 3) := by decide +kernel
theorem dX3_readView_33 : decode cX3_readView 33 = .ok (.iload_n 2, 1) := by decide +kernel
theorem dX3_readView_34 : decode cX3_readView 34 = .ok (.aaload, 1) := by decide +kernel
theorem dX3_readView_35 : decode cX3_readView 35 = .ok (.iconst 0, 1) := by decide +kernel
theorem dX3_readView_36 : decode cX3_readView 36 = .ok (.aload_n 0, 1) := by decide +kernel
theorem dX3_readView_37 : decode cX3_readView 37 = .ok (.getfield 33, 3) := by decide +kernel
theorem dX3_readView_40 : decode cX3_readView 40 = .ok (.iload_n 1, 1) := by decide +kernel
theorem dX3_readView_41 : decode cX3_readView 41 = .ok (.iconst 3, 1) := by decide +kernel
theorem dX3_readView_42 : decode cX3_readView 42 = .ok (.iadd, 1) := by decide +kernel
theorem dX3_readView_43 : decode cX3_readView 43 = .ok (.invokevirtual 101, 3) := by decide +kernel
theorem dX3_readView_46 : decode cX3_readView 46 = .ok (.iastore, 1) := by decide +kernel
theorem dX3_readView_47 : decode cX3_readView 47 = .ok (.aload_n 0, 1) := by decide +kernel
theorem dX3_readView_48 : decode cX3_readView 48 = .ok (.getfield 11, 3) := by decide +kernel
theorem dX3_readView_51 : decode cX3_readView 51 = .ok (.iload_n 2, 1) := by decide +kernel
theorem dX3_readView_52 : decode cX3_readView 52 = .ok (.aaload, 1) := by decide +kernel
theorem dX3_readView_53 : decode cX3_readView 53 = .ok (.iconst 1, 1) := by decide +kernel
theorem dX3_readView_54 : decode cX3_readView 54 = .ok (.aload_n 0, 1) := by decide +kernel
theorem dX3_readView_55 : decode cX3_readView 55 = .ok (.getfield 33, 3) := by decide +kernel
theorem dX3_readView_58 : decode cX3_readView 58 = .ok (.iload_n 1, 1) := by decide +kernel
theorem dX3_readView_59 : decode cX3_readView 59 = .ok (.iconst 5, 1) := by decide +kernel
theorem dX3_readView_60 : decode cX3_readView 60 = .ok (.iadd, 1) := by decide +kernel
theorem dX3_readView_61 : decode cX3_readView 61 = .ok (.invokevirtual 98, 3) := by decide +kernel
theorem dX3_readView_64 : decode cX3_readView 64 = .ok (.iastore, 1) := by decide +kernel
theorem dX3_readView_65 : decode cX3_readView 65 = .ok (.aload_n 0, 1) := by decide +kernel
theorem dX3_readView_66 : decode cX3_readView 66 = .ok (.getfield 11, 3) := by decide +kernel
theorem dX3_readView_69 : decode cX3_readView 69 = .ok (.iload_n 2, 1) := by decide +kernel
theorem dX3_readView_70 : decode cX3_readView 70 = .ok (.aaload, 1) := by decide +kernel
theorem dX3_readView_71 : decode cX3_readView 71 = .ok (.iconst 2, 1) := by decide +kernel
theorem dX3_readView_72 : decode cX3_readView 72 = .ok (.aload_n 0, 1) := by decide +kernel
theorem dX3_readView_73 : decode cX3_readView 73 = .ok (.getfield 33, 3) := by decide +kernel
theorem dX3_readView_76 : decode cX3_readView 76 = .ok (.iload_n 1, 1) := by decide +kernel
theorem dX3_readView_77 : decode cX3_readView 77 = .ok (.bipush 6, 2) := by decide +kernel
theorem dX3_readView_79 : decode cX3_readView 79 = .ok (.iadd, 1) := by decide +kernel
theorem dX3_readView_80 : decode cX3_readView 80 = .ok (.invokevirtual 98, 3) := by decide +kernel
theorem dX3_readView_83 : decode cX3_readView 83 = .ok (.iastore, 1) := by decide +kernel
theorem dX3_readView_84 : decode cX3_readView 84 = .ok (.aload_n 0, 1) := by decide +kernel
theorem dX3_readView_85 : decode cX3_readView 85 = .ok (.getfield 11, 3) := by decide +kernel
theorem dX3_readView_88 : decode cX3_readView 88 = .ok (.iload_n 2, 1) := by decide +kernel
theorem dX3_readView_89 : decode cX3_readView 89 = .ok (.aaload, 1) := by decide +kernel
theorem dX3_readView_90 : decode cX3_readView 90 = .ok (.iconst 3, 1) := by decide +kernel
theorem dX3_readView_91 : decode cX3_readView 91 = .ok (.aload_n 0, 1) := by decide +kernel
theorem dX3_readView_92 : decode cX3_readView 92 = .ok (.getfield 33, 3) := by decide +kernel
theorem dX3_readView_95 : decode cX3_readView 95 = .ok (.iload_n 1, 1) := by decide +kernel
theorem dX3_readView_96 : decode cX3_readView 96 = .ok (.bipush 7, 2) := by decide +kernel
theorem dX3_readView_98 : decode cX3_readView 98 = .ok (.iadd, 1) := by decide +kernel
theorem dX3_readView_99 : decode cX3_readView 99 = .ok (.invokevirtual 101, 3) := by decide +kernel
theorem dX3_readView_102 : decode cX3_readView 102 = .ok (.iastore, 1) := by decide +kernel
theorem dX3_readView_103 : decode cX3_readView 103 = .ok (.return_, 1) := by decide +kernel
theorem dX3_change_0 : decode cX3_change 0 = .ok (.aload_n 0, 1) := by decide +kernel
theorem dX3_change_1 : decode cX3_change 1 = .ok (.getfield 11, 3) := by decide +kernel
theorem dX3_change_4 : decode cX3_change 4 = .ok (.iload_n 1, 1) := by decide +kernel
theorem dX3_change_5 : decode cX3_change 5 = .ok (.aaload, 1) := by decide +kernel
theorem dX3_change_6 : decode cX3_change 6 = .ok (.astore 5, 2) := by decide +kernel
theorem dX3_change_8 : decode cX3_change 8 = .ok (.aload 5, 2) := by decide +kernel
theorem dX3_change_10 : decode cX3_change 10 = .ok (.iconst 3, 1) := by decide +kernel
theorem dX3_change_11 : decode cX3_change 11 = .ok (.iaload, 1) := by decide +kernel
theorem dX3_change_12 : decode cX3_change 12 = .ok (.iconst 1, 1) := by decide +kernel
theorem dX3_change_13 : decode cX3_change 13 = .ok (.iadd, 1) := by decide +kernel
theorem dX3_change_14 : decode cX3_change 14 = .ok (.istore 6, 2) := by decide +kernel
theorem dX3_change_16 : decode cX3_change 16 = .ok (.aload_n 0, 1) := by decide +kernel
theorem dX3_change_17 : decode cX3_change 17 = .ok (.getfield 33, 3) := by decide +kernel
theorem dX3_change_20 : decode cX3_change 20 = .ok (.bipush 10, 2) := by decide +kernel
theorem dX3_change_22 : decode cX3_change 22 = .ok (.invokevirtual 104, 3) := by decide +kernel
theorem dX3_change_25 : decode cX3_change 25 = .ok (.ifCond .ne 7, 3) := by decide +kernel
theorem dX3_change_28 : decode cX3_change 28 = .ok (.aload_n 0, 1) := by decide +kernel
theorem dX3_change_29 : decode cX3_change 29 = .ok (.invokevirtual 53, 3) := by decide +kernel
theorem dX3_change_32 : decode cX3_change 32 = .ok (.aload_n 0, 1) := by decide +kernel
theorem dX3_change_33 : decode cX3_change 33 = .ok (.getfield 33, 3) := by decide +kernel
theorem dX3_change_36 : decode cX3_change 36 = .ok (.invokevirtual 60, 3) := by decide +kernel
theorem dX3_change_39 : decode cX3_change 39 = .ok (.aload_n 0, 1) := by decide +kernel
theorem dX3_change_40 : decode cX3_change 40 = .ok (.iload_n 1, 1) := by decide +kernel
theorem dX3_change_41 : decode cX3_change 41 = .ok (.iload_n 2, 1) := by decide +kernel
theorem dX3_change_42 : decode cX3_change 42 = .ok (.iload_n 3, 1) := by decide +kernel
theorem dX3_change_43 : decode cX3_change 43 = .ok (.iload 4, 2) := by decide +kernel
theorem dX3_change_45 : decode cX3_change 45 = .ok (.iload 6, 2) := by decide +kernel
theorem dX3_change_47 : decode cX3_change 47 = .ok (.invokevirtual 66, 3) := by decide +kernel
theorem dX3_change_50 : decode cX3_change 50 = .ok (.aload_n 0, 1) := by decide +kernel
theorem dX3_change_51 : decode cX3_change 51 = .ok (.getfield 33, 3) := by decide +kernel
theorem dX3_change_54 : decode cX3_change 54 = .ok (.invokevirtual 108, 3) := by decide +kernel
theorem dX3_change_57 : decode cX3_change 57 = .ok (.aload 5, 2) := by decide +kernel
theorem dX3_change_59 : decode cX3_change 59 = .ok (.iconst 0, 1) := by decide +kernel
theorem dX3_change_60 : decode cX3_change 60 = .ok (.iload_n 2, 1) := by decide +kernel
theorem dX3_change_61 : decode cX3_change 61 = .ok (.iastore, 1) := by decide +kernel
theorem dX3_change_62 : decode cX3_change 62 = .ok (.aload 5, 2) := by decide +kernel
theorem dX3_change_64 : decode cX3_change 64 = .ok (.iconst 1, 1) := by decide +kernel
theorem dX3_change_65 : decode cX3_change 65 = .ok (.iload_n 3, 1) := by decide +kernel
theorem dX3_change_66 : decode cX3_change 66 = .ok (.iastore, 1) := by decide +kernel
theorem dX3_change_67 : decode cX3_change 67 = .ok (.aload 5, 2) := by decide +kernel
theorem dX3_change_69 : decode cX3_change 69 = .ok (.iconst 2, 1) := by decide +kernel
theorem dX3_change_70 : decode cX3_change 70 = .ok (.iload 4, 2) := by decide +kernel
theorem dX3_change_72 : decode cX3_change 72 = .ok (.iastore, 1) := by decide +kernel
theorem dX3_change_73 : decode cX3_change 73 = .ok (.aload 5, 2) := by decide +kernel
theorem dX3_change_75 : decode cX3_change 75 = .ok (.iconst 3, 1) := by decide +kernel
theorem dX3_change_76 : decode cX3_change 76 = .ok (.iload 6, 2) := by decide +kernel
theorem dX3_change_78 : decode cX3_change 78 = .ok (.iastore, 1) := by decide +kernel
theorem dX3_change_79 : decode cX3_change 79 = .ok (.iconst 0, 1) := by decide +kernel
theorem dX3_change_80 : decode cX3_change 80 = .ok (.istore 7, 2) := by decide +kernel
theorem dX3_change_82 : decode cX3_change 82 = .ok (.iload 7, 2) := by decide +kernel
theorem dX3_change_84 : decode cX3_change 84 = .ok (.aload_n 0, 1) := by decide +kernel
theorem dX3_change_85 : decode cX3_change 85 = .ok (.getfield 24, 3) := by decide +kernel
theorem dX3_change_88 : decode cX3_change 88 = .ok (.getfield 111, 3) := by decide +kernel
theorem dX3_change_91 : decode cX3_change 91 = .ok (.if_icmp .ge 29, 3) := by decide +kernel
theorem dX3_change_94 : decode cX3_change 94 = .ok (.aload_n 0, 1) := by decide +kernel
theorem dX3_change_95 : decode cX3_change 95 = .ok (.getfield 24, 3) := by decide +kernel
theorem dX3_change_98 : decode cX3_change 98 = .ok (.iload 7, 2) := by decide +kernel
theorem dX3_change_100 : decode cX3_change 100 = .ok (.iload_n 1, 1) := by decide +kernel
theorem dX3_change_101 : decode cX3_change 101 = .ok (.invokevirtual 114, 3) := by decide +kernel
theorem dX3_change_104 : decode cX3_change 104 = .ok (.ifCond .eq 10, 3) := by decide +kernel
theorem dX3_change_107 : decode cX3_change 107 = .ok (.aload_n 0, 1) := by decide +kernel
theorem dX3_change_108 : decode cX3_change 108 = .ok (.iload_n 1, 1) := by decide +kernel
theorem dX3_change_109 : decode cX3_change 109 = .ok (.iload 7, 2) := by decide +kernel
theorem dX3_change_111 : decode cX3_change 111 = .ok (.invokevirtual 118, 3) := by decide +kernel
theorem dX3_change_114 : decode cX3_change 114 = .ok (.iinc 7 1, 3) := by decide +kernel
theorem dX3_change_117 : decode cX3_change 117 = .ok (.goto (-35), 3) := by decide +kernel
theorem dX3_change_120 : decode cX3_change 120 = .ok (.return_, 1) := by decide +kernel
theorem dX3_changeMask_0 : decode cX3_changeMask 0 = .ok (.aload_n 0, 1) := by decide +kernel
theorem dX3_changeMask_1 : decode cX3_changeMask 1 = .ok (.iload_n 1, 1) := by decide +kernel
theorem dX3_changeMask_2 : decode cX3_changeMask 2 = .ok (.aload_n 0, 1) := by decide +kernel
theorem dX3_changeMask_3 : decode cX3_changeMask 3 = .ok (.getfield 11, 3) := by decide +kernel
theorem dX3_changeMask_6 : decode cX3_changeMask 6 = .ok (.iload_n 1, 1) := by decide +kernel
theorem dX3_changeMask_7 : decode cX3_changeMask 7 = .ok (.aaload, 1) := by decide +kernel
theorem dX3_changeMask_8 : decode cX3_changeMask 8 = .ok (.iconst 0, 1) := by decide +kernel
theorem dX3_changeMask_9 : decode cX3_changeMask 9 = .ok (.iaload, 1) := by decide +kernel
theorem dX3_changeMask_10 : decode cX3_changeMask 10 = .ok (.aload_n 0, 1) := by decide +kernel
theorem dX3_changeMask_11 : decode cX3_changeMask 11 = .ok (.getfield 11, 3) := by decide +kernel
theorem dX3_changeMask_14 : decode cX3_changeMask 14 = .ok (.iload_n 1, 1) := by decide +kernel
theorem dX3_changeMask_15 : decode cX3_changeMask 15 = .ok (.aaload, 1) := by decide +kernel
theorem dX3_changeMask_16 : decode cX3_changeMask 16 = .ok (.iconst 1, 1) := by decide +kernel
theorem dX3_changeMask_17 : decode cX3_changeMask 17 = .ok (.iaload, 1) := by decide +kernel
theorem dX3_changeMask_18 : decode cX3_changeMask 18 = .ok (.iload_n 2, 1) := by decide +kernel
theorem dX3_changeMask_19 : decode cX3_changeMask 19 = .ok (.invokevirtual 122, 3) := by decide +kernel
theorem dX3_changeMask_22 : decode cX3_changeMask 22 = .ok (.return_, 1) := by decide +kernel
theorem dX3_tellView_0 : decode cX3_tellView 0 = .ok (.aload_n 0, 1) := by decide +kernel
theorem dX3_tellView_1 : decode cX3_tellView 1 = .ok (.getfield 11, 3) := by decide +kernel
theorem dX3_tellView_4 : decode cX3_tellView 4 = .ok (.iload_n 1, 1) := by decide +kernel
theorem dX3_tellView_5 : decode cX3_tellView 5 = .ok (.aaload, 1) := by decide +kernel
theorem dX3_tellView_6 : decode cX3_tellView 6 = .ok (.astore_n 3, 1) := by decide +kernel
theorem dX3_tellView_7 : decode cX3_tellView 7 = .ok (.aload_n 0, 1) := by decide +kernel
theorem dX3_tellView_8 : decode cX3_tellView 8 = .ok (.getfield 24, 3) := by decide +kernel
theorem dX3_tellView_11 : decode cX3_tellView 11 = .ok (.aload_n 0, 1) := by decide +kernel
theorem dX3_tellView_12 : decode cX3_tellView 12 = .ok (.getfield 24, 3) := by decide +kernel
theorem dX3_tellView_15 : decode cX3_tellView 15 = .ok (.getfield 111, 3) := by decide +kernel
theorem dX3_tellView_18 : decode cX3_tellView 18 = .ok (.iload_n 2, 1) := by decide +kernel
theorem dX3_tellView_19 : decode cX3_tellView 19 = .ok (.bipush 14, 2) := by decide +kernel
theorem dX3_tellView_21 : decode cX3_tellView 21 = .ok (.invokevirtual 126, 3) := by decide +kernel
theorem dX3_tellView_24 : decode cX3_tellView 24 = .ok (.iload_n 1, 1) := by decide +kernel
theorem dX3_tellView_25 : decode cX3_tellView 25 = .ok (.aload_n 3, 1) := by decide +kernel
theorem dX3_tellView_26 : decode cX3_tellView 26 = .ok (.iconst 0, 1) := by decide +kernel
theorem dX3_tellView_27 : decode cX3_tellView 27 = .ok (.iaload, 1) := by decide +kernel
theorem dX3_tellView_28 : decode cX3_tellView 28 = .ok (.aload_n 3, 1) := by decide +kernel
theorem dX3_tellView_29 : decode cX3_tellView 29 = .ok (.iconst 1, 1) := by decide +kernel
theorem dX3_tellView_30 : decode cX3_tellView 30 = .ok (.iaload, 1) := by decide +kernel
theorem dX3_tellView_31 : decode cX3_tellView 31 = .ok (.aload_n 3, 1) := by decide +kernel
theorem dX3_tellView_32 : decode cX3_tellView 32 = .ok (.iconst 2, 1) := by decide +kernel
theorem dX3_tellView_33 : decode cX3_tellView 33 = .ok (.iaload, 1) := by decide +kernel
theorem dX3_tellView_34 : decode cX3_tellView 34 = .ok (.aload_n 3, 1) := by decide +kernel
theorem dX3_tellView_35 : decode cX3_tellView 35 = .ok (.iconst 3, 1) := by decide +kernel
theorem dX3_tellView_36 : decode cX3_tellView 36 = .ok (.iaload, 1) := by decide +kernel
theorem dX3_tellView_37 : decode cX3_tellView 37 = .ok (.invokevirtual 130, 3) := by decide +kernel
theorem dX3_tellView_40 : decode cX3_tellView 40 = .ok (.pop, 1) := by decide +kernel
theorem dX3_tellView_41 : decode cX3_tellView 41 = .ok (.return_, 1) := by decide +kernel
theorem dX3_isAlive_0 : decode cX3_isAlive 0 = .ok (.iload_n 1, 1) := by decide +kernel
theorem dX3_isAlive_1 : decode cX3_isAlive 1 = .ok (.ifCond .lt 27, 3) := by decide +kernel
theorem dX3_isAlive_4 : decode cX3_isAlive 4 = .ok (.iload_n 1, 1) := by decide +kernel
theorem dX3_isAlive_5 : decode cX3_isAlive 5 = .ok (.aload_n 0, 1) := by decide +kernel
theorem dX3_isAlive_6 : decode cX3_isAlive 6 = .ok (.getfield 24, 3) := by decide +kernel
theorem dX3_isAlive_9 : decode cX3_isAlive 9 = .ok (.getfield 111, 3) := by decide +kernel
theorem dX3_isAlive_12 : decode cX3_isAlive 12 = .ok (.if_icmp .ge 16, 3) := by decide +kernel
theorem dX3_isAlive_15 : decode cX3_isAlive 15 = .ok (.aload_n 0, 1) := by decide +kernel
theorem dX3_isAlive_16 : decode cX3_isAlive 16 = .ok (.getfield 16, 3) := by decide +kernel
theorem dX3_isAlive_19 : decode cX3_isAlive 19 = .ok (.iload_n 1, 1) := by decide +kernel
theorem dX3_isAlive_20 : decode cX3_isAlive 20 = .ok (.baload, 1) := by decide +kernel
theorem dX3_isAlive_21 : decode cX3_isAlive 21 = .ok (.ifCond .eq 7, 3) := by decide +kernel
theorem dX3_isAlive_24 : decode cX3_isAlive 24 = .ok (.iconst 1, 1) := by decide +kernel
theorem dX3_isAlive_25 : decode cX3_isAlive 25 = .ok (.goto 4, 3) := by decide +kernel
theorem dX3_isAlive_28 : decode cX3_isAlive 28 = .ok (.iconst 0, 1) := by decide +kernel
theorem dX3_isAlive_29 : decode cX3_isAlive 29 = .ok (.ireturn, 1) := by decide +kernel
theorem dX3_isInMask_0 : decode cX3_isInMask 0 = .ok (.aload_n 0, 1) := by decide +kernel
theorem dX3_isInMask_1 : decode cX3_isInMask 1 = .ok (.getfield 11, 3) := by decide +kernel
theorem dX3_isInMask_4 : decode cX3_isInMask 4 = .ok (.iload_n 1, 1) := by decide +kernel
theorem dX3_isInMask_5 : decode cX3_isInMask 5 = .ok (.aaload, 1) := by decide +kernel
theorem dX3_isInMask_6 : decode cX3_isInMask 6 = .ok (.iconst 2, 1) := by decide +kernel
theorem dX3_isInMask_7 : decode cX3_isInMask 7 = .ok (.iaload, 1) := by decide +kernel
theorem dX3_isInMask_8 : decode cX3_isInMask 8 = .ok (.iload_n 2, 1) := by decide +kernel
theorem dX3_isInMask_9 : decode cX3_isInMask 9 = .ok (.ishr, 1) := by decide +kernel
theorem dX3_isInMask_10 : decode cX3_isInMask 10 = .ok (.iconst 1, 1) := by decide +kernel
theorem dX3_isInMask_11 : decode cX3_isInMask 11 = .ok (.iand, 1) := by decide +kernel
theorem dX3_isInMask_12 : decode cX3_isInMask 12 = .ok (.iconst 1, 1) := by decide +kernel
theorem dX3_isInMask_13 : decode cX3_isInMask 13 = .ok (.if_icmp .ne 7, 3) := by decide +kernel
theorem dX3_isInMask_16 : decode cX3_isInMask 16 = .ok (.iconst 1, 1) := by decide +kernel
theorem dX3_isInMask_17 : decode cX3_isInMask 17 = .ok (.goto 4, 3) := by decide +kernel
theorem dX3_isInMask_20 : decode cX3_isInMask 20 = .ok (.iconst 0, 1) := by decide +kernel
theorem dX3_isInMask_21 : decode cX3_isInMask 21 = .ok (.ireturn, 1) := by decide +kernel
theorem dX3_promote_0 : decode cX3_promote 0 = .ok (.aload_n 0, 1) := by decide +kernel
theorem dX3_promote_1 : decode cX3_promote 1 = .ok (.getfield 11, 3) := by decide +kernel
theorem dX3_promote_4 : decode cX3_promote 4 = .ok (.iload_n 1, 1) := by decide +kernel
theorem dX3_promote_5 : decode cX3_promote 5 = .ok (.aaload, 1) := by decide +kernel
theorem dX3_promote_6 : decode cX3_promote 6 = .ok (.iconst 1, 1) := by decide +kernel
theorem dX3_promote_7 : decode cX3_promote 7 = .ok (.iaload, 1) := by decide +kernel
theorem dX3_promote_8 : decode cX3_promote 8 = .ok (.istore_n 2, 1) := by decide +kernel
theorem dX3_promote_9 : decode cX3_promote 9 = .ok (.aload_n 0, 1) := by decide +kernel
theorem dX3_promote_10 : decode cX3_promote 10 = .ok (.getfield 11, 3) := by decide +kernel
theorem dX3_promote_13 : decode cX3_promote 13 = .ok (.iload_n 1, 1) := by decide +kernel
theorem dX3_promote_14 : decode cX3_promote 14 = .ok (.aaload, 1) := by decide +kernel
theorem dX3_promote_15 : decode cX3_promote 15 = .ok (.iconst 2, 1) := by decide +kernel
theorem dX3_promote_16 : decode cX3_promote 16 = .ok (.iaload, 1) := by decide +kernel
theorem dX3_promote_17 : decode cX3_promote 17 = .ok (.istore_n 3, 1) := by decide +kernel
theorem dX3_promote_18 : decode cX3_promote 18 = .ok (.iconst 0, 1) := by decide +kernel
theorem dX3_promote_19 : decode cX3_promote 19 = .ok (.istore 4, 2) := by decide +kernel
theorem dX3_promote_21 : decode cX3_promote 21 = .ok (.iload 4, 2) := by decide +kernel
theorem dX3_promote_23 : decode cX3_promote 23 = .ok (.aload_n 0, 1) := by decide +kernel
theorem dX3_promote_24 : decode cX3_promote 24 = .ok (.getfield 24, 3) := by decide +kernel
theorem dX3_promote_27 : decode cX3_promote 27 = .ok (.getfield 111, 3) := by decide +kernel
theorem dX3_promote_30 : decode cX3_promote 30 = .ok (.if_icmp .ge 70, 3) := by decide +kernel
theorem dX3_promote_33 : decode cX3_promote 33 = .ok (.aload_n 0, 1) := by decide +kernel
theorem dX3_promote_34 : decode cX3_promote 34 = .ok (.iload_n 1, 1) := by decide +kernel
theorem dX3_promote_35 : decode cX3_promote 35 = .ok (.iload 4, 2) := by decide +kernel
theorem dX3_promote_37 : decode cX3_promote 37 = .ok (.invokevirtual 136, 3) := by decide +kernel
theorem dX3_promote_40 : decode cX3_promote 40 = .ok (.ifCond .eq 54, 3) := by decide +kernel
theorem dX3_promote_43 : decode cX3_promote 43 = .ok (.aload_n 0, 1) := by decide +kernel
theorem dX3_promote_44 : decode cX3_promote 44 = .ok (.getfield 16, 3) := by decide +kernel
theorem dX3_promote_47 : decode cX3_promote 47 = .ok (.iload 4, 2) := by decide +kernel
theorem dX3_promote_49 : decode cX3_promote 49 = .ok (.baload, 1) := by decide +kernel
theorem dX3_promote_50 : decode cX3_promote 50 = .ok (.ifCond .eq 44, 3) := by decide +kernel
theorem dX3_promote_53 : decode cX3_promote 53 = .ok (.aload_n 0, 1) := by decide +kernel
theorem dX3_promote_54 : decode cX3_promote 54 = .ok (.iload_n 2, 1) := by decide +kernel
theorem dX3_promote_55 : decode cX3_promote 55 = .ok (.invokevirtual 139, 3) := by decide +kernel
theorem dX3_promote_58 : decode cX3_promote 58 = .ok (.ifCond .eq 7, 3) := by decide +kernel
theorem dX3_promote_61 : decode cX3_promote 61 = .ok (.iload_n 3, 1) := by decide +kernel
theorem dX3_promote_62 : decode cX3_promote 62 = .ok (.goto 10, 3) := by decide +kernel
theorem dX3_promote_65 : decode cX3_promote 65 = .ok (.iload_n 3, 1) := by decide +kernel
theorem dX3_promote_66 : decode cX3_promote 66 = .ok (.iconst 1, 1) := by decide +kernel
theorem dX3_promote_67 : decode cX3_promote 67 = .ok (.iload_n 2, 1) := by decide +kernel
theorem dX3_promote_68 : decode cX3_promote 68 = .ok (.ishl, 1) := by decide +kernel
theorem dX3_promote_69 : decode cX3_promote 69 = .ok (.iconst (-1), 1) := by decide +kernel
theorem dX3_promote_70 : decode cX3_promote 70 = .ok (.ixor, 1) := by decide +kernel
theorem dX3_promote_71 : decode cX3_promote 71 = .ok (.iand, 1) := by decide +kernel
theorem dX3_promote_72 : decode cX3_promote 72 = .ok (.istore 5, 2) := by decide +kernel
theorem dX3_promote_74 : decode cX3_promote 74 = .ok (.aload_n 0, 1) := by decide +kernel
theorem dX3_promote_75 : decode cX3_promote 75 = .ok (.iload_n 1, 1) := by decide +kernel
theorem dX3_promote_76 : decode cX3_promote 76 = .ok (.aload_n 0, 1) := by decide +kernel
theorem dX3_promote_77 : decode cX3_promote 77 = .ok (.getfield 11, 3) := by decide +kernel
theorem dX3_promote_80 : decode cX3_promote 80 = .ok (.iload_n 1, 1) := by decide +kernel
theorem dX3_promote_81 : decode cX3_promote 81 = .ok (.aaload, 1) := by decide +kernel
theorem dX3_promote_82 : decode cX3_promote 82 = .ok (.iconst 0, 1) := by decide +kernel
theorem dX3_promote_83 : decode cX3_promote 83 = .ok (.iaload, 1) := by decide +kernel
theorem dX3_promote_84 : decode cX3_promote 84 = .ok (.iconst 1, 1) := by decide +kernel
theorem dX3_promote_85 : decode cX3_promote 85 = .ok (.iadd, 1) := by decide +kernel
theorem dX3_promote_86 : decode cX3_promote 86 = .ok (.iload 4, 2) := by decide +kernel
theorem dX3_promote_88 : decode cX3_promote 88 = .ok (.iload 5, 2) := by decide +kernel
theorem dX3_promote_90 : decode cX3_promote 90 = .ok (.invokevirtual 122, 3) := by decide +kernel
theorem dX3_promote_93 : decode cX3_promote 93 = .ok (.return_, 1) := by decide +kernel
theorem dX3_promote_94 : decode cX3_promote 94 = .ok (.iinc 4 1, 3) := by decide +kernel
theorem dX3_promote_97 : decode cX3_promote 97 = .ok (.goto (-76), 3) := by decide +kernel
theorem dX3_promote_100 : decode cX3_promote 100 = .ok (.return_, 1) := by decide +kernel
theorem dX3_isFromPrimary_0 : decode cX3_isFromPrimary 0 = .ok (.aload_n 2, 1) := by decide +kernel
theorem dX3_isFromPrimary_1 : decode cX3_isFromPrimary 1 = .ok (.getfield 142, 3) := by decide +kernel
theorem dX3_isFromPrimary_4 : decode cX3_isFromPrimary 4 = .ok (.iconst 0, 1) := by decide +kernel
theorem dX3_isFromPrimary_5 : decode cX3_isFromPrimary 5 = .ok (.iaload, 1) := by decide +kernel
theorem dX3_isFromPrimary_6 : decode cX3_isFromPrimary 6 = .ok (.istore_n 3, 1) := by decide +kernel
theorem dX3_isFromPrimary_7 : decode cX3_isFromPrimary 7 = .ok (.iload_n 3, 1) := by decide +kernel
theorem dX3_isFromPrimary_8 : decode cX3_isFromPrimary 8 = .ok (.ifCond .lt 47, 3) := by decide +kernel
theorem dX3_isFromPrimary_11 : decode cX3_isFromPrimary 11 = .ok (.iload_n 3, 1) := by decide +kernel
theorem dX3_isFromPrimary_12 : decode cX3_isFromPrimary 12 = .ok (.aload_n 0, 1) := by decide +kernel
theorem dX3_isFromPrimary_13 : decode cX3_isFromPrimary 13 = .ok (.getfield 24, 3) := by decide +kernel
theorem dX3_isFromPrimary_16 : decode cX3_isFromPrimary 16 = .ok (.getfield 63, 3) := by decide +kernel
theorem dX3_isFromPrimary_19 : decode cX3_isFromPrimary 19 = .ok (.if_icmp .ge 36, 3) := by decide +kernel
theorem dX3_isFromPrimary_22 : decode cX3_isFromPrimary 22 = .ok (.aload_n 0, 1) := by decide +kernel
theorem dX3_isFromPrimary_23 : decode cX3_isFromPrimary 23 = .ok (.getfield 11, 3) := by decide +kernel
theorem dX3_isFromPrimary_26 : decode cX3_isFromPrimary 26 = .ok (.iload_n 3, 1) := by decide +kernel
theorem dX3_isFromPrimary_27 : decode cX3_isFromPrimary 27 = .ok (.aaload, 1) := by decide +kernel
theorem dX3_isFromPrimary_28 : decode cX3_isFromPrimary 28 = .ok (.iconst 0, 1) := by decide +kernel
theorem dX3_isFromPrimary_29 : decode cX3_isFromPrimary 29 = .ok (.iaload, 1) := by decide +kernel
theorem dX3_isFromPrimary_30 : decode cX3_isFromPrimary 30 = .ok (.aload_n 2, 1) := by decide +kernel
theorem dX3_isFromPrimary_31 : decode cX3_isFromPrimary 31 = .ok (.getfield 142, 3) := by decide +kernel
theorem dX3_isFromPrimary_34 : decode cX3_isFromPrimary 34 = .ok (.iconst 1, 1) := by decide +kernel
theorem dX3_isFromPrimary_35 : decode cX3_isFromPrimary 35 = .ok (.iaload, 1) := by decide +kernel
theorem dX3_isFromPrimary_36 : decode cX3_isFromPrimary 36 = .ok (.if_icmp .ne 19, 3) := by decide +kernel
theorem dX3_isFromPrimary_39 : decode cX3_isFromPrimary 39 = .ok (.aload_n 0, 1) := by decide +kernel
theorem dX3_isFromPrimary_40 : decode cX3_isFromPrimary 40 = .ok (.getfield 11, 3) := by decide +kernel
theorem dX3_isFromPrimary_43 : decode cX3_isFromPrimary 43 = .ok (.iload_n 3, 1) := by decide +kernel
theorem dX3_isFromPrimary_44 : decode cX3_isFromPrimary 44 = .ok (.aaload, 1) := by decide +kernel
theorem dX3_isFromPrimary_45 : decode cX3_isFromPrimary 45 = .ok (.iconst 1, 1) := by decide +kernel
theorem dX3_isFromPrimary_46 : decode cX3_isFromPrimary 46 = .ok (.iaload, 1) := by decide +kernel
theorem dX3_isFromPrimary_47 : decode cX3_isFromPrimary 47 = .ok (.iload_n 1, 1) := by decide +kernel
theorem dX3_isFromPrimary_48 : decode cX3_isFromPrimary 48 = .ok (.if_icmp .ne 7, 3) := by decide +kernel
theorem dX3_isFromPrimary_51 : decode cX3_isFromPrimary 51 = .ok (.iconst 1, 1) := by decide +kernel
theorem dX3_isFromPrimary_52 : decode cX3_isFromPrimary 52 = .ok (.goto 4, 3) := by decide +kernel
theorem dX3_isFromPrimary_55 : decode cX3_isFromPrimary 55 = .ok (.iconst 0, 1) := by decide +kernel
theorem dX3_isFromPrimary_56 : decode cX3_isFromPrimary 56 = .ok (.ireturn, 1) := by decide +kernel
theorem dX3_onRoute_0 : decode cX3_onRoute 0 = .ok (.aload_n 0, 1) := by decide +kernel
theorem dX3_onRoute_1 : decode cX3_onRoute 1 = .ok (.getfield 24, 3) := by decide +kernel
theorem dX3_onRoute_4 : decode cX3_onRoute 4 = .ok (.aload_n 0, 1) := by decide +kernel
theorem dX3_onRoute_5 : decode cX3_onRoute 5 = .ok (.getfield 24, 3) := by decide +kernel
theorem dX3_onRoute_8 : decode cX3_onRoute 8 = .ok (.getfield 111, 3) := by decide +kernel
theorem dX3_onRoute_11 : decode cX3_onRoute 11 = .ok (.iload_n 1, 1) := by decide +kernel
theorem dX3_onRoute_12 : decode cX3_onRoute 12 = .ok (.iconst 2, 1) := by decide +kernel
theorem dX3_onRoute_13 : decode cX3_onRoute 13 = .ok (.invokevirtual 126, 3) := by decide +kernel
theorem dX3_onRoute_16 : decode cX3_onRoute 16 = .ok (.aload_n 2, 1) := by decide +kernel
theorem dX3_onRoute_17 : decode cX3_onRoute 17 = .ok (.getfield 142, 3) := by decide +kernel
theorem dX3_onRoute_20 : decode cX3_onRoute 20 = .ok (.iconst 0, 1) := by decide +kernel
theorem dX3_onRoute_21 : decode cX3_onRoute 21 = .ok (.iaload, 1) := by decide +kernel
theorem dX3_onRoute_22 : decode cX3_onRoute 22 = .ok (.aload_n 2, 1) := by decide +kernel
theorem dX3_onRoute_23 : decode cX3_onRoute 23 = .ok (.getfield 142, 3) := by decide +kernel
theorem dX3_onRoute_26 : decode cX3_onRoute 26 = .ok (.iconst 1, 1) := by decide +kernel
theorem dX3_onRoute_27 : decode cX3_onRoute 27 = .ok (.iaload, 1) := by decide +kernel
theorem dX3_onRoute_28 : decode cX3_onRoute 28 = .ok (.iconst 0, 1) := by decide +kernel
theorem dX3_onRoute_29 : decode cX3_onRoute 29 = .ok (.iconst 0, 1) := by decide +kernel
theorem dX3_onRoute_30 : decode cX3_onRoute 30 = .ok (.iconst 0, 1) := by decide +kernel
theorem dX3_onRoute_31 : decode cX3_onRoute 31 = .ok (.invokevirtual 130, 3) := by decide +kernel
theorem dX3_onRoute_34 : decode cX3_onRoute 34 = .ok (.astore_n 3, 1) := by decide +kernel
theorem dX3_onRoute_35 : decode cX3_onRoute 35 = .ok (.iconst 0, 1) := by decide +kernel
theorem dX3_onRoute_36 : decode cX3_onRoute 36 = .ok (.istore 4, 2) := by decide +kernel
theorem dX3_onRoute_38 : decode cX3_onRoute 38 = .ok (.iload 4, 2) := by decide +kernel
theorem dX3_onRoute_40 : decode cX3_onRoute 40 = .ok (.aload_n 0, 1) := by decide +kernel
theorem dX3_onRoute_41 : decode cX3_onRoute 41 = .ok (.getfield 24, 3) := by decide +kernel
theorem dX3_onRoute_44 : decode cX3_onRoute 44 = .ok (.getfield 63, 3) := by decide +kernel
theorem dX3_onRoute_47 : decode cX3_onRoute 47 = .ok (.if_icmp .ge 31, 3) := by decide +kernel
theorem dX3_onRoute_50 : decode cX3_onRoute 50 = .ok (.aload_n 0, 1) := by decide +kernel
theorem dX3_onRoute_51 : decode cX3_onRoute 51 = .ok (.getfield 11, 3) := by decide +kernel
theorem dX3_onRoute_54 : decode cX3_onRoute 54 = .ok (.iload 4, 2) := by decide +kernel
theorem dX3_onRoute_56 : decode cX3_onRoute 56 = .ok (.aaload, 1) := by decide +kernel
theorem dX3_onRoute_57 : decode cX3_onRoute 57 = .ok (.iconst 0, 1) := by decide +kernel
theorem dX3_onRoute_58 : decode cX3_onRoute 58 = .ok (.aload_n 3, 1) := by decide +kernel
theorem dX3_onRoute_59 : decode cX3_onRoute 59 = .ok (.getfield 142, 3) := by decide +kernel
theorem dX3_onRoute_62 : decode cX3_onRoute 62 = .ok (.iconst 5, 1) := by decide +kernel
theorem dX3_onRoute_63 : decode cX3_onRoute 63 = .ok (.iconst 3, 1) := by decide +kernel
theorem dX3_onRoute_64 : decode cX3_onRoute 64 = .ok (.iload 4, 2) := by decide +kernel
theorem dX3_onRoute_66 : decode cX3_onRoute 66 = .ok (.imul, 1) := by decide +kernel
theorem dX3_onRoute_67 : decode cX3_onRoute 67 = .ok (.iadd, 1) := by decide +kernel
theorem dX3_onRoute_68 : decode cX3_onRoute 68 = .ok (.iconst 3, 1) := by decide +kernel
theorem dX3_onRoute_69 : decode cX3_onRoute 69 = .ok (.invokestatic 145, 3) := by decide +kernel
theorem dX3_onRoute_72 : decode cX3_onRoute 72 = .ok (.iinc 4 1, 3) := by decide +kernel
theorem dX3_onRoute_75 : decode cX3_onRoute 75 = .ok (.goto (-37), 3) := by decide +kernel
theorem dX3_onRoute_78 : decode cX3_onRoute 78 = .ok (.return_, 1) := by decide +kernel
theorem dX3_onAdd_0 : decode cX3_onAdd 0 = .ok (.aload_n 0, 1) := by decide +kernel
theorem dX3_onAdd_1 : decode cX3_onAdd 1 = .ok (.iload_n 1, 1) := by decide +kernel
theorem dX3_onAdd_2 : decode cX3_onAdd 2 = .ok (.aload_n 2, 1) := by decide +kernel
theorem dX3_onAdd_3 : decode cX3_onAdd 3 = .ok (.invokevirtual 151, 3) := by decide +kernel
theorem dX3_onAdd_6 : decode cX3_onAdd 6 = .ok (.ifCond .ne 4, 3) := by decide +kernel
theorem dX3_onAdd_9 : decode cX3_onAdd 9 = .ok (.return_, 1) := by decide +kernel
theorem dX3_onAdd_10 : decode cX3_onAdd 10 = .ok (.aload_n 2, 1) := by decide +kernel
theorem dX3_onAdd_11 : decode cX3_onAdd 11 = .ok (.getfield 142, 3) := by decide +kernel
theorem dX3_onAdd_14 : decode cX3_onAdd 14 = .ok (.iconst 0, 1) := by decide +kernel
theorem dX3_onAdd_15 : decode cX3_onAdd 15 = .ok (.iaload, 1) := by decide +kernel
theorem dX3_onAdd_16 : decode cX3_onAdd 16 = .ok (.istore_n 3, 1) := by decide +kernel
theorem dX3_onAdd_17 : decode cX3_onAdd 17 = .ok (.aload_n 2, 1) := by decide +kernel
theorem dX3_onAdd_18 : decode cX3_onAdd 18 = .ok (.getfield 142, 3) := by decide +kernel
theorem dX3_onAdd_21 : decode cX3_onAdd 21 = .ok (.iconst 2, 1) := by decide +kernel
theorem dX3_onAdd_22 : decode cX3_onAdd 22 = .ok (.iaload, 1) := by decide +kernel
theorem dX3_onAdd_23 : decode cX3_onAdd 23 = .ok (.istore 4, 2) := by decide +kernel
theorem dX3_onAdd_25 : decode cX3_onAdd 25 = .ok (.aload_n 0, 1) := by decide +kernel
theorem dX3_onAdd_26 : decode cX3_onAdd 26 = .ok (.getfield 11, 3) := by decide +kernel
theorem dX3_onAdd_29 : decode cX3_onAdd 29 = .ok (.iload_n 3, 1) := by decide +kernel
theorem dX3_onAdd_30 : decode cX3_onAdd 30 = .ok (.aaload, 1) := by decide +kernel
theorem dX3_onAdd_31 : decode cX3_onAdd 31 = .ok (.iconst 3, 1) := by decide +kernel
theorem dX3_onAdd_32 : decode cX3_onAdd 32 = .ok (.iaload, 1) := by decide +kernel
theorem dX3_onAdd_33 : decode cX3_onAdd 33 = .ok (.aload_n 2, 1) := by decide +kernel
theorem dX3_onAdd_34 : decode cX3_onAdd 34 = .ok (.getfield 142, 3) := by decide +kernel
theorem dX3_onAdd_37 : decode cX3_onAdd 37 = .ok (.iconst 3, 1) := by decide +kernel
theorem dX3_onAdd_38 : decode cX3_onAdd 38 = .ok (.iaload, 1) := by decide +kernel
theorem dX3_onAdd_39 : decode cX3_onAdd 39 = .ok (.if_icmp .ne 34, 3) := by decide +kernel
theorem dX3_onAdd_42 : decode cX3_onAdd 42 = .ok (.aload_n 0, 1) := by decide +kernel
theorem dX3_onAdd_43 : decode cX3_onAdd 43 = .ok (.iload_n 3, 1) := by decide +kernel
theorem dX3_onAdd_44 : decode cX3_onAdd 44 = .ok (.iload 4, 2) := by decide +kernel
theorem dX3_onAdd_46 : decode cX3_onAdd 46 = .ok (.invokevirtual 136, 3) := by decide +kernel
theorem dX3_onAdd_49 : decode cX3_onAdd 49 = .ok (.ifCond .ne 24, 3) := by decide +kernel
theorem dX3_onAdd_52 : decode cX3_onAdd 52 = .ok (.aload_n 0, 1) := by decide +kernel
theorem dX3_onAdd_53 : decode cX3_onAdd 53 = .ok (.iload_n 3, 1) := by decide +kernel
theorem dX3_onAdd_54 : decode cX3_onAdd 54 = .ok (.aload_n 0, 1) := by decide +kernel
theorem dX3_onAdd_55 : decode cX3_onAdd 55 = .ok (.getfield 11, 3) := by decide +kernel
theorem dX3_onAdd_58 : decode cX3_onAdd 58 = .ok (.iload_n 3, 1) := by decide +kernel
theorem dX3_onAdd_59 : decode cX3_onAdd 59 = .ok (.aaload, 1) := by decide +kernel
theorem dX3_onAdd_60 : decode cX3_onAdd 60 = .ok (.iconst 2, 1) := by decide +kernel
theorem dX3_onAdd_61 : decode cX3_onAdd 61 = .ok (.iaload, 1) := by decide +kernel
theorem dX3_onAdd_62 : decode cX3_onAdd 62 = .ok (.iconst 1, 1) := by decide +kernel
theorem dX3_onAdd_63 : decode cX3_onAdd 63 = .ok (.iload 4, 2) := by decide +kernel
theorem dX3_onAdd_65 : decode cX3_onAdd 65 = .ok (.ishl, 1) := by decide +kernel
theorem dX3_onAdd_66 : decode cX3_onAdd 66 = .ok (.ior, 1) := by decide +kernel
theorem dX3_onAdd_67 : decode cX3_onAdd 67 = .ok (.invokevirtual 155, 3) := by decide +kernel
theorem dX3_onAdd_70 : decode cX3_onAdd 70 = .ok (.goto 9, 3) := by decide +kernel
theorem dX3_onAdd_73 : decode cX3_onAdd 73 = .ok (.aload_n 0, 1) := by decide +kernel
theorem dX3_onAdd_74 : decode cX3_onAdd 74 = .ok (.iload_n 3, 1) := by decide +kernel
theorem dX3_onAdd_75 : decode cX3_onAdd 75 = .ok (.iload_n 1, 1) := by decide +kernel
theorem dX3_onAdd_76 : decode cX3_onAdd 76 = .ok (.invokevirtual 118, 3) := by decide +kernel
theorem dX3_onAdd_79 : decode cX3_onAdd 79 = .ok (.return_, 1) := by decide +kernel
theorem dX3_onFail_0 : decode cX3_onFail 0 = .ok (.aload_n 0, 1) := by decide +kernel
theorem dX3_onFail_1 : decode cX3_onFail 1 = .ok (.iload_n 1, 1) := by decide +kernel
theorem dX3_onFail_2 : decode cX3_onFail 2 = .ok (.aload_n 2, 1) := by decide +kernel
theorem dX3_onFail_3 : decode cX3_onFail 3 = .ok (.invokevirtual 151, 3) := by decide +kernel
theorem dX3_onFail_6 : decode cX3_onFail 6 = .ok (.ifCond .ne 4, 3) := by decide +kernel
theorem dX3_onFail_9 : decode cX3_onFail 9 = .ok (.return_, 1) := by decide +kernel
theorem dX3_onFail_10 : decode cX3_onFail 10 = .ok (.aload_n 2, 1) := by decide +kernel
theorem dX3_onFail_11 : decode cX3_onFail 11 = .ok (.getfield 142, 3) := by decide +kernel
theorem dX3_onFail_14 : decode cX3_onFail 14 = .ok (.iconst 0, 1) := by decide +kernel
theorem dX3_onFail_15 : decode cX3_onFail 15 = .ok (.iaload, 1) := by decide +kernel
theorem dX3_onFail_16 : decode cX3_onFail 16 = .ok (.istore_n 3, 1) := by decide +kernel
theorem dX3_onFail_17 : decode cX3_onFail 17 = .ok (.aload_n 2, 1) := by decide +kernel
theorem dX3_onFail_18 : decode cX3_onFail 18 = .ok (.getfield 142, 3) := by decide +kernel
theorem dX3_onFail_21 : decode cX3_onFail 21 = .ok (.iconst 2, 1) := by decide +kernel
theorem dX3_onFail_22 : decode cX3_onFail 22 = .ok (.iaload, 1) := by decide +kernel
theorem dX3_onFail_23 : decode cX3_onFail 23 = .ok (.istore 4, 2) := by decide +kernel
theorem dX3_onFail_25 : decode cX3_onFail 25 = .ok (.aload_n 0, 1) := by decide +kernel
theorem dX3_onFail_26 : decode cX3_onFail 26 = .ok (.iload_n 3, 1) := by decide +kernel
theorem dX3_onFail_27 : decode cX3_onFail 27 = .ok (.iload 4, 2) := by decide +kernel
theorem dX3_onFail_29 : decode cX3_onFail 29 = .ok (.invokevirtual 136, 3) := by decide +kernel
theorem dX3_onFail_32 : decode cX3_onFail 32 = .ok (.ifCond .eq 29, 3) := by decide +kernel
theorem dX3_onFail_35 : decode cX3_onFail 35 = .ok (.iload 4, 2) := by decide +kernel
theorem dX3_onFail_37 : decode cX3_onFail 37 = .ok (.iload_n 1, 1) := by decide +kernel
theorem dX3_onFail_38 : decode cX3_onFail 38 = .ok (.if_icmp .eq 23, 3) := by decide +kernel
theorem dX3_onFail_41 : decode cX3_onFail 41 = .ok (.aload_n 0, 1) := by decide +kernel
theorem dX3_onFail_42 : decode cX3_onFail 42 = .ok (.iload_n 3, 1) := by decide +kernel
theorem dX3_onFail_43 : decode cX3_onFail 43 = .ok (.aload_n 0, 1) := by decide +kernel
theorem dX3_onFail_44 : decode cX3_onFail 44 = .ok (.getfield 11, 3) := by decide +kernel
theorem dX3_onFail_47 : decode cX3_onFail 47 = .ok (.iload_n 3, 1) := by decide +kernel
theorem dX3_onFail_48 : decode cX3_onFail 48 = .ok (.aaload, 1) := by decide +kernel
theorem dX3_onFail_49 : decode cX3_onFail 49 = .ok (.iconst 2, 1) := by decide +kernel
theorem dX3_onFail_50 : decode cX3_onFail 50 = .ok (.iaload, 1) := by decide +kernel
theorem dX3_onFail_51 : decode cX3_onFail 51 = .ok (.iconst 1, 1) := by decide +kernel
theorem dX3_onFail_52 : decode cX3_onFail 52 = .ok (.iload 4, 2) := by decide +kernel
theorem dX3_onFail_54 : decode cX3_onFail 54 = .ok (.ishl, 1) := by decide +kernel
theorem dX3_onFail_55 : decode cX3_onFail 55 = .ok (.iconst (-1), 1) := by decide +kernel
theorem dX3_onFail_56 : decode cX3_onFail 56 = .ok (.ixor, 1) := by decide +kernel
theorem dX3_onFail_57 : decode cX3_onFail 57 = .ok (.iand, 1) := by decide +kernel
theorem dX3_onFail_58 : decode cX3_onFail 58 = .ok (.invokevirtual 155, 3) := by decide +kernel
theorem dX3_onFail_61 : decode cX3_onFail 61 = .ok (.aload_n 0, 1) := by decide +kernel
theorem dX3_onFail_62 : decode cX3_onFail 62 = .ok (.getfield 24, 3) := by decide +kernel
theorem dX3_onFail_65 : decode cX3_onFail 65 = .ok (.aload_n 0, 1) := by decide +kernel
theorem dX3_onFail_66 : decode cX3_onFail 66 = .ok (.getfield 24, 3) := by decide +kernel
theorem dX3_onFail_69 : decode cX3_onFail 69 = .ok (.getfield 111, 3) := by decide +kernel
theorem dX3_onFail_72 : decode cX3_onFail 72 = .ok (.iload_n 1, 1) := by decide +kernel
theorem dX3_onFail_73 : decode cX3_onFail 73 = .ok (.bipush 13, 2) := by decide +kernel
theorem dX3_onFail_75 : decode cX3_onFail 75 = .ok (.invokevirtual 126, 3) := by decide +kernel
theorem dX3_onFail_78 : decode cX3_onFail 78 = .ok (.iload_n 3, 1) := by decide +kernel
theorem dX3_onFail_79 : decode cX3_onFail 79 = .ok (.aload_n 2, 1) := by decide +kernel
theorem dX3_onFail_80 : decode cX3_onFail 80 = .ok (.getfield 142, 3) := by decide +kernel
theorem dX3_onFail_83 : decode cX3_onFail 83 = .ok (.iconst 1, 1) := by decide +kernel
theorem dX3_onFail_84 : decode cX3_onFail 84 = .ok (.iaload, 1) := by decide +kernel
theorem dX3_onFail_85 : decode cX3_onFail 85 = .ok (.iload 4, 2) := by decide +kernel
theorem dX3_onFail_87 : decode cX3_onFail 87 = .ok (.aload_n 2, 1) := by decide +kernel
theorem dX3_onFail_88 : decode cX3_onFail 88 = .ok (.getfield 142, 3) := by decide +kernel
theorem dX3_onFail_91 : decode cX3_onFail 91 = .ok (.iconst 3, 1) := by decide +kernel
theorem dX3_onFail_92 : decode cX3_onFail 92 = .ok (.iaload, 1) := by decide +kernel
theorem dX3_onFail_93 : decode cX3_onFail 93 = .ok (.iconst 0, 1) := by decide +kernel
theorem dX3_onFail_94 : decode cX3_onFail 94 = .ok (.invokevirtual 130, 3) := by decide +kernel
theorem dX3_onFail_97 : decode cX3_onFail 97 = .ok (.pop, 1) := by decide +kernel
theorem dX3_onFail_98 : decode cX3_onFail 98 = .ok (.return_, 1) := by decide +kernel
theorem dX3_onSign_0 : decode cX3_onSign 0 = .ok (.iload_n 1, 1) := by decide +kernel
theorem dX3_onSign_1 : decode cX3_onSign 1 = .ok (.ifCond .lt 14, 3) := by decide +kernel
theorem dX3_onSign_4 : decode cX3_onSign 4 = .ok (.iload_n 1, 1) := by decide +kernel
theorem dX3_onSign_5 : decode cX3_onSign 5 = .ok (.aload_n 0, 1) := by decide +kernel
theorem dX3_onSign_6 : decode cX3_onSign 6 = .ok (.getfield 24, 3) := by decide +kernel
theorem dX3_onSign_9 : decode cX3_onSign 9 = .ok (.getfield 111, 3) := by decide +kernel
theorem dX3_onSign_12 : decode cX3_onSign 12 = .ok (.if_icmp .lt 4, 3) := by decide +kernel
theorem dX3_onSign_15 : decode cX3_onSign 15 = .ok (.return_, 1) := by decide +kernel
theorem dX3_onSign_16 : decode cX3_onSign 16 = .ok (.aload_n 0, 1) := by decide +kernel
theorem dX3_onSign_17 : decode cX3_onSign 17 = .ok (.getfield 16, 3) := by decide +kernel
theorem dX3_onSign_20 : decode cX3_onSign 20 = .ok (.iload_n 1, 1) := by decide +kernel
theorem dX3_onSign_21 : decode cX3_onSign 21 = .ok (.iconst 1, 1) := by decide +kernel
theorem dX3_onSign_22 : decode cX3_onSign 22 = .ok (.bastore, 1) := by decide +kernel
theorem dX3_onSign_23 : decode cX3_onSign 23 = .ok (.aload_n 0, 1) := by decide +kernel
theorem dX3_onSign_24 : decode cX3_onSign 24 = .ok (.getfield 20, 3) := by decide +kernel
theorem dX3_onSign_27 : decode cX3_onSign 27 = .ok (.iload_n 1, 1) := by decide +kernel
theorem dX3_onSign_28 : decode cX3_onSign 28 = .ok (.aload_n 0, 1) := by decide +kernel
theorem dX3_onSign_29 : decode cX3_onSign 29 = .ok (.getfield 24, 3) := by decide +kernel
theorem dX3_onSign_32 : decode cX3_onSign 32 = .ok (.getfield 56, 3) := by decide +kernel
theorem dX3_onSign_35 : decode cX3_onSign 35 = .ok (.iastore, 1) := by decide +kernel
theorem dX3_onSign_36 : decode cX3_onSign 36 = .ok (.iconst 0, 1) := by decide +kernel
theorem dX3_onSign_37 : decode cX3_onSign 37 = .ok (.istore_n 3, 1) := by decide +kernel
theorem dX3_onSign_38 : decode cX3_onSign 38 = .ok (.iconst 0, 1) := by decide +kernel
theorem dX3_onSign_39 : decode cX3_onSign 39 = .ok (.istore 4, 2) := by decide +kernel
theorem dX3_onSign_41 : decode cX3_onSign 41 = .ok (.iload 4, 2) := by decide +kernel
theorem dX3_onSign_43 : decode cX3_onSign 43 = .ok (.aload_n 0, 1) := by decide +kernel
theorem dX3_onSign_44 : decode cX3_onSign 44 = .ok (.getfield 24, 3) := by decide +kernel
theorem dX3_onSign_47 : decode cX3_onSign 47 = .ok (.getfield 63, 3) := by decide +kernel
theorem dX3_onSign_50 : decode cX3_onSign 50 = .ok (.if_icmp .ge 48, 3) := by decide +kernel
theorem dX3_onSign_53 : decode cX3_onSign 53 = .ok (.aload_n 0, 1) := by decide +kernel
theorem dX3_onSign_54 : decode cX3_onSign 54 = .ok (.iload 4, 2) := by decide +kernel
theorem dX3_onSign_56 : decode cX3_onSign 56 = .ok (.iload_n 1, 1) := by decide +kernel
theorem dX3_onSign_57 : decode cX3_onSign 57 = .ok (.invokevirtual 136, 3) := by decide +kernel
theorem dX3_onSign_60 : decode cX3_onSign 60 = .ok (.ifCond .eq 32, 3) := by decide +kernel
theorem dX3_onSign_63 : decode cX3_onSign 63 = .ok (.aload_n 0, 1) := by decide +kernel
theorem dX3_onSign_64 : decode cX3_onSign 64 = .ok (.aload_n 0, 1) := by decide +kernel
theorem dX3_onSign_65 : decode cX3_onSign 65 = .ok (.getfield 11, 3) := by decide +kernel
theorem dX3_onSign_68 : decode cX3_onSign 68 = .ok (.iload 4, 2) := by decide +kernel
theorem dX3_onSign_70 : decode cX3_onSign 70 = .ok (.aaload, 1) := by decide +kernel
theorem dX3_onSign_71 : decode cX3_onSign 71 = .ok (.iconst 1, 1) := by decide +kernel
theorem dX3_onSign_72 : decode cX3_onSign 72 = .ok (.iaload, 1) := by decide +kernel
theorem dX3_onSign_73 : decode cX3_onSign 73 = .ok (.invokevirtual 139, 3) := by decide +kernel
theorem dX3_onSign_76 : decode cX3_onSign 76 = .ok (.ifCond .ne 16, 3) := by decide +kernel
theorem dX3_onSign_79 : decode cX3_onSign 79 = .ok (.iload_n 3, 1) := by decide +kernel
theorem dX3_onSign_80 : decode cX3_onSign 80 = .ok (.iconst 1, 1) := by decide +kernel
theorem dX3_onSign_81 : decode cX3_onSign 81 = .ok (.iload 4, 2) := by decide +kernel
theorem dX3_onSign_83 : decode cX3_onSign 83 = .ok (.ishl, 1) := by decide +kernel
theorem dX3_onSign_84 : decode cX3_onSign 84 = .ok (.ior, 1) := by decide +kernel
theorem dX3_onSign_85 : decode cX3_onSign 85 = .ok (.istore_n 3, 1) := by decide +kernel
theorem dX3_onSign_86 : decode cX3_onSign 86 = .ok (.aload_n 0, 1) := by decide +kernel
theorem dX3_onSign_87 : decode cX3_onSign 87 = .ok (.iload 4, 2) := by decide +kernel
theorem dX3_onSign_89 : decode cX3_onSign 89 = .ok (.invokevirtual 158, 3) := by decide +kernel
theorem dX3_onSign_92 : decode cX3_onSign 92 = .ok (.iinc 4 1, 3) := by decide +kernel
theorem dX3_onSign_95 : decode cX3_onSign 95 = .ok (.goto (-54), 3) := by decide +kernel
theorem dX3_onSign_98 : decode cX3_onSign 98 = .ok (.iconst 0, 1) := by decide +kernel
theorem dX3_onSign_99 : decode cX3_onSign 99 = .ok (.istore 4, 2) := by decide +kernel
theorem dX3_onSign_101 : decode cX3_onSign 101 = .ok (.iload 4, 2) := by decide +kernel
theorem dX3_onSign_103 : decode cX3_onSign 103 = .ok (.aload_n 0, 1) := by decide +kernel
theorem dX3_onSign_104 : decode cX3_onSign 104 = .ok (.getfield 24, 3) := by decide +kernel
theorem dX3_onSign_107 : decode cX3_onSign 107 = .ok (.getfield 63, 3) := by decide +kernel
theorem dX3_onSign_110 : decode cX3_onSign 110 = .ok (.if_icmp .ge 175, 3) := by decide +kernel
theorem dX3_onSign_113 : decode cX3_onSign 113 = .ok (.aload_n 0, 1) := by decide +kernel
theorem dX3_onSign_114 : decode cX3_onSign 114 = .ok (.getfield 24, 3) := by decide +kernel
theorem dX3_onSign_117 : decode cX3_onSign 117 = .ok (.iload_n 1, 1) := by decide +kernel
theorem dX3_onSign_118 : decode cX3_onSign 118 = .ok (.iload 4, 2) := by decide +kernel
theorem dX3_onSign_120 : decode cX3_onSign 120 = .ok (.invokevirtual 114, 3) := by decide +kernel
theorem dX3_onSign_123 : decode cX3_onSign 123 = .ok (.ifCond .eq 156, 3) := by decide +kernel
theorem dX3_onSign_126 : decode cX3_onSign 126 = .ok (.iload_n 3, 1) := by decide +kernel
theorem dX3_onSign_127 : decode cX3_onSign 127 = .ok (.iload 4, 2) := by decide +kernel
theorem dX3_onSign_129 : decode cX3_onSign 129 = .ok (.ishr, 1) := by decide +kernel
theorem dX3_onSign_130 : decode cX3_onSign 130 = .ok (.iconst 1, 1) := by decide +kernel
theorem dX3_onSign_131 : decode cX3_onSign 131 = .ok (.iand, 1) := by decide +kernel
theorem dX3_onSign_132 : decode cX3_onSign 132 = .ok (.iconst 1, 1) := by decide +kernel
theorem dX3_onSign_133 : decode cX3_onSign 133 = .ok (.if_icmp .ne 6, 3) := by decide +kernel
theorem dX3_onSign_136 : decode cX3_onSign 136 = .ok (.goto 143, 3) := by decide +kernel
theorem dX3_onSign_139 : decode cX3_onSign 139 = .ok (.aload_n 0, 1) := by decide +kernel
theorem dX3_onSign_140 : decode cX3_onSign 140 = .ok (.getfield 11, 3) := by decide +kernel
theorem dX3_onSign_143 : decode cX3_onSign 143 = .ok (.iload 4, 2) := by decide +kernel
theorem dX3_onSign_145 : decode cX3_onSign 145 = .ok (.aaload, 1) := by decide +kernel
theorem dX3_onSign_146 : decode cX3_onSign 146 = .ok (.iconst 1, 1) := by decide +kernel
theorem dX3_onSign_147 : decode cX3_onSign 147 = .ok (.iaload, 1) := by decide +kernel
theorem dX3_onSign_148 : decode cX3_onSign 148 = .ok (.iload_n 1, 1) := by decide +kernel
theorem dX3_onSign_149 : decode cX3_onSign 149 = .ok (.if_icmp .ne 7, 3) := by decide +kernel
theorem dX3_onSign_152 : decode cX3_onSign 152 = .ok (.iconst 1, 1) := by decide +kernel
theorem dX3_onSign_153 : decode cX3_onSign 153 = .ok (.goto 4, 3) := by decide +kernel
theorem dX3_onSign_156 : decode cX3_onSign 156 = .ok (.iconst 0, 1) := by decide +kernel
theorem dX3_onSign_157 : decode cX3_onSign 157 = .ok (.istore 5, 2) := by decide +kernel
theorem dX3_onSign_159 : decode cX3_onSign 159 = .ok (.aload_n 2, 1) := by decide +kernel
theorem dX3_onSign_160 : decode cX3_onSign 160 = .ok (.getfield 142, 3) := by decide +kernel
theorem dX3_onSign_163 : decode cX3_onSign 163 = .ok (.iconst 5, 1) := by decide +kernel
theorem dX3_onSign_164 : decode cX3_onSign 164 = .ok (.iconst 2, 1) := by decide +kernel
theorem dX3_onSign_165 : decode cX3_onSign 165 = .ok (.iload 4, 2) := by decide +kernel
theorem dX3_onSign_167 : decode cX3_onSign 167 = .ok (.imul, 1) := by decide +kernel
theorem dX3_onSign_168 : decode cX3_onSign 168 = .ok (.iadd, 1) := by decide +kernel
theorem dX3_onSign_169 : decode cX3_onSign 169 = .ok (.iaload, 1) := by decide +kernel
theorem dX3_onSign_170 : decode cX3_onSign 170 = .ok (.istore 6, 2) := by decide +kernel
theorem dX3_onSign_172 : decode cX3_onSign 172 = .ok (.aload_n 2, 1) := by decide +kernel
theorem dX3_onSign_173 : decode cX3_onSign 173 = .ok (.getfield 142, 3) := by decide +kernel
theorem dX3_onSign_176 : decode cX3_onSign 176 = .ok (.iconst 5, 1) := by decide +kernel
theorem dX3_onSign_177 : decode cX3_onSign 177 = .ok (.iconst 2, 1) := by decide +kernel
theorem dX3_onSign_178 : decode cX3_onSign 178 = .ok (.iload 4, 2) := by decide +kernel
theorem dX3_onSign_180 : decode cX3_onSign 180 = .ok (.imul, 1) := by decide +kernel
theorem dX3_onSign_181 : decode cX3_onSign 181 = .ok (.iadd, 1) := by decide +kernel
theorem dX3_onSign_182 : decode cX3_onSign 182 = .ok (.iconst 1, 1) := by decide +kernel
theorem dX3_onSign_183 : decode cX3_onSign 183 = .ok (.iadd, 1) := by decide +kernel
theorem dX3_onSign_184 : decode cX3_onSign 184 = .ok (.iaload, 1) := by decide +kernel
theorem dX3_onSign_185 : decode cX3_onSign 185 = .ok (.istore 7, 2) := by decide +kernel
theorem dX3_onSign_187 : decode cX3_onSign 187 = .ok (.aload_n 2, 1) := by decide +kernel
theorem dX3_onSign_188 : decode cX3_onSign 188 = .ok (.getfield 161, 3) := by decide +kernel
theorem dX3_onSign_191 : decode cX3_onSign 191 = .ok (.bipush 15, 2) := by decide +kernel
theorem dX3_onSign_193 : decode cX3_onSign 193 = .ok (.if_icmp .ne 16, 3) := by decide +kernel
theorem dX3_onSign_196 : decode cX3_onSign 196 = .ok (.iload 5, 2) := by decide +kernel
theorem dX3_onSign_198 : decode cX3_onSign 198 = .ok (.ifCond .ne 7, 3) := by decide +kernel
theorem dX3_onSign_201 : decode cX3_onSign 201 = .ok (.iconst 1, 1) := by decide +kernel
theorem dX3_onSign_202 : decode cX3_onSign 202 = .ok (.goto 26, 3) := by decide +kernel
theorem dX3_onSign_205 : decode cX3_onSign 205 = .ok (.iconst 0, 1) := by decide +kernel
theorem dX3_onSign_206 : decode cX3_onSign 206 = .ok (.goto 22, 3) := by decide +kernel
theorem dX3_onSign_209 : decode cX3_onSign 209 = .ok (.iload 6, 2) := by decide +kernel
theorem dX3_onSign_211 : decode cX3_onSign 211 = .ok (.aload_n 0, 1) := by decide +kernel
theorem dX3_onSign_212 : decode cX3_onSign 212 = .ok (.getfield 11, 3) := by decide +kernel
theorem dX3_onSign_215 : decode cX3_onSign 215 = .ok (.iload 4, 2) := by decide +kernel
theorem dX3_onSign_217 : decode cX3_onSign 217 = .ok (.aaload, 1) := by decide +kernel
theorem dX3_onSign_218 : decode cX3_onSign 218 = .ok (.iconst 3, 1) := by decide +kernel
theorem dX3_onSign_219 : decode cX3_onSign 219 = .ok (.iaload, 1) := by decide +kernel
theorem dX3_onSign_220 : decode cX3_onSign 220 = .ok (.if_icmp .ge 7, 3) := by decide +kernel
theorem dX3_onSign_223 : decode cX3_onSign 223 = .ok (.iconst 1, 1) := by decide +kernel
theorem dX3_onSign_224 : decode cX3_onSign 224 = .ok (.goto 4, 3) := by decide +kernel
theorem dX3_onSign_227 : decode cX3_onSign 227 = .ok (.iconst 0, 1) := by decide +kernel
theorem dX3_onSign_228 : decode cX3_onSign 228 = .ok (.istore 8, 2) := by decide +kernel
theorem dX3_onSign_230 : decode cX3_onSign 230 = .ok (.iload 8, 2) := by decide +kernel
theorem dX3_onSign_232 : decode cX3_onSign 232 = .ok (.ifCond .eq 13, 3) := by decide +kernel
theorem dX3_onSign_235 : decode cX3_onSign 235 = .ok (.aload_n 0, 1) := by decide +kernel
theorem dX3_onSign_236 : decode cX3_onSign 236 = .ok (.iload 4, 2) := by decide +kernel
theorem dX3_onSign_238 : decode cX3_onSign 238 = .ok (.iload_n 1, 1) := by decide +kernel
theorem dX3_onSign_239 : decode cX3_onSign 239 = .ok (.invokevirtual 118, 3) := by decide +kernel
theorem dX3_onSign_242 : decode cX3_onSign 242 = .ok (.goto 37, 3) := by decide +kernel
theorem dX3_onSign_245 : decode cX3_onSign 245 = .ok (.iload 5, 2) := by decide +kernel
theorem dX3_onSign_247 : decode cX3_onSign 247 = .ok (.ifCond .eq 32, 3) := by decide +kernel
theorem dX3_onSign_250 : decode cX3_onSign 250 = .ok (.aload_n 2, 1) := by decide +kernel
theorem dX3_onSign_251 : decode cX3_onSign 251 = .ok (.getfield 161, 3) := by decide +kernel
theorem dX3_onSign_254 : decode cX3_onSign 254 = .ok (.bipush 15, 2) := by decide +kernel
theorem dX3_onSign_256 : decode cX3_onSign 256 = .ok (.if_icmp .eq 17, 3) := by decide +kernel
theorem dX3_onSign_259 : decode cX3_onSign 259 = .ok (.iload 7, 2) := by decide +kernel
theorem dX3_onSign_261 : decode cX3_onSign 261 = .ok (.aload_n 0, 1) := by decide +kernel
theorem dX3_onSign_262 : decode cX3_onSign 262 = .ok (.getfield 11, 3) := by decide +kernel
theorem dX3_onSign_265 : decode cX3_onSign 265 = .ok (.iload 4, 2) := by decide +kernel
theorem dX3_onSign_267 : decode cX3_onSign 267 = .ok (.aaload, 1) := by decide +kernel
theorem dX3_onSign_268 : decode cX3_onSign 268 = .ok (.iconst 0, 1) := by decide +kernel
theorem dX3_onSign_269 : decode cX3_onSign 269 = .ok (.iaload, 1) := by decide +kernel
theorem dX3_onSign_270 : decode cX3_onSign 270 = .ok (.if_icmp .eq 9, 3) := by decide +kernel
theorem dX3_onSign_273 : decode cX3_onSign 273 = .ok (.aload_n 0, 1) := by decide +kernel
theorem dX3_onSign_274 : decode cX3_onSign 274 = .ok (.iload 4, 2) := by decide +kernel
theorem dX3_onSign_276 : decode cX3_onSign 276 = .ok (.invokevirtual 158, 3) := by decide +kernel
theorem dX3_onSign_279 : decode cX3_onSign 279 = .ok (.iinc 4 1, 3) := by decide +kernel
theorem dX3_onSign_282 : decode cX3_onSign 282 = .ok (.goto (-181), 3) := by decide +kernel
theorem dX3_onSign_285 : decode cX3_onSign 285 = .ok (.return_, 1) := by decide +kernel
theorem dX3_watch_0 : decode cX3_watch 0 = .ok (.iconst 0, 1) := by decide +kernel
theorem dX3_watch_1 : decode cX3_watch 1 = .ok (.istore_n 1, 1) := by decide +kernel
theorem dX3_watch_2 : decode cX3_watch 2 = .ok (.iload_n 1, 1) := by decide +kernel
theorem dX3_watch_3 : decode cX3_watch 3 = .ok (.aload_n 0, 1) := by decide +kernel
theorem dX3_watch_4 : decode cX3_watch 4 = .ok (.getfield 24, 3) := by decide +kernel
theorem dX3_watch_7 : decode cX3_watch 7 = .ok (.getfield 111, 3) := by decide +kernel
theorem dX3_watch_10 : decode cX3_watch 10 = .ok (.if_icmp .ge 151, 3) := by decide +kernel
theorem dX3_watch_13 : decode cX3_watch 13 = .ok (.aload_n 0, 1) := by decide +kernel
theorem dX3_watch_14 : decode cX3_watch 14 = .ok (.getfield 16, 3) := by decide +kernel
theorem dX3_watch_17 : decode cX3_watch 17 = .ok (.iload_n 1, 1) := by decide +kernel
theorem dX3_watch_18 : decode cX3_watch 18 = .ok (.baload, 1) := by decide +kernel
theorem dX3_watch_19 : decode cX3_watch 19 = .ok (.ifCond .eq 26, 3) := by decide +kernel
theorem dX3_watch_22 : decode cX3_watch 22 = .ok (.aload_n 0, 1) := by decide +kernel
theorem dX3_watch_23 : decode cX3_watch 23 = .ok (.getfield 24, 3) := by decide +kernel
theorem dX3_watch_26 : decode cX3_watch 26 = .ok (.getfield 56, 3) := by decide +kernel
theorem dX3_watch_29 : decode cX3_watch 29 = .ok (.aload_n 0, 1) := by decide +kernel
theorem dX3_watch_30 : decode cX3_watch 30 = .ok (.getfield 20, 3) := by decide +kernel
theorem dX3_watch_33 : decode cX3_watch 33 = .ok (.iload_n 1, 1) := by decide +kernel
theorem dX3_watch_34 : decode cX3_watch 34 = .ok (.iaload, 1) := by decide +kernel
theorem dX3_watch_35 : decode cX3_watch 35 = .ok (.isub, 1) := by decide +kernel
theorem dX3_watch_36 : decode cX3_watch 36 = .ok (.bipush 8, 2) := by decide +kernel
theorem dX3_watch_38 : decode cX3_watch 38 = .ok (.if_icmp .lt 7, 3) := by decide +kernel
theorem dX3_watch_41 : decode cX3_watch 41 = .ok (.iconst 1, 1) := by decide +kernel
theorem dX3_watch_42 : decode cX3_watch 42 = .ok (.goto 4, 3) := by decide +kernel
theorem dX3_watch_45 : decode cX3_watch 45 = .ok (.iconst 0, 1) := by decide +kernel
theorem dX3_watch_46 : decode cX3_watch 46 = .ok (.istore_n 2, 1) := by decide +kernel
theorem dX3_watch_47 : decode cX3_watch 47 = .ok (.aload_n 0, 1) := by decide +kernel
theorem dX3_watch_48 : decode cX3_watch 48 = .ok (.getfield 16, 3) := by decide +kernel
theorem dX3_watch_51 : decode cX3_watch 51 = .ok (.iload_n 1, 1) := by decide +kernel
theorem dX3_watch_52 : decode cX3_watch 52 = .ok (.aload_n 0, 1) := by decide +kernel
theorem dX3_watch_53 : decode cX3_watch 53 = .ok (.getfield 16, 3) := by decide +kernel
theorem dX3_watch_56 : decode cX3_watch 56 = .ok (.iload_n 1, 1) := by decide +kernel
theorem dX3_watch_57 : decode cX3_watch 57 = .ok (.baload, 1) := by decide +kernel
theorem dX3_watch_58 : decode cX3_watch 58 = .ok (.ifCond .eq 11, 3) := by decide +kernel
theorem dX3_watch_61 : decode cX3_watch 61 = .ok (.iload_n 2, 1) := by decide +kernel
theorem dX3_watch_62 : decode cX3_watch 62 = .ok (.ifCond .ne 7, 3) := by decide +kernel
theorem dX3_watch_65 : decode cX3_watch 65 = .ok (.iconst 1, 1) := by decide +kernel
theorem dX3_watch_66 : decode cX3_watch 66 = .ok (.goto 4, 3) := by decide +kernel
theorem dX3_watch_69 : decode cX3_watch 69 = .ok (.iconst 0, 1) := by decide +kernel
theorem dX3_watch_70 : decode cX3_watch 70 = .ok (.bastore, 1) := by decide +kernel
theorem dX3_watch_71 : decode cX3_watch 71 = .ok (.iconst 0, 1) := by decide +kernel
theorem dX3_watch_72 : decode cX3_watch 72 = .ok (.istore_n 3, 1) := by decide +kernel
theorem dX3_watch_73 : decode cX3_watch 73 = .ok (.iload_n 2, 1) := by decide +kernel
theorem dX3_watch_74 : decode cX3_watch 74 = .ok (.ifCond .eq 81, 3) := by decide +kernel
theorem dX3_watch_77 : decode cX3_watch 77 = .ok (.iload_n 3, 1) := by decide +kernel
theorem dX3_watch_78 : decode cX3_watch 78 = .ok (.aload_n 0, 1) := by decide +kernel
theorem dX3_watch_79 : decode cX3_watch 79 = .ok (.getfield 24, 3) := by decide +kernel
theorem dX3_watch_82 : decode cX3_watch 82 = .ok (.getfield 63, 3) := by decide +kernel
theorem dX3_watch_85 : decode cX3_watch 85 = .ok (.if_icmp .ge 70, 3) := by decide +kernel
theorem dX3_watch_88 : decode cX3_watch 88 = .ok (.aload_n 0, 1) := by decide +kernel
theorem dX3_watch_89 : decode cX3_watch 89 = .ok (.getfield 11, 3) := by decide +kernel
theorem dX3_watch_92 : decode cX3_watch 92 = .ok (.iload_n 3, 1) := by decide +kernel
theorem dX3_watch_93 : decode cX3_watch 93 = .ok (.aaload, 1) := by decide +kernel
theorem dX3_watch_94 : decode cX3_watch 94 = .ok (.iconst 1, 1) := by decide +kernel
theorem dX3_watch_95 : decode cX3_watch 95 = .ok (.iaload, 1) := by decide +kernel
theorem dX3_watch_96 : decode cX3_watch 96 = .ok (.istore 4, 2) := by decide +kernel
theorem dX3_watch_98 : decode cX3_watch 98 = .ok (.iload 4, 2) := by decide +kernel
theorem dX3_watch_100 : decode cX3_watch 100 = .ok (.iload_n 1, 1) := by decide +kernel
theorem dX3_watch_101 : decode cX3_watch 101 = .ok (.if_icmp .ne 11, 3) := by decide +kernel
theorem dX3_watch_104 : decode cX3_watch 104 = .ok (.aload_n 0, 1) := by decide +kernel
theorem dX3_watch_105 : decode cX3_watch 105 = .ok (.iload_n 3, 1) := by decide +kernel
theorem dX3_watch_106 : decode cX3_watch 106 = .ok (.invokevirtual 158, 3) := by decide +kernel
theorem dX3_watch_109 : decode cX3_watch 109 = .ok (.goto 40, 3) := by decide +kernel
theorem dX3_watch_112 : decode cX3_watch 112 = .ok (.aload_n 0, 1) := by decide +kernel
theorem dX3_watch_113 : decode cX3_watch 113 = .ok (.iload_n 3, 1) := by decide +kernel
theorem dX3_watch_114 : decode cX3_watch 114 = .ok (.iload_n 1, 1) := by decide +kernel
theorem dX3_watch_115 : decode cX3_watch 115 = .ok (.invokevirtual 136, 3) := by decide +kernel
theorem dX3_watch_118 : decode cX3_watch 118 = .ok (.ifCond .eq 31, 3) := by decide +kernel
theorem dX3_watch_121 : decode cX3_watch 121 = .ok (.aload_n 0, 1) := by decide +kernel
theorem dX3_watch_122 : decode cX3_watch 122 = .ok (.iload 4, 2) := by decide +kernel
theorem dX3_watch_124 : decode cX3_watch 124 = .ok (.invokevirtual 139, 3) := by decide +kernel
theorem dX3_watch_127 : decode cX3_watch 127 = .ok (.ifCond .eq 22, 3) := by decide +kernel
theorem dX3_watch_130 : decode cX3_watch 130 = .ok (.aload_n 0, 1) := by decide +kernel
theorem dX3_watch_131 : decode cX3_watch 131 = .ok (.iload_n 3, 1) := by decide +kernel
theorem dX3_watch_132 : decode cX3_watch 132 = .ok (.aload_n 0, 1) := by decide +kernel
theorem dX3_watch_133 : decode cX3_watch 133 = .ok (.getfield 11, 3) := by decide +kernel
theorem dX3_watch_136 : decode cX3_watch 136 = .ok (.iload_n 3, 1) := by decide +kernel
theorem dX3_watch_137 : decode cX3_watch 137 = .ok (.aaload, 1) := by decide +kernel
theorem dX3_watch_138 : decode cX3_watch 138 = .ok (.iconst 2, 1) := by decide +kernel
theorem dX3_watch_139 : decode cX3_watch 139 = .ok (.iaload, 1) := by decide +kernel
theorem dX3_watch_140 : decode cX3_watch 140 = .ok (.iconst 1, 1) := by decide +kernel
theorem dX3_watch_141 : decode cX3_watch 141 = .ok (.iload_n 1, 1) := by decide +kernel
theorem dX3_watch_142 : decode cX3_watch 142 = .ok (.ishl, 1) := by decide +kernel
theorem dX3_watch_143 : decode cX3_watch 143 = .ok (.iconst (-1), 1) := by decide +kernel
theorem dX3_watch_144 : decode cX3_watch 144 = .ok (.ixor, 1) := by decide +kernel
theorem dX3_watch_145 : decode cX3_watch 145 = .ok (.iand, 1) := by decide +kernel
theorem dX3_watch_146 : decode cX3_watch 146 = .ok (.invokevirtual 155, 3) := by decide +kernel
theorem dX3_watch_149 : decode cX3_watch 149 = .ok (.iinc 3 1, 3) := by decide +kernel
theorem dX3_watch_152 : decode cX3_watch 152 = .ok (.goto (-79), 3) := by decide +kernel
theorem dX3_watch_155 : decode cX3_watch 155 = .ok (.iinc 1 1, 3) := by decide +kernel
theorem dX3_watch_158 : decode cX3_watch 158 = .ok (.goto (-156), 3) := by decide +kernel
theorem dX3_watch_161 : decode cX3_watch 161 = .ok (.return_, 1) := by decide +kernel
