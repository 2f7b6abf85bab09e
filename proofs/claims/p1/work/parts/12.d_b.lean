theorem dX4_init_0 : decode cX4_init 0 = .ok (.aload_n 0, 1) := by decide +kernel
theorem dX4_init_1 : decode cX4_init 1 = .ok (.invokespecial 3, 3) := by decide +kernel
theorem dX4_init_4 : decode cX4_init 4 = .ok (.aload_n 0, 1) := by decide +kernel
theorem dX4_init_5 : decode cX4_init 5 = .ok (.bipush 30, 2) := by decide +kernel
theorem dX4_init_7 : decode cX4_init 7 = .ok (.newarray .int, 2) := by decide +kernel
theorem dX4_init_9 : decode cX4_init 9 = .ok (.putfield 9, 3) := by decide +kernel
theorem dX4_init_12 : decode cX4_init 12 = .ok (.aload_n 0, 1) := by decide +kernel
theorem dX4_init_13 : decode cX4_init 13 = .ok (.getstatic 15, 3) := by decide +kernel
theorem dX4_init_16 : decode cX4_init 16 = .ok (.putfield 18, 3) := by decide +kernel
theorem dX4_init_19 : decode cX4_init 19 = .ok (.aload_n 0, 1) := by decide +kernel
theorem dX4_init_20 : decode cX4_init 20 = .ok (.getstatic 15, 3) := by decide +kernel
theorem dX4_init_23 : decode cX4_init 23 = .ok (.putfield 21, 3) := by decide +kernel
theorem dX4_init_26 : decode cX4_init 26 = .ok (.aload_n 0, 1) := by decide +kernel
theorem dX4_init_27 : decode cX4_init 27 = .ok (.getstatic 15, 3) := by decide +kernel
theorem dX4_init_30 : decode cX4_init 30 = .ok (.putfield 24, 3) := by decide +kernel
theorem dX4_init_33 : decode cX4_init 33 = .ok (.return_, 1) := by decide +kernel
theorem dX4_with_0 : decode cX4_with 0 = .ok (.aload_n 0, 1) := by decide +kernel
theorem dX4_with_1 : decode cX4_with 1 = .ok (.getfield 9, 3) := by decide +kernel
theorem dX4_with_4 : decode cX4_with 4 = .ok (.iconst 0, 1) := by decide +kernel
theorem dX4_with_5 : decode cX4_with 5 = .ok (.iload_n 1, 1) := by decide +kernel
theorem dX4_with_6 : decode cX4_with 6 = .ok (.iastore, 1) := by decide +kernel
theorem dX4_with_7 : decode cX4_with 7 = .ok (.aload_n 0, 1) := by decide +kernel
theorem dX4_with_8 : decode cX4_with 8 = .ok (.getfield 9, 3) := by decide +kernel
theorem dX4_with_11 : decode cX4_with 11 = .ok (.iconst 1, 1) := by decide +kernel
theorem dX4_with_12 : decode cX4_with 12 = .ok (.iload_n 2, 1) := by decide +kernel
theorem dX4_with_13 : decode cX4_with 13 = .ok (.iastore, 1) := by decide +kernel
theorem dX4_with_14 : decode cX4_with 14 = .ok (.aload_n 0, 1) := by decide +kernel
theorem dX4_with_15 : decode cX4_with 15 = .ok (.getfield 9, 3) := by decide +kernel
theorem dX4_with_18 : decode cX4_with 18 = .ok (.iconst 2, 1) := by decide +kernel
theorem dX4_with_19 : decode cX4_with 19 = .ok (.iload_n 3, 1) := by decide +kernel
theorem dX4_with_20 : decode cX4_with 20 = .ok (.iastore, 1) := by decide +kernel
theorem dX4_with_21 : decode cX4_with 21 = .ok (.aload_n 0, 1) := by decide +kernel
theorem dX4_with_22 : decode cX4_with 22 = .ok (.getfield 9, 3) := by decide +kernel
theorem dX4_with_25 : decode cX4_with 25 = .ok (.iconst 3, 1) := by decide +kernel
theorem dX4_with_26 : decode cX4_with 26 = .ok (.iload 4, 2) := by decide +kernel
theorem dX4_with_28 : decode cX4_with 28 = .ok (.iastore, 1) := by decide +kernel
theorem dX4_with_29 : decode cX4_with 29 = .ok (.aload_n 0, 1) := by decide +kernel
theorem dX4_with_30 : decode cX4_with 30 = .ok (.getfield 9, 3) := by decide +kernel
theorem dX4_with_33 : decode cX4_with 33 = .ok (.iconst 4, 1) := by decide +kernel
theorem dX4_with_34 : decode cX4_with 34 = .ok (.iload 5, 2) := by decide +kernel
theorem dX4_with_36 : decode cX4_with 36 = .ok (.iastore, 1) := by decide +kernel
theorem dX4_with_37 : decode cX4_with 37 = .ok (.aload_n 0, 1) := by decide +kernel
theorem dX4_with_38 : decode cX4_with 38 = .ok (.areturn, 1) := by decide +kernel
theorem dX4_carry_0 : decode cX4_carry 0 = .ok (.aload_n 0, 1) := by decide +kernel
theorem dX4_carry_1 : decode cX4_carry 1 = .ok (.getfield 24, 3) := by decide +kernel
theorem dX4_carry_4 : decode cX4_carry 4 = .ok (.arraylength, 1) := by decide +kernel
theorem dX4_carry_5 : decode cX4_carry 5 = .ok (.ifCond .ne 27, 3) := by decide +kernel
theorem dX4_carry_8 : decode cX4_carry 8 = .ok (.aload_n 0, 1) := by decide +kernel
theorem dX4_carry_9 : decode cX4_carry 9 = .ok (.bipush 100, 2) := by decide +kernel
theorem dX4_carry_11 : decode cX4_carry 11 = .ok (.newarray .int, 2) := by decide +kernel
theorem dX4_carry_13 : decode cX4_carry 13 = .ok (.putfield 18, 3) := by decide +kernel
theorem dX4_carry_16 : decode cX4_carry 16 = .ok (.aload_n 0, 1) := by decide +kernel
theorem dX4_carry_17 : decode cX4_carry 17 = .ok (.bipush 63, 2) := by decide +kernel
theorem dX4_carry_19 : decode cX4_carry 19 = .ok (.newarray .int, 2) := by decide +kernel
theorem dX4_carry_21 : decode cX4_carry 21 = .ok (.putfield 21, 3) := by decide +kernel
theorem dX4_carry_24 : decode cX4_carry 24 = .ok (.aload_n 0, 1) := by decide +kernel
theorem dX4_carry_25 : decode cX4_carry 25 = .ok (.bipush 64, 2) := by decide +kernel
theorem dX4_carry_27 : decode cX4_carry 27 = .ok (.newarray .int, 2) := by decide +kernel
theorem dX4_carry_29 : decode cX4_carry 29 = .ok (.putfield 24, 3) := by decide +kernel
theorem dX4_carry_32 : decode cX4_carry 32 = .ok (.aload_n 1, 1) := by decide +kernel
theorem dX4_carry_33 : decode cX4_carry 33 = .ok (.getfield 27, 3) := by decide +kernel
theorem dX4_carry_36 : decode cX4_carry 36 = .ok (.iconst 0, 1) := by decide +kernel
theorem dX4_carry_37 : decode cX4_carry 37 = .ok (.aload_n 0, 1) := by decide +kernel
theorem dX4_carry_38 : decode cX4_carry 38 = .ok (.getfield 18, 3) := by decide +kernel
theorem dX4_carry_41 : decode cX4_carry 41 = .ok (.iconst 0, 1) := by decide +kernel
theorem dX4_carry_42 : decode cX4_carry 42 = .ok (.bipush 100, 2) := by decide +kernel
theorem dX4_carry_44 : decode cX4_carry 44 = .ok (.invokestatic 30, 3) := by decide +kernel
theorem dX4_carry_47 : decode cX4_carry 47 = .ok (.aload_n 1, 1) := by decide +kernel
theorem dX4_carry_48 : decode cX4_carry 48 = .ok (.getfield 36, 3) := by decide +kernel
theorem dX4_carry_51 : decode cX4_carry 51 = .ok (.iconst 0, 1) := by decide +kernel
theorem dX4_carry_52 : decode cX4_carry 52 = .ok (.aload_n 0, 1) := by decide +kernel
theorem dX4_carry_53 : decode cX4_carry 53 = .ok (.getfield 21, 3) := by decide +kernel
theorem dX4_carry_56 : decode cX4_carry 56 = .ok (.iconst 0, 1) := by decide +kernel
theorem dX4_carry_57 : decode cX4_carry 57 = .ok (.bipush 63, 2) := by decide +kernel
theorem dX4_carry_59 : decode cX4_carry 59 = .ok (.invokestatic 30, 3) := by decide +kernel
theorem dX4_carry_62 : decode cX4_carry 62 = .ok (.iconst 0, 1) := by decide +kernel
theorem dX4_carry_63 : decode cX4_carry 63 = .ok (.istore_n 2, 1) := by decide +kernel
theorem dX4_carry_64 : decode cX4_carry 64 = .ok (.iload_n 2, 1) := by decide +kernel
theorem dX4_carry_65 : decode cX4_carry 65 = .ok (.bipush 64, 2) := by decide +kernel
theorem dX4_carry_67 : decode cX4_carry 67 = .ok (.if_icmp .ge 27, 3) := by decide +kernel
theorem dX4_carry_70 : decode cX4_carry 70 = .ok (.aload_n 0, 1) := by decide +kernel
theorem dX4_carry_71 : decode cX4_carry 71 = .ok (.getfield 24, 3) := by decide +kernel
theorem dX4_carry_74 : decode cX4_carry 74 = .ok (.iload_n 2, 1) := by decide +kernel
theorem dX4_carry_75 : decode cX4_carry 75 = .ok (.aload_n 1, 1) := by decide +kernel
theorem dX4_carry_76 : decode cX4_carry 76 = .ok (.aload_n 1, 1) := by decide +kernel
theorem dX4_carry_77 : decode cX4_carry 77 = .ok (.getfield 37, 3) := by decide +kernel
theorem dX4_carry_80 : decode cX4_carry 80 = .ok (.iconst 1, 1) := by decide +kernel
theorem dX4_carry_81 : decode cX4_carry 81 = .ok (.iadd, 1) := by decide +kernel
theorem dX4_carry_82 : decode cX4_carry 82 = .ok (.iload_n 2, 1) := by decide +kernel
theorem dX4_carry_83 : decode cX4_carry 83 = .ok (.iadd, 1) := by decide +kernel
theorem dX4_carry_84 : decode cX4_carry 84 = .ok (.invokevirtual 41, 3) := by decide +kernel
theorem dX4_carry_87 : decode cX4_carry 87 = .ok (.iastore, 1) := by decide +kernel
theorem dX4_carry_88 : decode cX4_carry 88 = .ok (.iinc 2 1, 3) := by decide +kernel
theorem dX4_carry_91 : decode cX4_carry 91 = .ok (.goto (-27), 3) := by decide +kernel
theorem dX4_carry_94 : decode cX4_carry 94 = .ok (.return_, 1) := by decide +kernel
theorem dX4_carriedAct_0 : decode cX4_carriedAct 0 = .ok (.iload_n 1, 1) := by decide +kernel
theorem dX4_carriedAct_1 : decode cX4_carriedAct 1 = .ok (.aload_n 0, 1) := by decide +kernel
theorem dX4_carriedAct_2 : decode cX4_carriedAct 2 = .ok (.getfield 9, 3) := by decide +kernel
theorem dX4_carriedAct_5 : decode cX4_carriedAct 5 = .ok (.iconst 2, 1) := by decide +kernel
theorem dX4_carriedAct_6 : decode cX4_carriedAct 6 = .ok (.iaload, 1) := by decide +kernel
theorem dX4_carriedAct_7 : decode cX4_carriedAct 7 = .ok (.isub, 1) := by decide +kernel
theorem dX4_carriedAct_8 : decode cX4_carriedAct 8 = .ok (.iconst 1, 1) := by decide +kernel
theorem dX4_carriedAct_9 : decode cX4_carriedAct 9 = .ok (.isub, 1) := by decide +kernel
theorem dX4_carriedAct_10 : decode cX4_carriedAct 10 = .ok (.istore_n 2, 1) := by decide +kernel
theorem dX4_carriedAct_11 : decode cX4_carriedAct 11 = .ok (.iload_n 2, 1) := by decide +kernel
theorem dX4_carriedAct_12 : decode cX4_carriedAct 12 = .ok (.ifCond .lt 12, 3) := by decide +kernel
theorem dX4_carriedAct_15 : decode cX4_carriedAct 15 = .ok (.iload_n 2, 1) := by decide +kernel
theorem dX4_carriedAct_16 : decode cX4_carriedAct 16 = .ok (.aload_n 0, 1) := by decide +kernel
theorem dX4_carriedAct_17 : decode cX4_carriedAct 17 = .ok (.getfield 24, 3) := by decide +kernel
theorem dX4_carriedAct_20 : decode cX4_carriedAct 20 = .ok (.arraylength, 1) := by decide +kernel
theorem dX4_carriedAct_21 : decode cX4_carriedAct 21 = .ok (.if_icmp .lt 7, 3) := by decide +kernel
theorem dX4_carriedAct_24 : decode cX4_carriedAct 24 = .ok (.iconst (-1), 1) := by decide +kernel
theorem dX4_carriedAct_25 : decode cX4_carriedAct 25 = .ok (.goto 9, 3) := by decide +kernel
theorem dX4_carriedAct_28 : decode cX4_carriedAct 28 = .ok (.aload_n 0, 1) := by decide +kernel
theorem dX4_carriedAct_29 : decode cX4_carriedAct 29 = .ok (.getfield 24, 3) := by decide +kernel
theorem dX4_carriedAct_32 : decode cX4_carriedAct 32 = .ok (.iload_n 2, 1) := by decide +kernel
theorem dX4_carriedAct_33 : decode cX4_carriedAct 33 = .ok (.iaload, 1) := by decide +kernel
theorem dX4_carriedAct_34 : decode cX4_carriedAct 34 = .ok (.ireturn, 1) := by decide +kernel
theorem dX5_init_0 : decode cX5_init 0 = .ok (.aload_n 0, 1) := by decide +kernel
theorem dX5_init_1 : decode cX5_init 1 = .ok (.invokespecial 3, 3) := by decide +kernel
theorem dX5_init_4 : decode cX5_init 4 = .ok (.aload_n 0, 1) := by decide +kernel
theorem dX5_init_5 : decode cX5_init 5 = .ok (.iconst 4, 1) := by decide +kernel
theorem dX5_init_6 : decode cX5_init 6 = .ok (.anewarray 9, 3) := by decide +kernel
theorem dX5_init_9 : decode cX5_init 9 = .ok (.putfield 11, 3) := by decide +kernel
theorem dX5_init_12 : decode cX5_init 12 = .ok (.aload_n 0, 1) := by decide +kernel
theorem dX5_init_13 : decode cX5_init 13 = .ok (.bipush 8, 2) := by decide +kernel
theorem dX5_init_15 : decode cX5_init 15 = .ok (.bipush 104, 2) := by decide +kernel
theorem dX5_init_17 : decode cX5_init 17 = .ok (.multianewarray 17 2, 4) := by decide +kernel
theorem dX5_init_21 : decode cX5_init 21 = .ok (.putfield 19, 3) := by decide +kernel
theorem dX5_init_24 : decode cX5_init 24 = .ok (.aload_n 0, 1) := by decide +kernel
theorem dX5_init_25 : decode cX5_init 25 = .ok (.aload_n 1, 1) := by decide +kernel
theorem dX5_init_26 : decode cX5_init 26 = .ok (.putfield 22, 3) := by decide +kernel
theorem dX5_init_29 : decode cX5_init 29 = .ok (.aload_n 0, 1) := by decide +kernel
theorem dX5_init_30 : decode cX5_init 30 = .ok (.iload_n 2, 1) := by decide +kernel
theorem dX5_init_31 : decode cX5_init 31 = .ok (.putfield 26, 3) := by decide +kernel
theorem dX5_init_34 : decode cX5_init 34 = .ok (.return_, 1) := by decide +kernel
theorem dX5_begin_0 : decode cX5_begin 0 = .ok (.iconst 0, 1) := by decide +kernel
theorem dX5_begin_1 : decode cX5_begin 1 = .ok (.istore_n 1, 1) := by decide +kernel
theorem dX5_begin_2 : decode cX5_begin 2 = .ok (.iload_n 1, 1) := by decide +kernel
theorem dX5_begin_3 : decode cX5_begin 3 = .ok (.iconst 4, 1) := by decide +kernel
theorem dX5_begin_4 : decode cX5_begin 4 = .ok (.if_icmp .ge 16, 3) := by decide +kernel
theorem dX5_begin_7 : decode cX5_begin 7 = .ok (.aload_n 0, 1) := by decide +kernel
theorem dX5_begin_8 : decode cX5_begin 8 = .ok (.getfield 11, 3) := by decide +kernel
theorem dX5_begin_11 : decode cX5_begin 11 = .ok (.iload_n 1, 1) := by decide +kernel
theorem dX5_begin_12 : decode cX5_begin 12 = .ok (.aconst_null, 1) := by decide +kernel
theorem dX5_begin_13 : decode cX5_begin 13 = .ok (.aastore, 1) := by decide +kernel
theorem dX5_begin_14 : decode cX5_begin 14 = .ok (.iinc 1 1, 3) := by decide +kernel
theorem dX5_begin_17 : decode cX5_begin 17 = .ok (.goto (-15), 3) := by decide +kernel
theorem dX5_begin_20 : decode cX5_begin 20 = .ok (.aload_n 0, 1) := by decide +kernel
theorem dX5_begin_21 : decode cX5_begin 21 = .ok (.invokevirtual 30, 3) := by decide +kernel
theorem dX5_begin_24 : decode cX5_begin 24 = .ok (.aload_n 0, 1) := by decide +kernel
theorem dX5_begin_25 : decode cX5_begin 25 = .ok (.iconst 1, 1) := by decide +kernel
theorem dX5_begin_26 : decode cX5_begin 26 = .ok (.putfield 33, 3) := by decide +kernel
theorem dX5_begin_29 : decode cX5_begin 29 = .ok (.aload_n 0, 1) := by decide +kernel
theorem dX5_begin_30 : decode cX5_begin 30 = .ok (.iconst 0, 1) := by decide +kernel
theorem dX5_begin_31 : decode cX5_begin 31 = .ok (.putfield 37, 3) := by decide +kernel
theorem dX5_begin_34 : decode cX5_begin 34 = .ok (.aload_n 0, 1) := by decide +kernel
theorem dX5_begin_35 : decode cX5_begin 35 = .ok (.iconst 0, 1) := by decide +kernel
theorem dX5_begin_36 : decode cX5_begin 36 = .ok (.putfield 40, 3) := by decide +kernel
theorem dX5_begin_39 : decode cX5_begin 39 = .ok (.return_, 1) := by decide +kernel
theorem dX5_replicaOf_0 : decode cX5_replicaOf 0 = .ok (.iload_n 1, 1) := by decide +kernel
theorem dX5_replicaOf_1 : decode cX5_replicaOf 1 = .ok (.ifCond .lt 8, 3) := by decide +kernel
theorem dX5_replicaOf_4 : decode cX5_replicaOf 4 = .ok (.iload_n 1, 1) := by decide +kernel
theorem dX5_replicaOf_5 : decode cX5_replicaOf 5 = .ok (.iconst 4, 1) := by decide +kernel
theorem dX5_replicaOf_6 : decode cX5_replicaOf 6 = .ok (.if_icmp .lt 7, 3) := by decide +kernel
theorem dX5_replicaOf_9 : decode cX5_replicaOf 9 = .ok (.aconst_null, 1) := by decide +kernel
theorem dX5_replicaOf_10 : decode cX5_replicaOf 10 = .ok (.goto 9, 3) := by decide +kernel
theorem dX5_replicaOf_13 : decode cX5_replicaOf 13 = .ok (.aload_n 0, 1) := by decide +kernel
theorem dX5_replicaOf_14 : decode cX5_replicaOf 14 = .ok (.getfield 11, 3) := by decide +kernel
theorem dX5_replicaOf_17 : decode cX5_replicaOf 17 = .ok (.iload_n 1, 1) := by decide +kernel
theorem dX5_replicaOf_18 : decode cX5_replicaOf 18 = .ok (.aaload, 1) := by decide +kernel
theorem dX5_replicaOf_19 : decode cX5_replicaOf 19 = .ok (.areturn, 1) := by decide +kernel
theorem dX5_closeContexts_0 : decode cX5_closeContexts 0 = .ok (.iconst 0, 1) := by decide +kernel
theorem dX5_closeContexts_1 : decode cX5_closeContexts 1 = .ok (.istore_n 1, 1) := by decide +kernel
theorem dX5_closeContexts_2 : decode cX5_closeContexts 2 = .ok (.iload_n 1, 1) := by decide +kernel
theorem dX5_closeContexts_3 : decode cX5_closeContexts 3 = .ok (.bipush 8, 2) := by decide +kernel
theorem dX5_closeContexts_5 : decode cX5_closeContexts 5 = .ok (.if_icmp .ge 18, 3) := by decide +kernel
theorem dX5_closeContexts_8 : decode cX5_closeContexts 8 = .ok (.aload_n 0, 1) := by decide +kernel
theorem dX5_closeContexts_9 : decode cX5_closeContexts 9 = .ok (.getfield 19, 3) := by decide +kernel
theorem dX5_closeContexts_12 : decode cX5_closeContexts 12 = .ok (.iload_n 1, 1) := by decide +kernel
theorem dX5_closeContexts_13 : decode cX5_closeContexts 13 = .ok (.aaload, 1) := by decide +kernel
theorem dX5_closeContexts_14 : decode cX5_closeContexts 14 = .ok (.iconst 0, 1) := by decide +kernel
theorem dX5_closeContexts_15 : decode cX5_closeContexts 15 = .ok (.iconst (-1), 1) := by decide +kernel
theorem dX5_closeContexts_16 : decode cX5_closeContexts 16 = .ok (.iastore, 1) := by decide +kernel
theorem dX5_closeContexts_17 : decode cX5_closeContexts 17 = .ok (.iinc 1 1, 3) := by decide +kernel
theorem dX5_closeContexts_20 : decode cX5_closeContexts 20 = .ok (.goto (-18), 3) := by decide +kernel
theorem dX5_closeContexts_23 : decode cX5_closeContexts 23 = .ok (.return_, 1) := by decide +kernel
theorem dX5_closeOldContexts_0 : decode cX5_closeOldContexts 0 = .ok (.iconst 0, 1) := by decide +kernel
theorem dX5_closeOldContexts_1 : decode cX5_closeOldContexts 1 = .ok (.istore_n 1, 1) := by decide +kernel
theorem dX5_closeOldContexts_2 : decode cX5_closeOldContexts 2 = .ok (.iload_n 1, 1) := by decide +kernel
theorem dX5_closeOldContexts_3 : decode cX5_closeOldContexts 3 = .ok (.bipush 8, 2) := by decide +kernel
theorem dX5_closeOldContexts_5 : decode cX5_closeOldContexts 5 = .ok (.if_icmp .ge 39, 3) := by decide +kernel
theorem dX5_closeOldContexts_8 : decode cX5_closeOldContexts 8 = .ok (.aload_n 0, 1) := by decide +kernel
theorem dX5_closeOldContexts_9 : decode cX5_closeOldContexts 9 = .ok (.getfield 22, 3) := by decide +kernel
theorem dX5_closeOldContexts_12 : decode cX5_closeOldContexts 12 = .ok (.getfield 43, 3) := by decide +kernel
theorem dX5_closeOldContexts_15 : decode cX5_closeOldContexts 15 = .ok (.aload_n 0, 1) := by decide +kernel
theorem dX5_closeOldContexts_16 : decode cX5_closeOldContexts 16 = .ok (.getfield 19, 3) := by decide +kernel
theorem dX5_closeOldContexts_19 : decode cX5_closeOldContexts 19 = .ok (.iload_n 1, 1) := by decide +kernel
theorem dX5_closeOldContexts_20 : decode cX5_closeOldContexts 20 = .ok (.aaload, 1) := by decide +kernel
theorem dX5_closeOldContexts_21 : decode cX5_closeOldContexts 21 = .ok (.iconst 3, 1) := by decide +kernel
theorem dX5_closeOldContexts_22 : decode cX5_closeOldContexts 22 = .ok (.iaload, 1) := by decide +kernel
theorem dX5_closeOldContexts_23 : decode cX5_closeOldContexts 23 = .ok (.isub, 1) := by decide +kernel
theorem dX5_closeOldContexts_24 : decode cX5_closeOldContexts 24 = .ok (.bipush 12, 2) := by decide +kernel
theorem dX5_closeOldContexts_26 : decode cX5_closeOldContexts 26 = .ok (.if_icmp .lt 12, 3) := by decide +kernel
theorem dX5_closeOldContexts_29 : decode cX5_closeOldContexts 29 = .ok (.aload_n 0, 1) := by decide +kernel
theorem dX5_closeOldContexts_30 : decode cX5_closeOldContexts 30 = .ok (.getfield 19, 3) := by decide +kernel
theorem dX5_closeOldContexts_33 : decode cX5_closeOldContexts 33 = .ok (.iload_n 1, 1) := by decide +kernel
theorem dX5_closeOldContexts_34 : decode cX5_closeOldContexts 34 = .ok (.aaload, 1) := by decide +kernel
theorem dX5_closeOldContexts_35 : decode cX5_closeOldContexts 35 = .ok (.iconst 0, 1) := by decide +kernel
theorem dX5_closeOldContexts_36 : decode cX5_closeOldContexts 36 = .ok (.iconst (-1), 1) := by decide +kernel
theorem dX5_closeOldContexts_37 : decode cX5_closeOldContexts 37 = .ok (.iastore, 1) := by decide +kernel
theorem dX5_closeOldContexts_38 : decode cX5_closeOldContexts 38 = .ok (.iinc 1 1, 3) := by decide +kernel
theorem dX5_closeOldContexts_41 : decode cX5_closeOldContexts 41 = .ok (.goto (-39), 3) := by decide +kernel
theorem dX5_closeOldContexts_44 : decode cX5_closeOldContexts 44 = .ok (.return_, 1) := by decide +kernel
theorem dX5_usedContexts_0 : decode cX5_usedContexts 0 = .ok (.iconst 0, 1) := by decide +kernel
theorem dX5_usedContexts_1 : decode cX5_usedContexts 1 = .ok (.istore_n 1, 1) := by decide +kernel
theorem dX5_usedContexts_2 : decode cX5_usedContexts 2 = .ok (.iconst 0, 1) := by decide +kernel
theorem dX5_usedContexts_3 : decode cX5_usedContexts 3 = .ok (.istore_n 2, 1) := by decide +kernel
theorem dX5_usedContexts_4 : decode cX5_usedContexts 4 = .ok (.iload_n 2, 1) := by decide +kernel
theorem dX5_usedContexts_5 : decode cX5_usedContexts 5 = .ok (.bipush 8, 2) := by decide +kernel
theorem dX5_usedContexts_7 : decode cX5_usedContexts 7 = .ok (.if_icmp .ge 24, 3) := by decide +kernel
theorem dX5_usedContexts_10 : decode cX5_usedContexts 10 = .ok (.aload_n 0, 1) := by decide +kernel
theorem dX5_usedContexts_11 : decode cX5_usedContexts 11 = .ok (.getfield 19, 3) := by decide +kernel
theorem dX5_usedContexts_14 : decode cX5_usedContexts 14 = .ok (.iload_n 2, 1) := by decide +kernel
theorem dX5_usedContexts_15 : decode cX5_usedContexts 15 = .ok (.aaload, 1) := by decide +kernel
theorem dX5_usedContexts_16 : decode cX5_usedContexts 16 = .ok (.iconst 0, 1) := by decide +kernel
theorem dX5_usedContexts_17 : decode cX5_usedContexts 17 = .ok (.iaload, 1) := by decide +kernel
theorem dX5_usedContexts_18 : decode cX5_usedContexts 18 = .ok (.iconst (-1), 1) := by decide +kernel
theorem dX5_usedContexts_19 : decode cX5_usedContexts 19 = .ok (.if_icmp .eq 6, 3) := by decide +kernel
theorem dX5_usedContexts_22 : decode cX5_usedContexts 22 = .ok (.iinc 1 1, 3) := by decide +kernel
theorem dX5_usedContexts_25 : decode cX5_usedContexts 25 = .ok (.iinc 2 1, 3) := by decide +kernel
theorem dX5_usedContexts_28 : decode cX5_usedContexts 28 = .ok (.goto (-24), 3) := by decide +kernel
theorem dX5_usedContexts_31 : decode cX5_usedContexts 31 = .ok (.iload_n 1, 1) := by decide +kernel
theorem dX5_usedContexts_32 : decode cX5_usedContexts 32 = .ok (.ireturn, 1) := by decide +kernel
theorem dX5_freeContext_0 : decode cX5_freeContext 0 = .ok (.iconst 0, 1) := by decide +kernel
theorem dX5_freeContext_1 : decode cX5_freeContext 1 = .ok (.istore_n 1, 1) := by decide +kernel
theorem dX5_freeContext_2 : decode cX5_freeContext 2 = .ok (.iload_n 1, 1) := by decide +kernel
theorem dX5_freeContext_3 : decode cX5_freeContext 3 = .ok (.bipush 8, 2) := by decide +kernel
theorem dX5_freeContext_5 : decode cX5_freeContext 5 = .ok (.if_icmp .ge 23, 3) := by decide +kernel
theorem dX5_freeContext_8 : decode cX5_freeContext 8 = .ok (.aload_n 0, 1) := by decide +kernel
theorem dX5_freeContext_9 : decode cX5_freeContext 9 = .ok (.getfield 19, 3) := by decide +kernel
theorem dX5_freeContext_12 : decode cX5_freeContext 12 = .ok (.iload_n 1, 1) := by decide +kernel
theorem dX5_freeContext_13 : decode cX5_freeContext 13 = .ok (.aaload, 1) := by decide +kernel
theorem dX5_freeContext_14 : decode cX5_freeContext 14 = .ok (.iconst 0, 1) := by decide +kernel
theorem dX5_freeContext_15 : decode cX5_freeContext 15 = .ok (.iaload, 1) := by decide +kernel
theorem dX5_freeContext_16 : decode cX5_freeContext 16 = .ok (.iconst (-1), 1) := by decide +kernel
theorem dX5_freeContext_17 : decode cX5_freeContext 17 = .ok (.if_icmp .ne 5, 3) := by decide +kernel
theorem dX5_freeContext_20 : decode cX5_freeContext 20 = .ok (.iload_n 1, 1) := by decide +kernel
theorem dX5_freeContext_21 : decode cX5_freeContext 21 = .ok (.ireturn, 1) := by decide +kernel
theorem dX5_freeContext_22 : decode cX5_freeContext 22 = .ok (.iinc 1 1, 3) := by decide +kernel
theorem dX5_freeContext_25 : decode cX5_freeContext 25 = .ok (.goto (-23), 3) := by decide +kernel
theorem dX5_freeContext_28 : decode cX5_freeContext 28 = .ok (.iconst (-1), 1) := by decide +kernel
theorem dX5_freeContext_29 : decode cX5_freeContext 29 = .ok (.ireturn, 1) := by decide +kernel
theorem dX5_beat_0 : decode cX5_beat 0 = .ok (.aload_n 0, 1) := by decide +kernel
theorem dX5_beat_1 : decode cX5_beat 1 = .ok (.getfield 22, 3) := by decide +kernel
theorem dX5_beat_4 : decode cX5_beat 4 = .ok (.getfield 43, 3) := by decide +kernel
theorem dX5_beat_7 : decode cX5_beat 7 = .ok (.iconst 2, 1) := by decide +kernel
theorem dX5_beat_8 : decode cX5_beat 8 = .ok (.irem, 1) := by decide +kernel
theorem dX5_beat_9 : decode cX5_beat 9 = .ok (.ifCond .eq 4, 3) := by decide +kernel
theorem dX5_beat_12 : decode cX5_beat 12 = .ok (.return_, 1) := by decide +kernel
theorem dX5_beat_13 : decode cX5_beat 13 = .ok (.aload_n 0, 1) := by decide +kernel
theorem dX5_beat_14 : decode cX5_beat 14 = .ok (.getfield 22, 3) := by decide +kernel
theorem dX5_beat_17 : decode cX5_beat 17 = .ok (.aload_n 0, 1) := by decide +kernel
theorem dX5_beat_18 : decode cX5_beat 18 = .ok (.getfield 26, 3) := by decide +kernel
theorem dX5_beat_21 : decode cX5_beat 21 = .ok (.aload_n 0, 1) := by decide +kernel
theorem dX5_beat_22 : decode cX5_beat 22 = .ok (.getfield 22, 3) := by decide +kernel
theorem dX5_beat_25 : decode cX5_beat 25 = .ok (.getfield 48, 3) := by decide +kernel
theorem dX5_beat_28 : decode cX5_beat 28 = .ok (.bipush 16, 2) := by decide +kernel
theorem dX5_beat_30 : decode cX5_beat 30 = .ok (.invokevirtual 51, 3) := by decide +kernel
theorem dX5_beat_33 : decode cX5_beat 33 = .ok (.astore_n 1, 1) := by decide +kernel
theorem dX5_beat_34 : decode cX5_beat 34 = .ok (.iconst 0, 1) := by decide +kernel
theorem dX5_beat_35 : decode cX5_beat 35 = .ok (.istore_n 2, 1) := by decide +kernel
theorem dX5_beat_36 : decode cX5_beat 36 = .ok (.iload_n 2, 1) := by decide +kernel
theorem dX5_beat_37 : decode cX5_beat 37 = .ok (.iconst 4, 1) := by decide +kernel
theorem dX5_beat_38 : decode cX5_beat 38 = .ok (.if_icmp .ge 67, 3) := by decide +kernel
theorem dX5_beat_41 : decode cX5_beat 41 = .ok (.aload_n 0, 1) := by decide +kernel
theorem dX5_beat_42 : decode cX5_beat 42 = .ok (.getfield 11, 3) := by decide +kernel
theorem dX5_beat_45 : decode cX5_beat 45 = .ok (.iload_n 2, 1) := by decide +kernel
theorem dX5_beat_46 : decode cX5_beat 46 = .ok (.aaload, 1) := by decide +kernel
theorem dX5_beat_47 : decode cX5_beat 47 = .ok (.astore_n 3, 1) := by decide +kernel
theorem dX5_beat_48 : decode cX5_beat 48 = .ok (.aload_n 3, 1) := by decide +kernel
theorem dX5_beat_49 : decode cX5_beat 49 = .ok (.ifnull 50, 3) := by decide +kernel
theorem dX5_beat_52 : decode cX5_beat 52 = .ok (.aload_n 1, 1) := by decide +kernel
theorem dX5_beat_53 : decode cX5_beat 53 = .ok (.getfield 55, 3) := by decide +kernel
theorem dX5_beat_56 : decode cX5_beat 56 = .ok (.iconst 5, 1) := by decide +kernel
theorem dX5_beat_57 : decode cX5_beat 57 = .ok (.iconst 2, 1) := by decide +kernel
theorem dX5_beat_58 : decode cX5_beat 58 = .ok (.iload_n 2, 1) := by decide +kernel
theorem dX5_beat_59 : decode cX5_beat 59 = .ok (.imul, 1) := by decide +kernel
theorem dX5_beat_60 : decode cX5_beat 60 = .ok (.iadd, 1) := by decide +kernel
theorem dX5_beat_61 : decode cX5_beat 61 = .ok (.aload_n 3, 1) := by decide +kernel
theorem dX5_beat_62 : decode cX5_beat 62 = .ok (.getfield 61, 3) := by decide +kernel
theorem dX5_beat_65 : decode cX5_beat 65 = .ok (.iconst 3, 1) := by decide +kernel
theorem dX5_beat_66 : decode cX5_beat 66 = .ok (.iaload, 1) := by decide +kernel
theorem dX5_beat_67 : decode cX5_beat 67 = .ok (.iastore, 1) := by decide +kernel
theorem dX5_beat_68 : decode cX5_beat 68 = .ok (.aload_n 1, 1) := by decide +kernel
theorem dX5_beat_69 : decode cX5_beat 69 = .ok (.getfield 55, 3) := by decide +kernel
theorem dX5_beat_72 : decode cX5_beat 72 = .ok (.iconst 5, 1) := by decide +kernel
theorem dX5_beat_73 : decode cX5_beat 73 = .ok (.iconst 2, 1) := by decide +kernel
theorem dX5_beat_74 : decode cX5_beat 74 = .ok (.iload_n 2, 1) := by decide +kernel
theorem dX5_beat_75 : decode cX5_beat 75 = .ok (.imul, 1) := by decide +kernel
theorem dX5_beat_76 : decode cX5_beat 76 = .ok (.iadd, 1) := by decide +kernel
theorem dX5_beat_77 : decode cX5_beat 77 = .ok (.iconst 1, 1) := by decide +kernel
theorem dX5_beat_78 : decode cX5_beat 78 = .ok (.iadd, 1) := by decide +kernel
theorem dX5_beat_79 : decode cX5_beat 79 = .ok (.aload_n 3, 1) := by decide +kernel
theorem dX5_beat_80 : decode cX5_beat 80 = .ok (.getfield 64, 3) := by decide +kernel
theorem dX5_beat_83 : decode cX5_beat 83 = .ok (.iconst 2, 1) := by decide +kernel
theorem dX5_beat_84 : decode cX5_beat 84 = .ok (.if_icmp .ne 13, 3) := by decide +kernel
theorem dX5_beat_87 : decode cX5_beat 87 = .ok (.aload_n 3, 1) := by decide +kernel
theorem dX5_beat_88 : decode cX5_beat 88 = .ok (.getfield 67, 3) := by decide +kernel
theorem dX5_beat_91 : decode cX5_beat 91 = .ok (.getfield 71, 3) := by decide +kernel
theorem dX5_beat_94 : decode cX5_beat 94 = .ok (.goto 4, 3) := by decide +kernel
theorem dX5_beat_97 : decode cX5_beat 97 = .ok (.iconst 0, 1) := by decide +kernel
theorem dX5_beat_98 : decode cX5_beat 98 = .ok (.iastore, 1) := by decide +kernel
theorem dX5_beat_99 : decode cX5_beat 99 = .ok (.iinc 2 1, 3) := by decide +kernel
theorem dX5_beat_102 : decode cX5_beat 102 = .ok (.goto (-66), 3) := by decide +kernel
theorem dX5_beat_105 : decode cX5_beat 105 = .ok (.return_, 1) := by decide +kernel
theorem dX5_onOpen_0 : decode cX5_onOpen 0 = .ok (.aload_n 2, 1) := by decide +kernel
theorem dX5_onOpen_1 : decode cX5_onOpen 1 = .ok (.getfield 55, 3) := by decide +kernel
theorem dX5_onOpen_4 : decode cX5_onOpen 4 = .ok (.iconst 2, 1) := by decide +kernel
theorem dX5_onOpen_5 : decode cX5_onOpen 5 = .ok (.iaload, 1) := by decide +kernel
theorem dX5_onOpen_6 : decode cX5_onOpen 6 = .ok (.istore_n 3, 1) := by decide +kernel
theorem dX5_onOpen_7 : decode cX5_onOpen 7 = .ok (.aload_n 0, 1) := by decide +kernel
theorem dX5_onOpen_8 : decode cX5_onOpen 8 = .ok (.getfield 22, 3) := by decide +kernel
theorem dX5_onOpen_11 : decode cX5_onOpen 11 = .ok (.aload_n 2, 1) := by decide +kernel
theorem dX5_onOpen_12 : decode cX5_onOpen 12 = .ok (.getfield 55, 3) := by decide +kernel
theorem dX5_onOpen_15 : decode cX5_onOpen 15 = .ok (.iconst 0, 1) := by decide +kernel
theorem dX5_onOpen_16 : decode cX5_onOpen 16 = .ok (.iaload, 1) := by decide +kernel
theorem dX5_onOpen_17 : decode cX5_onOpen 17 = .ok (.invokevirtual 76, 3) := by decide +kernel
theorem dX5_onOpen_20 : decode cX5_onOpen 20 = .ok (.astore 4, 2) := by decide +kernel
theorem dX5_onOpen_22 : decode cX5_onOpen 22 = .ok (.aload_n 0, 1) := by decide +kernel
theorem dX5_onOpen_23 : decode cX5_onOpen 23 = .ok (.iload_n 3, 1) := by decide +kernel
theorem dX5_onOpen_24 : decode cX5_onOpen 24 = .ok (.invokevirtual 80, 3) := by decide +kernel
theorem dX5_onOpen_27 : decode cX5_onOpen 27 = .ok (.astore 5, 2) := by decide +kernel
theorem dX5_onOpen_29 : decode cX5_onOpen 29 = .ok (.aload_n 0, 1) := by decide +kernel
theorem dX5_onOpen_30 : decode cX5_onOpen 30 = .ok (.invokevirtual 84, 3) := by decide +kernel
theorem dX5_onOpen_33 : decode cX5_onOpen 33 = .ok (.istore 6, 2) := by decide +kernel
theorem dX5_onOpen_35 : decode cX5_onOpen 35 = .ok (.aload 4, 2) := by decide +kernel
theorem dX5_onOpen_37 : decode cX5_onOpen 37 = .ok (.ifnull 34, 3) := by decide +kernel
theorem dX5_onOpen_40 : decode cX5_onOpen 40 = .ok (.aload 4, 2) := by decide +kernel
theorem dX5_onOpen_42 : decode cX5_onOpen 42 = .ok (.getfield 88, 3) := by decide +kernel
theorem dX5_onOpen_45 : decode cX5_onOpen 45 = .ok (.ifnull 26, 3) := by decide +kernel
theorem dX5_onOpen_48 : decode cX5_onOpen 48 = .ok (.aload 5, 2) := by decide +kernel
theorem dX5_onOpen_50 : decode cX5_onOpen 50 = .ok (.ifnull 21, 3) := by decide +kernel
theorem dX5_onOpen_53 : decode cX5_onOpen 53 = .ok (.aload 5, 2) := by decide +kernel
theorem dX5_onOpen_55 : decode cX5_onOpen 55 = .ok (.aload_n 0, 1) := by decide +kernel
theorem dX5_onOpen_56 : decode cX5_onOpen 56 = .ok (.getfield 26, 3) := by decide +kernel
theorem dX5_onOpen_59 : decode cX5_onOpen 59 = .ok (.invokevirtual 94, 3) := by decide +kernel
theorem dX5_onOpen_62 : decode cX5_onOpen 62 = .ok (.ifCond .eq 9, 3) := by decide +kernel
theorem dX5_onOpen_65 : decode cX5_onOpen 65 = .ok (.iload 6, 2) := by decide +kernel
theorem dX5_onOpen_67 : decode cX5_onOpen 67 = .ok (.iconst (-1), 1) := by decide +kernel
theorem dX5_onOpen_68 : decode cX5_onOpen 68 = .ok (.if_icmp .ne 17, 3) := by decide +kernel
theorem dX5_onOpen_71 : decode cX5_onOpen 71 = .ok (.aload_n 0, 1) := by decide +kernel
theorem dX5_onOpen_72 : decode cX5_onOpen 72 = .ok (.getfield 22, 3) := by decide +kernel
theorem dX5_onOpen_75 : decode cX5_onOpen 75 = .ok (.aload_n 0, 1) := by decide +kernel
theorem dX5_onOpen_76 : decode cX5_onOpen 76 = .ok (.getfield 26, 3) := by decide +kernel
theorem dX5_onOpen_79 : decode cX5_onOpen 79 = .ok (.iload_n 1, 1) := by decide +kernel
theorem dX5_onOpen_80 : decode cX5_onOpen 80 = .ok (.aload_n 2, 1) := by decide +kernel
theorem dX5_onOpen_81 : decode cX5_onOpen 81 = .ok (.invokevirtual 98, 3) := by decide +kernel
theorem dX5_onOpen_84 : decode cX5_onOpen 84 = .ok (.return_, 1) := by decide +kernel
theorem dX5_onOpen_85 : decode cX5_onOpen 85 = .ok (.aload_n 0, 1) := by decide +kernel
theorem dX5_onOpen_86 : decode cX5_onOpen 86 = .ok (.getfield 19, 3) := by decide +kernel
theorem dX5_onOpen_89 : decode cX5_onOpen 89 = .ok (.iload 6, 2) := by decide +kernel
theorem dX5_onOpen_91 : decode cX5_onOpen 91 = .ok (.aaload, 1) := by decide +kernel
theorem dX5_onOpen_92 : decode cX5_onOpen 92 = .ok (.astore 7, 2) := by decide +kernel
theorem dX5_onOpen_94 : decode cX5_onOpen 94 = .ok (.aload 7, 2) := by decide +kernel
theorem dX5_onOpen_96 : decode cX5_onOpen 96 = .ok (.iconst 0, 1) := by decide +kernel
theorem dX5_onOpen_97 : decode cX5_onOpen 97 = .ok (.aload_n 2, 1) := by decide +kernel
theorem dX5_onOpen_98 : decode cX5_onOpen 98 = .ok (.getfield 55, 3) := by decide +kernel
theorem dX5_onOpen_101 : decode cX5_onOpen 101 = .ok (.iconst 0, 1) := by decide +kernel
theorem dX5_onOpen_102 : decode cX5_onOpen 102 = .ok (.iaload, 1) := by decide +kernel
theorem dX5_onOpen_103 : decode cX5_onOpen 103 = .ok (.iastore, 1) := by decide +kernel
theorem dX5_onOpen_104 : decode cX5_onOpen 104 = .ok (.aload 7, 2) := by decide +kernel
theorem dX5_onOpen_106 : decode cX5_onOpen 106 = .ok (.iconst 1, 1) := by decide +kernel
theorem dX5_onOpen_107 : decode cX5_onOpen 107 = .ok (.aload_n 2, 1) := by decide +kernel
theorem dX5_onOpen_108 : decode cX5_onOpen 108 = .ok (.getfield 55, 3) := by decide +kernel
theorem dX5_onOpen_111 : decode cX5_onOpen 111 = .ok (.iconst 1, 1) := by decide +kernel
theorem dX5_onOpen_112 : decode cX5_onOpen 112 = .ok (.iaload, 1) := by decide +kernel
theorem dX5_onOpen_113 : decode cX5_onOpen 113 = .ok (.iastore, 1) := by decide +kernel
theorem dX5_onOpen_114 : decode cX5_onOpen 114 = .ok (.aload 7, 2) := by decide +kernel
theorem dX5_onOpen_116 : decode cX5_onOpen 116 = .ok (.iconst 2, 1) := by decide +kernel
theorem dX5_onOpen_117 : decode cX5_onOpen 117 = .ok (.iload_n 3, 1) := by decide +kernel
theorem dX5_onOpen_118 : decode cX5_onOpen 118 = .ok (.iastore, 1) := by decide +kernel
theorem dX5_onOpen_119 : decode cX5_onOpen 119 = .ok (.aload 7, 2) := by decide +kernel
theorem dX5_onOpen_121 : decode cX5_onOpen 121 = .ok (.iconst 3, 1) := by decide +kernel
theorem dX5_onOpen_122 : decode cX5_onOpen 122 = .ok (.aload_n 0, 1) := by decide +kernel
theorem dX5_onOpen_123 : decode cX5_onOpen 123 = .ok (.getfield 22, 3) := by decide +kernel
theorem dX5_onOpen_126 : decode cX5_onOpen 126 = .ok (.getfield 43, 3) := by decide +kernel
theorem dX5_onOpen_129 : decode cX5_onOpen 129 = .ok (.iastore, 1) := by decide +kernel
theorem dX5_onOpen_130 : decode cX5_onOpen 130 = .ok (.aload 5, 2) := by decide +kernel
theorem dX5_onOpen_132 : decode cX5_onOpen 132 = .ok (.getfield 67, 3) := by decide +kernel
theorem dX5_onOpen_135 : decode cX5_onOpen 135 = .ok (.getfield 102, 3) := by decide +kernel
theorem dX5_onOpen_138 : decode cX5_onOpen 138 = .ok (.getfield 106, 3) := by decide +kernel
theorem dX5_onOpen_141 : decode cX5_onOpen 141 = .ok (.iconst 0, 1) := by decide +kernel
theorem dX5_onOpen_142 : decode cX5_onOpen 142 = .ok (.aload 7, 2) := by decide +kernel
theorem dX5_onOpen_144 : decode cX5_onOpen 144 = .ok (.iconst 4, 1) := by decide +kernel
theorem dX5_onOpen_145 : decode cX5_onOpen 145 = .ok (.bipush 100, 2) := by decide +kernel
theorem dX5_onOpen_147 : decode cX5_onOpen 147 = .ok (.invokestatic 111, 3) := by decide +kernel
theorem dX5_onOpen_150 : decode cX5_onOpen 150 = .ok (.aload_n 0, 1) := by decide +kernel
theorem dX5_onOpen_151 : decode cX5_onOpen 151 = .ok (.getfield 22, 3) := by decide +kernel
theorem dX5_onOpen_154 : decode cX5_onOpen 154 = .ok (.aload_n 0, 1) := by decide +kernel
theorem dX5_onOpen_155 : decode cX5_onOpen 155 = .ok (.getfield 26, 3) := by decide +kernel
theorem dX5_onOpen_158 : decode cX5_onOpen 158 = .ok (.iload_n 1, 1) := by decide +kernel
theorem dX5_onOpen_159 : decode cX5_onOpen 159 = .ok (.bipush 20, 2) := by decide +kernel
theorem dX5_onOpen_161 : decode cX5_onOpen 161 = .ok (.invokevirtual 51, 3) := by decide +kernel
theorem dX5_onOpen_164 : decode cX5_onOpen 164 = .ok (.aload_n 2, 1) := by decide +kernel
theorem dX5_onOpen_165 : decode cX5_onOpen 165 = .ok (.getfield 55, 3) := by decide +kernel
theorem dX5_onOpen_168 : decode cX5_onOpen 168 = .ok (.iconst 0, 1) := by decide +kernel
theorem dX5_onOpen_169 : decode cX5_onOpen 169 = .ok (.iaload, 1) := by decide +kernel
theorem dX5_onOpen_170 : decode cX5_onOpen 170 = .ok (.aload_n 2, 1) := by decide +kernel
theorem dX5_onOpen_171 : decode cX5_onOpen 171 = .ok (.getfield 55, 3) := by decide +kernel
theorem dX5_onOpen_174 : decode cX5_onOpen 174 = .ok (.iconst 1, 1) := by decide +kernel
theorem dX5_onOpen_175 : decode cX5_onOpen 175 = .ok (.iaload, 1) := by decide +kernel
theorem dX5_onOpen_176 : decode cX5_onOpen 176 = .ok (.iload_n 3, 1) := by decide +kernel
theorem dX5_onOpen_177 : decode cX5_onOpen 177 = .ok (.iload 6, 2) := by decide +kernel
theorem dX5_onOpen_179 : decode cX5_onOpen 179 = .ok (.iconst 0, 1) := by decide +kernel
theorem dX5_onOpen_180 : decode cX5_onOpen 180 = .ok (.invokevirtual 117, 3) := by decide +kernel
theorem dX5_onOpen_183 : decode cX5_onOpen 183 = .ok (.astore 8, 2) := by decide +kernel
theorem dX5_onOpen_185 : decode cX5_onOpen 185 = .ok (.aload 4, 2) := by decide +kernel
theorem dX5_onOpen_187 : decode cX5_onOpen 187 = .ok (.getfield 88, 3) := by decide +kernel
theorem dX5_onOpen_190 : decode cX5_onOpen 190 = .ok (.aload_n 0, 1) := by decide +kernel
theorem dX5_onOpen_191 : decode cX5_onOpen 191 = .ok (.getfield 22, 3) := by decide +kernel
theorem dX5_onOpen_194 : decode cX5_onOpen 194 = .ok (.aload 7, 2) := by decide +kernel
theorem dX5_onOpen_196 : decode cX5_onOpen 196 = .ok (.aload 8, 2) := by decide +kernel
theorem dX5_onOpen_198 : decode cX5_onOpen 198 = .ok (.getfield 55, 3) := by decide +kernel
theorem dX5_onOpen_201 : decode cX5_onOpen 201 = .ok (.invokevirtual 121, 3) := by decide +kernel
theorem dX5_onOpen_204 : decode cX5_onOpen 204 = .ok (.return_, 1) := by decide +kernel
theorem dX5_onScore_0 : decode cX5_onScore 0 = .ok (.aload_n 2, 1) := by decide +kernel
theorem dX5_onScore_1 : decode cX5_onScore 1 = .ok (.getfield 55, 3) := by decide +kernel
theorem dX5_onScore_4 : decode cX5_onScore 4 = .ok (.iconst 3, 1) := by decide +kernel
theorem dX5_onScore_5 : decode cX5_onScore 5 = .ok (.iaload, 1) := by decide +kernel
theorem dX5_onScore_6 : decode cX5_onScore 6 = .ok (.istore_n 3, 1) := by decide +kernel
theorem dX5_onScore_7 : decode cX5_onScore 7 = .ok (.aload_n 0, 1) := by decide +kernel
theorem dX5_onScore_8 : decode cX5_onScore 8 = .ok (.getfield 22, 3) := by decide +kernel
theorem dX5_onScore_11 : decode cX5_onScore 11 = .ok (.aload_n 2, 1) := by decide +kernel
theorem dX5_onScore_12 : decode cX5_onScore 12 = .ok (.getfield 55, 3) := by decide +kernel
theorem dX5_onScore_15 : decode cX5_onScore 15 = .ok (.iconst 0, 1) := by decide +kernel
theorem dX5_onScore_16 : decode cX5_onScore 16 = .ok (.iaload, 1) := by decide +kernel
theorem dX5_onScore_17 : decode cX5_onScore 17 = .ok (.invokevirtual 76, 3) := by decide +kernel
theorem dX5_onScore_20 : decode cX5_onScore 20 = .ok (.astore 4, 2) := by decide +kernel
theorem dX5_onScore_22 : decode cX5_onScore 22 = .ok (.aload 4, 2) := by decide +kernel
theorem dX5_onScore_24 : decode cX5_onScore 24 = .ok (.ifnull 72, 3) := by decide +kernel
theorem dX5_onScore_27 : decode cX5_onScore 27 = .ok (.aload 4, 2) := by decide +kernel
theorem dX5_onScore_29 : decode cX5_onScore 29 = .ok (.getfield 88, 3) := by decide +kernel
theorem dX5_onScore_32 : decode cX5_onScore 32 = .ok (.ifnull 64, 3) := by decide +kernel
theorem dX5_onScore_35 : decode cX5_onScore 35 = .ok (.iload_n 3, 1) := by decide +kernel
theorem dX5_onScore_36 : decode cX5_onScore 36 = .ok (.ifCond .lt 60, 3) := by decide +kernel
theorem dX5_onScore_39 : decode cX5_onScore 39 = .ok (.iload_n 3, 1) := by decide +kernel
theorem dX5_onScore_40 : decode cX5_onScore 40 = .ok (.bipush 8, 2) := by decide +kernel
theorem dX5_onScore_42 : decode cX5_onScore 42 = .ok (.if_icmp .ge 54, 3) := by decide +kernel
theorem dX5_onScore_45 : decode cX5_onScore 45 = .ok (.aload_n 0, 1) := by decide +kernel
theorem dX5_onScore_46 : decode cX5_onScore 46 = .ok (.getfield 19, 3) := by decide +kernel
theorem dX5_onScore_49 : decode cX5_onScore 49 = .ok (.iload_n 3, 1) := by decide +kernel
theorem dX5_onScore_50 : decode cX5_onScore 50 = .ok (.aaload, 1) := by decide +kernel
theorem dX5_onScore_51 : decode cX5_onScore 51 = .ok (.iconst 0, 1) := by decide +kernel
theorem dX5_onScore_52 : decode cX5_onScore 52 = .ok (.iaload, 1) := by decide +kernel
theorem dX5_onScore_53 : decode cX5_onScore 53 = .ok (.aload_n 2, 1) := by decide +kernel
theorem dX5_onScore_54 : decode cX5_onScore 54 = .ok (.getfield 55, 3) := by decide +kernel
theorem dX5_onScore_57 : decode cX5_onScore 57 = .ok (.iconst 0, 1) := by decide +kernel
theorem dX5_onScore_58 : decode cX5_onScore 58 = .ok (.iaload, 1) := by decide +kernel
theorem dX5_onScore_59 : decode cX5_onScore 59 = .ok (.if_icmp .ne 37, 3) := by decide +kernel
theorem dX5_onScore_62 : decode cX5_onScore 62 = .ok (.aload_n 0, 1) := by decide +kernel
theorem dX5_onScore_63 : decode cX5_onScore 63 = .ok (.getfield 19, 3) := by decide +kernel
theorem dX5_onScore_66 : decode cX5_onScore 66 = .ok (.iload_n 3, 1) := by decide +kernel
theorem dX5_onScore_67 : decode cX5_onScore 67 = .ok (.aaload, 1) := by decide +kernel
theorem dX5_onScore_68 : decode cX5_onScore 68 = .ok (.iconst 1, 1) := by decide +kernel
theorem dX5_onScore_69 : decode cX5_onScore 69 = .ok (.iaload, 1) := by decide +kernel
theorem dX5_onScore_70 : decode cX5_onScore 70 = .ok (.aload_n 2, 1) := by decide +kernel
theorem dX5_onScore_71 : decode cX5_onScore 71 = .ok (.getfield 55, 3) := by decide +kernel
theorem dX5_onScore_74 : decode cX5_onScore 74 = .ok (.iconst 1, 1) := by decide +kernel
theorem dX5_onScore_75 : decode cX5_onScore 75 = .ok (.iaload, 1) := by decide +kernel
theorem dX5_onScore_76 : decode cX5_onScore 76 = .ok (.if_icmp .ne 20, 3) := by decide +kernel
theorem dX5_onScore_79 : decode cX5_onScore 79 = .ok (.aload_n 0, 1) := by decide +kernel
theorem dX5_onScore_80 : decode cX5_onScore 80 = .ok (.getfield 19, 3) := by decide +kernel
theorem dX5_onScore_83 : decode cX5_onScore 83 = .ok (.iload_n 3, 1) := by decide +kernel
theorem dX5_onScore_84 : decode cX5_onScore 84 = .ok (.aaload, 1) := by decide +kernel
theorem dX5_onScore_85 : decode cX5_onScore 85 = .ok (.iconst 2, 1) := by decide +kernel
theorem dX5_onScore_86 : decode cX5_onScore 86 = .ok (.iaload, 1) := by decide +kernel
theorem dX5_onScore_87 : decode cX5_onScore 87 = .ok (.aload_n 2, 1) := by decide +kernel
theorem dX5_onScore_88 : decode cX5_onScore 88 = .ok (.getfield 55, 3) := by decide +kernel
theorem dX5_onScore_91 : decode cX5_onScore 91 = .ok (.iconst 2, 1) := by decide +kernel
theorem dX5_onScore_92 : decode cX5_onScore 92 = .ok (.iaload, 1) := by decide +kernel
theorem dX5_onScore_93 : decode cX5_onScore 93 = .ok (.if_icmp .eq 17, 3) := by decide +kernel
theorem dX5_onScore_96 : decode cX5_onScore 96 = .ok (.aload_n 0, 1) := by decide +kernel
theorem dX5_onScore_97 : decode cX5_onScore 97 = .ok (.getfield 22, 3) := by decide +kernel
theorem dX5_onScore_100 : decode cX5_onScore 100 = .ok (.aload_n 0, 1) := by decide +kernel
theorem dX5_onScore_101 : decode cX5_onScore 101 = .ok (.getfield 26, 3) := by decide +kernel
theorem dX5_onScore_104 : decode cX5_onScore 104 = .ok (.iload_n 1, 1) := by decide +kernel
theorem dX5_onScore_105 : decode cX5_onScore 105 = .ok (.aload_n 2, 1) := by decide +kernel
theorem dX5_onScore_106 : decode cX5_onScore 106 = .ok (.invokevirtual 98, 3) := by decide +kernel
theorem dX5_onScore_109 : decode cX5_onScore 109 = .ok (.return_, 1) := by decide +kernel
theorem dX5_onScore_110 : decode cX5_onScore 110 = .ok (.aload_n 0, 1) := by decide +kernel
theorem dX5_onScore_111 : decode cX5_onScore 111 = .ok (.getfield 22, 3) := by decide +kernel
theorem dX5_onScore_114 : decode cX5_onScore 114 = .ok (.aload_n 0, 1) := by decide +kernel
theorem dX5_onScore_115 : decode cX5_onScore 115 = .ok (.getfield 26, 3) := by decide +kernel
theorem dX5_onScore_118 : decode cX5_onScore 118 = .ok (.iload_n 1, 1) := by decide +kernel
theorem dX5_onScore_119 : decode cX5_onScore 119 = .ok (.bipush 22, 2) := by decide +kernel
theorem dX5_onScore_121 : decode cX5_onScore 121 = .ok (.invokevirtual 51, 3) := by decide +kernel
theorem dX5_onScore_124 : decode cX5_onScore 124 = .ok (.aload_n 2, 1) := by decide +kernel
theorem dX5_onScore_125 : decode cX5_onScore 125 = .ok (.getfield 55, 3) := by decide +kernel
theorem dX5_onScore_128 : decode cX5_onScore 128 = .ok (.iconst 0, 1) := by decide +kernel
theorem dX5_onScore_129 : decode cX5_onScore 129 = .ok (.iaload, 1) := by decide +kernel
theorem dX5_onScore_130 : decode cX5_onScore 130 = .ok (.aload_n 2, 1) := by decide +kernel
theorem dX5_onScore_131 : decode cX5_onScore 131 = .ok (.getfield 55, 3) := by decide +kernel
theorem dX5_onScore_134 : decode cX5_onScore 134 = .ok (.iconst 1, 1) := by decide +kernel
theorem dX5_onScore_135 : decode cX5_onScore 135 = .ok (.iaload, 1) := by decide +kernel
theorem dX5_onScore_136 : decode cX5_onScore 136 = .ok (.aload_n 2, 1) := by decide +kernel
theorem dX5_onScore_137 : decode cX5_onScore 137 = .ok (.getfield 55, 3) := by decide +kernel
theorem dX5_onScore_140 : decode cX5_onScore 140 = .ok (.iconst 2, 1) := by decide +kernel
theorem dX5_onScore_141 : decode cX5_onScore 141 = .ok (.iaload, 1) := by decide +kernel
theorem dX5_onScore_142 : decode cX5_onScore 142 = .ok (.iconst 0, 1) := by decide +kernel
theorem dX5_onScore_143 : decode cX5_onScore 143 = .ok (.iconst 0, 1) := by decide +kernel
theorem dX5_onScore_144 : decode cX5_onScore 144 = .ok (.invokevirtual 117, 3) := by decide +kernel
theorem dX5_onScore_147 : decode cX5_onScore 147 = .ok (.astore 5, 2) := by decide +kernel
theorem dX5_onScore_149 : decode cX5_onScore 149 = .ok (.iconst 0, 1) := by decide +kernel
theorem dX5_onScore_150 : decode cX5_onScore 150 = .ok (.istore 6, 2) := by decide +kernel
theorem dX5_onScore_152 : decode cX5_onScore 152 = .ok (.iconst 0, 1) := by decide +kernel
theorem dX5_onScore_153 : decode cX5_onScore 153 = .ok (.istore 7, 2) := by decide +kernel
theorem dX5_onScore_155 : decode cX5_onScore 155 = .ok (.iload 7, 2) := by decide +kernel
theorem dX5_onScore_157 : decode cX5_onScore 157 = .ok (.bipush 100, 2) := by decide +kernel
theorem dX5_onScore_159 : decode cX5_onScore 159 = .ok (.if_icmp .ge 82, 3) := by decide +kernel
theorem dX5_onScore_162 : decode cX5_onScore 162 = .ok (.aload_n 0, 1) := by decide +kernel
theorem dX5_onScore_163 : decode cX5_onScore 163 = .ok (.getfield 22, 3) := by decide +kernel
theorem dX5_onScore_166 : decode cX5_onScore 166 = .ok (.aload_n 0, 1) := by decide +kernel
theorem dX5_onScore_167 : decode cX5_onScore 167 = .ok (.getfield 19, 3) := by decide +kernel
theorem dX5_onScore_170 : decode cX5_onScore 170 = .ok (.iload_n 3, 1) := by decide +kernel
theorem dX5_onScore_171 : decode cX5_onScore 171 = .ok (.aaload, 1) := by decide +kernel
theorem dX5_onScore_172 : decode cX5_onScore 172 = .ok (.iconst 4, 1) := by decide +kernel
theorem dX5_onScore_173 : decode cX5_onScore 173 = .ok (.iload 7, 2) := by decide +kernel
theorem dX5_onScore_175 : decode cX5_onScore 175 = .ok (.iadd, 1) := by decide +kernel
theorem dX5_onScore_176 : decode cX5_onScore 176 = .ok (.iaload, 1) := by decide +kernel
theorem dX5_onScore_177 : decode cX5_onScore 177 = .ok (.invokevirtual 76, 3) := by decide +kernel
theorem dX5_onScore_180 : decode cX5_onScore 180 = .ok (.astore 8, 2) := by decide +kernel
theorem dX5_onScore_182 : decode cX5_onScore 182 = .ok (.aload 8, 2) := by decide +kernel
theorem dX5_onScore_184 : decode cX5_onScore 184 = .ok (.ifnonnull 7, 3) := by decide +kernel
theorem dX5_onScore_187 : decode cX5_onScore 187 = .ok (.iconst (-1), 1) := by decide +kernel
theorem dX5_onScore_188 : decode cX5_onScore 188 = .ok (.goto 17, 3) := by decide +kernel
theorem dX5_onScore_191 : decode cX5_onScore 191 = .ok (.aload 4, 2) := by decide +kernel
theorem dX5_onScore_193 : decode cX5_onScore 193 = .ok (.getfield 88, 3) := by decide +kernel
theorem dX5_onScore_196 : decode cX5_onScore 196 = .ok (.aload 8, 2) := by decide +kernel
theorem dX5_onScore_198 : decode cX5_onScore 198 = .ok (.aload_n 2, 1) := by decide +kernel
theorem dX5_onScore_199 : decode cX5_onScore 199 = .ok (.getfield 55, 3) := by decide +kernel
theorem dX5_onScore_202 : decode cX5_onScore 202 = .ok (.invokevirtual 127, 3) := by decide +kernel
theorem dX5_onScore_205 : decode cX5_onScore 205 = .ok (.istore 9, 2) := by decide +kernel
theorem dX5_onScore_207 : decode cX5_onScore 207 = .ok (.iload 9, 2) := by decide +kernel
theorem dX5_onScore_209 : decode cX5_onScore 209 = .ok (.iconst (-1), 1) := by decide +kernel
theorem dX5_onScore_210 : decode cX5_onScore 210 = .ok (.if_icmp .eq 25, 3) := by decide +kernel
theorem dX5_onScore_213 : decode cX5_onScore 213 = .ok (.aload 5, 2) := by decide +kernel
theorem dX5_onScore_215 : decode cX5_onScore 215 = .ok (.getfield 55, 3) := by decide +kernel
theorem dX5_onScore_218 : decode cX5_onScore 218 = .ok (.iconst 5, 1) := by decide +kernel
theorem dX5_onScore_219 : decode cX5_onScore 219 = .ok (.iload 6, 2) := by decide +kernel
theorem dX5_onScore_221 : decode cX5_onScore 221 = .ok (.aload 4, 2) := by decide +kernel
theorem dX5_onScore_223 : decode cX5_onScore 223 = .ok (.getfield 131, 3) := by decide +kernel
theorem dX5_onScore_226 : decode cX5_onScore 226 = .ok (.iload 7, 2) := by decide +kernel
theorem dX5_onScore_228 : decode cX5_onScore 228 = .ok (.iload 9, 2) := by decide +kernel
theorem dX5_onScore_230 : decode cX5_onScore 230 = .ok (.invokestatic 134, 3) := by decide +kernel
theorem dX5_onScore_233 : decode cX5_onScore 233 = .ok (.istore 6, 2) := by decide +kernel
theorem dX5_onScore_235 : decode cX5_onScore 235 = .ok (.iinc 7 1, 3) := by decide +kernel
theorem dX5_onScore_238 : decode cX5_onScore 238 = .ok (.goto (-83), 3) := by decide +kernel
theorem dX5_onScore_241 : decode cX5_onScore 241 = .ok (.aload 5, 2) := by decide +kernel
theorem dX5_onScore_243 : decode cX5_onScore 243 = .ok (.getfield 55, 3) := by decide +kernel
theorem dX5_onScore_246 : decode cX5_onScore 246 = .ok (.iconst 3, 1) := by decide +kernel
theorem dX5_onScore_247 : decode cX5_onScore 247 = .ok (.iload 6, 2) := by decide +kernel
theorem dX5_onScore_249 : decode cX5_onScore 249 = .ok (.iastore, 1) := by decide +kernel
theorem dX5_onScore_250 : decode cX5_onScore 250 = .ok (.aload_n 0, 1) := by decide +kernel
theorem dX5_onScore_251 : decode cX5_onScore 251 = .ok (.getfield 19, 3) := by decide +kernel
theorem dX5_onScore_254 : decode cX5_onScore 254 = .ok (.iload_n 3, 1) := by decide +kernel
theorem dX5_onScore_255 : decode cX5_onScore 255 = .ok (.aaload, 1) := by decide +kernel
theorem dX5_onScore_256 : decode cX5_onScore 256 = .ok (.iconst 0, 1) := by decide +kernel
theorem dX5_onScore_257 : decode cX5_onScore 257 = .ok (.iconst (-1), 1) := by decide +kernel
theorem dX5_onScore_258 : decode cX5_onScore 258 = .ok (.iastore, 1) := by decide +kernel
theorem dX5_onScore_259 : decode cX5_onScore 259 = .ok (.return_, 1) := by decide +kernel
theorem dX6_init_0 : decode cX6_init 0 = .ok (.aload_n 0, 1) := by decide +kernel
theorem dX6_init_1 : decode cX6_init 1 = .ok (.invokespecial 3, 3) := by decide +kernel
theorem dX6_init_4 : decode cX6_init 4 = .ok (.aload_n 0, 1) := by decide +kernel
theorem dX6_init_5 : decode cX6_init 5 = .ok (.bipush 6, 2) := by decide +kernel
theorem dX6_init_7 : decode cX6_init 7 = .ok (.newarray .int, 2) := by decide +kernel
theorem dX6_init_9 : decode cX6_init 9 = .ok (.putfield 9, 3) := by decide +kernel
theorem dX6_init_12 : decode cX6_init 12 = .ok (.aload_n 0, 1) := by decide +kernel
theorem dX6_init_13 : decode cX6_init 13 = .ok (.bipush 6, 2) := by decide +kernel
theorem dX6_init_15 : decode cX6_init 15 = .ok (.newarray .int, 2) := by decide +kernel
theorem dX6_init_17 : decode cX6_init 17 = .ok (.putfield 15, 3) := by decide +kernel
theorem dX6_init_20 : decode cX6_init 20 = .ok (.aload_n 0, 1) := by decide +kernel
theorem dX6_init_21 : decode cX6_init 21 = .ok (.bipush 24, 2) := by decide +kernel
theorem dX6_init_23 : decode cX6_init 23 = .ok (.newarray .long, 2) := by decide +kernel
theorem dX6_init_25 : decode cX6_init 25 = .ok (.putfield 18, 3) := by decide +kernel
theorem dX6_init_28 : decode cX6_init 28 = .ok (.return_, 1) := by decide +kernel
theorem dX6_read_0 : decode cX6_read 0 = .ok (.iconst 0, 1) := by decide +kernel
theorem dX6_read_1 : decode cX6_read 1 = .ok (.istore_n 3, 1) := by decide +kernel
theorem dX6_read_2 : decode cX6_read 2 = .ok (.iconst 0, 1) := by decide +kernel
theorem dX6_read_3 : decode cX6_read 3 = .ok (.istore 4, 2) := by decide +kernel
theorem dX6_read_5 : decode cX6_read 5 = .ok (.iconst 0, 1) := by decide +kernel
theorem dX6_read_6 : decode cX6_read 6 = .ok (.istore 5, 2) := by decide +kernel
theorem dX6_read_8 : decode cX6_read 8 = .ok (.iload 5, 2) := by decide +kernel
theorem dX6_read_10 : decode cX6_read 10 = .ok (.iload_n 2, 1) := by decide +kernel
theorem dX6_read_11 : decode cX6_read 11 = .ok (.if_icmp .ge 61, 3) := by decide +kernel
theorem dX6_read_14 : decode cX6_read 14 = .ok (.iload 5, 2) := by decide +kernel
theorem dX6_read_16 : decode cX6_read 16 = .ok (.iload 4, 2) := by decide +kernel
theorem dX6_read_18 : decode cX6_read 18 = .ok (.if_icmp .lt 48, 3) := by decide +kernel
theorem dX6_read_21 : decode cX6_read 21 = .ok (.aload_n 1, 1) := by decide +kernel
theorem dX6_read_22 : decode cX6_read 22 = .ok (.iload 5, 2) := by decide +kernel
theorem dX6_read_24 : decode cX6_read 24 = .ok (.iaload, 1) := by decide +kernel
theorem dX6_read_25 : decode cX6_read 25 = .ok (.bipush 32, 2) := by decide +kernel
theorem dX6_read_27 : decode cX6_read 27 = .ok (.if_icmp .ne 6, 3) := by decide +kernel
theorem dX6_read_30 : decode cX6_read 30 = .ok (.goto 36, 3) := by decide +kernel
theorem dX6_read_33 : decode cX6_read 33 = .ok (.iload_n 3, 1) := by decide +kernel
theorem dX6_read_34 : decode cX6_read 34 = .ok (.bipush 6, 2) := by decide +kernel
theorem dX6_read_36 : decode cX6_read 36 = .ok (.if_icmp .ne 9, 3) := by decide +kernel
theorem dX6_read_39 : decode cX6_read 39 = .ok (.iload 5, 2) := by decide +kernel
theorem dX6_read_41 : decode cX6_read 41 = .ok (.invokestatic 22, 3) := by decide +kernel
theorem dX6_read_44 : decode cX6_read 44 = .ok (.ireturn, 1) := by decide +kernel
theorem dX6_read_45 : decode cX6_read 45 = .ok (.iinc 3 1, 3) := by decide +kernel
theorem dX6_read_48 : decode cX6_read 48 = .ok (.aload_n 0, 1) := by decide +kernel
theorem dX6_read_49 : decode cX6_read 49 = .ok (.aload_n 1, 1) := by decide +kernel
theorem dX6_read_50 : decode cX6_read 50 = .ok (.iload_n 2, 1) := by decide +kernel
theorem dX6_read_51 : decode cX6_read 51 = .ok (.iload 5, 2) := by decide +kernel
theorem dX6_read_53 : decode cX6_read 53 = .ok (.invokevirtual 26, 3) := by decide +kernel
theorem dX6_read_56 : decode cX6_read 56 = .ok (.istore 4, 2) := by decide +kernel
theorem dX6_read_58 : decode cX6_read 58 = .ok (.iload 4, 2) := by decide +kernel
theorem dX6_read_60 : decode cX6_read 60 = .ok (.ifCond .ge 6, 3) := by decide +kernel
theorem dX6_read_63 : decode cX6_read 63 = .ok (.iload 4, 2) := by decide +kernel
theorem dX6_read_65 : decode cX6_read 65 = .ok (.ireturn, 1) := by decide +kernel
theorem dX6_read_66 : decode cX6_read 66 = .ok (.iinc 5 1, 3) := by decide +kernel
theorem dX6_read_69 : decode cX6_read 69 = .ok (.goto (-61), 3) := by decide +kernel
theorem dX6_read_72 : decode cX6_read 72 = .ok (.iload_n 3, 1) := by decide +kernel
theorem dX6_read_73 : decode cX6_read 73 = .ok (.ifCond .ne 10, 3) := by decide +kernel
theorem dX6_read_76 : decode cX6_read 76 = .ok (.iload_n 2, 1) := by decide +kernel
theorem dX6_read_77 : decode cX6_read 77 = .ok (.invokestatic 22, 3) := by decide +kernel
theorem dX6_read_80 : decode cX6_read 80 = .ok (.goto 4, 3) := by decide +kernel
theorem dX6_read_83 : decode cX6_read 83 = .ok (.iconst 0, 1) := by decide +kernel
theorem dX6_read_84 : decode cX6_read 84 = .ok (.ireturn, 1) := by decide +kernel
theorem dX6_fault_0 : decode cX6_fault 0 = .ok (.bipush (-2), 2) := by decide +kernel
theorem dX6_fault_2 : decode cX6_fault 2 = .ok (.iload_n 0, 1) := by decide +kernel
theorem dX6_fault_3 : decode cX6_fault 3 = .ok (.isub, 1) := by decide +kernel
theorem dX6_fault_4 : decode cX6_fault 4 = .ok (.ireturn, 1) := by decide +kernel
theorem dX6_readClause_0 : decode cX6_readClause 0 = .ok (.aload_n 1, 1) := by decide +kernel
theorem dX6_readClause_1 : decode cX6_readClause 1 = .ok (.iload_n 3, 1) := by decide +kernel
theorem dX6_readClause_2 : decode cX6_readClause 2 = .ok (.iaload, 1) := by decide +kernel
theorem dX6_readClause_3 : decode cX6_readClause 3 = .ok (.bipush 43, 2) := by decide +kernel
theorem dX6_readClause_5 : decode cX6_readClause 5 = .ok (.if_icmp .eq 11, 3) := by decide +kernel
theorem dX6_readClause_8 : decode cX6_readClause 8 = .ok (.aload_n 1, 1) := by decide +kernel
theorem dX6_readClause_9 : decode cX6_readClause 9 = .ok (.iload_n 3, 1) := by decide +kernel
theorem dX6_readClause_10 : decode cX6_readClause 10 = .ok (.iaload, 1) := by decide +kernel
theorem dX6_readClause_11 : decode cX6_readClause 11 = .ok (.bipush 45, 2) := by decide +kernel
theorem dX6_readClause_13 : decode cX6_readClause 13 = .ok (.if_icmp .ne 7, 3) := by decide +kernel
theorem dX6_readClause_16 : decode cX6_readClause 16 = .ok (.iconst 1, 1) := by decide +kernel
theorem dX6_readClause_17 : decode cX6_readClause 17 = .ok (.goto 4, 3) := by decide +kernel
theorem dX6_readClause_20 : decode cX6_readClause 20 = .ok (.iconst 0, 1) := by decide +kernel
theorem dX6_readClause_21 : decode cX6_readClause 21 = .ok (.istore 4, 2) := by decide +kernel
theorem dX6_readClause_23 : decode cX6_readClause 23 = .ok (.aload_n 0, 1) := by decide +kernel
theorem dX6_readClause_24 : decode cX6_readClause 24 = .ok (.getfield 9, 3) := by decide +kernel
theorem dX6_readClause_27 : decode cX6_readClause 27 = .ok (.aload_n 0, 1) := by decide +kernel
theorem dX6_readClause_28 : decode cX6_readClause 28 = .ok (.getfield 30, 3) := by decide +kernel
theorem dX6_readClause_31 : decode cX6_readClause 31 = .ok (.iload 4, 2) := by decide +kernel
theorem dX6_readClause_33 : decode cX6_readClause 33 = .ok (.ifCond .eq 9, 3) := by decide +kernel
theorem dX6_readClause_36 : decode cX6_readClause 36 = .ok (.aload_n 1, 1) := by decide +kernel
theorem dX6_readClause_37 : decode cX6_readClause 37 = .ok (.iload_n 3, 1) := by decide +kernel
theorem dX6_readClause_38 : decode cX6_readClause 38 = .ok (.iaload, 1) := by decide +kernel
theorem dX6_readClause_39 : decode cX6_readClause 39 = .ok (.goto 4, 3) := by decide +kernel
theorem dX6_readClause_42 : decode cX6_readClause 42 = .ok (.iconst 0, 1) := by decide +kernel
theorem dX6_readClause_43 : decode cX6_readClause 43 = .ok (.iastore, 1) := by decide +kernel
theorem dX6_readClause_44 : decode cX6_readClause 44 = .ok (.iload 4, 2) := by decide +kernel
theorem dX6_readClause_46 : decode cX6_readClause 46 = .ok (.ifCond .eq 9, 3) := by decide +kernel
theorem dX6_readClause_49 : decode cX6_readClause 49 = .ok (.iload_n 3, 1) := by decide +kernel
theorem dX6_readClause_50 : decode cX6_readClause 50 = .ok (.iconst 1, 1) := by decide +kernel
theorem dX6_readClause_51 : decode cX6_readClause 51 = .ok (.iadd, 1) := by decide +kernel
theorem dX6_readClause_52 : decode cX6_readClause 52 = .ok (.goto 4, 3) := by decide +kernel
theorem dX6_readClause_55 : decode cX6_readClause 55 = .ok (.iload_n 3, 1) := by decide +kernel
theorem dX6_readClause_56 : decode cX6_readClause 56 = .ok (.istore 5, 2) := by decide +kernel
theorem dX6_readClause_58 : decode cX6_readClause 58 = .ok (.iload 5, 2) := by decide +kernel
theorem dX6_readClause_60 : decode cX6_readClause 60 = .ok (.iload_n 2, 1) := by decide +kernel
theorem dX6_readClause_61 : decode cX6_readClause 61 = .ok (.if_icmp .lt 8, 3) := by decide +kernel
theorem dX6_readClause_64 : decode cX6_readClause 64 = .ok (.iload_n 2, 1) := by decide +kernel
theorem dX6_readClause_65 : decode cX6_readClause 65 = .ok (.invokestatic 22, 3) := by decide +kernel
theorem dX6_readClause_68 : decode cX6_readClause 68 = .ok (.ireturn, 1) := by decide +kernel
theorem dX6_readClause_69 : decode cX6_readClause 69 = .ok (.aload_n 1, 1) := by decide +kernel
theorem dX6_readClause_70 : decode cX6_readClause 70 = .ok (.iload 5, 2) := by decide +kernel
theorem dX6_readClause_72 : decode cX6_readClause 72 = .ok (.iaload, 1) := by decide +kernel
theorem dX6_readClause_73 : decode cX6_readClause 73 = .ok (.bipush 34, 2) := by decide +kernel
theorem dX6_readClause_75 : decode cX6_readClause 75 = .ok (.if_icmp .ne 14, 3) := by decide +kernel
theorem dX6_readClause_78 : decode cX6_readClause 78 = .ok (.aload_n 0, 1) := by decide +kernel
theorem dX6_readClause_79 : decode cX6_readClause 79 = .ok (.aload_n 1, 1) := by decide +kernel
theorem dX6_readClause_80 : decode cX6_readClause 80 = .ok (.iload_n 2, 1) := by decide +kernel
theorem dX6_readClause_81 : decode cX6_readClause 81 = .ok (.iload 5, 2) := by decide +kernel
theorem dX6_readClause_83 : decode cX6_readClause 83 = .ok (.iconst 1, 1) := by decide +kernel
theorem dX6_readClause_84 : decode cX6_readClause 84 = .ok (.iadd, 1) := by decide +kernel
theorem dX6_readClause_85 : decode cX6_readClause 85 = .ok (.invokevirtual 34, 3) := by decide +kernel
theorem dX6_readClause_88 : decode cX6_readClause 88 = .ok (.ireturn, 1) := by decide +kernel
theorem dX6_readClause_89 : decode cX6_readClause 89 = .ok (.aload_n 1, 1) := by decide +kernel
theorem dX6_readClause_90 : decode cX6_readClause 90 = .ok (.iload 5, 2) := by decide +kernel
theorem dX6_readClause_92 : decode cX6_readClause 92 = .ok (.iaload, 1) := by decide +kernel
theorem dX6_readClause_93 : decode cX6_readClause 93 = .ok (.invokestatic 37, 3) := by decide +kernel
theorem dX6_readClause_96 : decode cX6_readClause 96 = .ok (.ifCond .ne 9, 3) := by decide +kernel
theorem dX6_readClause_99 : decode cX6_readClause 99 = .ok (.iload 5, 2) := by decide +kernel
theorem dX6_readClause_101 : decode cX6_readClause 101 = .ok (.invokestatic 22, 3) := by decide +kernel
theorem dX6_readClause_104 : decode cX6_readClause 104 = .ok (.ireturn, 1) := by decide +kernel
theorem dX6_readClause_105 : decode cX6_readClause 105 = .ok (.aload_n 1, 1) := by decide +kernel
theorem dX6_readClause_106 : decode cX6_readClause 106 = .ok (.iload_n 2, 1) := by decide +kernel
theorem dX6_readClause_107 : decode cX6_readClause 107 = .ok (.iload 5, 2) := by decide +kernel
theorem dX6_readClause_109 : decode cX6_readClause 109 = .ok (.invokestatic 41, 3) := by decide +kernel
theorem dX6_readClause_112 : decode cX6_readClause 112 = .ok (.istore 6, 2) := by decide +kernel
theorem dX6_readClause_114 : decode cX6_readClause 114 = .ok (.iload 6, 2) := by decide +kernel
theorem dX6_readClause_116 : decode cX6_readClause 116 = .ok (.iload_n 2, 1) := by decide +kernel
theorem dX6_readClause_117 : decode cX6_readClause 117 = .ok (.if_icmp .ge 16, 3) := by decide +kernel
theorem dX6_readClause_120 : decode cX6_readClause 120 = .ok (.aload_n 1, 1) := by decide +kernel
theorem dX6_readClause_121 : decode cX6_readClause 121 = .ok (.iload 6, 2) := by decide +kernel
theorem dX6_readClause_123 : decode cX6_readClause 123 = .ok (.iaload, 1) := by decide +kernel
theorem dX6_readClause_124 : decode cX6_readClause 124 = .ok (.bipush 42, 2) := by decide +kernel
theorem dX6_readClause_126 : decode cX6_readClause 126 = .ok (.if_icmp .ne 7, 3) := by decide +kernel
theorem dX6_readClause_129 : decode cX6_readClause 129 = .ok (.iconst 1, 1) := by decide +kernel
theorem dX6_readClause_130 : decode cX6_readClause 130 = .ok (.goto 4, 3) := by decide +kernel
theorem dX6_readClause_133 : decode cX6_readClause 133 = .ok (.iconst 0, 1) := by decide +kernel
theorem dX6_readClause_134 : decode cX6_readClause 134 = .ok (.istore 7, 2) := by decide +kernel
theorem dX6_readClause_136 : decode cX6_readClause 136 = .ok (.iload 7, 2) := by decide +kernel
theorem dX6_readClause_138 : decode cX6_readClause 138 = .ok (.ifCond .eq 10, 3) := by decide +kernel
theorem dX6_readClause_141 : decode cX6_readClause 141 = .ok (.iload 6, 2) := by decide +kernel
theorem dX6_readClause_143 : decode cX6_readClause 143 = .ok (.iconst 1, 1) := by decide +kernel
theorem dX6_readClause_144 : decode cX6_readClause 144 = .ok (.iadd, 1) := by decide +kernel
theorem dX6_readClause_145 : decode cX6_readClause 145 = .ok (.goto 5, 3) := by decide +kernel
theorem dX6_readClause_148 : decode cX6_readClause 148 = .ok (.iload 6, 2) := by decide +kernel
theorem dX6_readClause_150 : decode cX6_readClause 150 = .ok (.istore 8, 2) := by decide +kernel
theorem dX6_readClause_152 : decode cX6_readClause 152 = .ok (.iload 8, 2) := by decide +kernel
theorem dX6_readClause_154 : decode cX6_readClause 154 = .ok (.iload_n 2, 1) := by decide +kernel
theorem dX6_readClause_155 : decode cX6_readClause 155 = .ok (.if_icmp .ge 18, 3) := by decide +kernel
theorem dX6_readClause_158 : decode cX6_readClause 158 = .ok (.aload_n 1, 1) := by decide +kernel
theorem dX6_readClause_159 : decode cX6_readClause 159 = .ok (.iload 8, 2) := by decide +kernel
theorem dX6_readClause_161 : decode cX6_readClause 161 = .ok (.iaload, 1) := by decide +kernel
theorem dX6_readClause_162 : decode cX6_readClause 162 = .ok (.bipush 32, 2) := by decide +kernel
theorem dX6_readClause_164 : decode cX6_readClause 164 = .ok (.if_icmp .eq 9, 3) := by decide +kernel
theorem dX6_readClause_167 : decode cX6_readClause 167 = .ok (.iload 8, 2) := by decide +kernel
theorem dX6_readClause_169 : decode cX6_readClause 169 = .ok (.invokestatic 22, 3) := by decide +kernel
theorem dX6_readClause_172 : decode cX6_readClause 172 = .ok (.ireturn, 1) := by decide +kernel
theorem dX6_readClause_173 : decode cX6_readClause 173 = .ok (.iload 7, 2) := by decide +kernel
theorem dX6_readClause_175 : decode cX6_readClause 175 = .ok (.ifCond .eq 15, 3) := by decide +kernel
theorem dX6_readClause_178 : decode cX6_readClause 178 = .ok (.aload_n 0, 1) := by decide +kernel
theorem dX6_readClause_179 : decode cX6_readClause 179 = .ok (.aload_n 1, 1) := by decide +kernel
theorem dX6_readClause_180 : decode cX6_readClause 180 = .ok (.iload 5, 2) := by decide +kernel
theorem dX6_readClause_182 : decode cX6_readClause 182 = .ok (.iload 6, 2) := by decide +kernel
theorem dX6_readClause_184 : decode cX6_readClause 184 = .ok (.invokevirtual 44, 3) := by decide +kernel
theorem dX6_readClause_187 : decode cX6_readClause 187 = .ok (.goto 27, 3) := by decide +kernel
theorem dX6_readClause_190 : decode cX6_readClause 190 = .ok (.aload_n 0, 1) := by decide +kernel
theorem dX6_readClause_191 : decode cX6_readClause 191 = .ok (.getfield 18, 3) := by decide +kernel
theorem dX6_readClause_194 : decode cX6_readClause 194 = .ok (.aload_n 0, 1) := by decide +kernel
theorem dX6_readClause_195 : decode cX6_readClause 195 = .ok (.getfield 30, 3) := by decide +kernel
theorem dX6_readClause_198 : decode cX6_readClause 198 = .ok (.iconst 4, 1) := by decide +kernel
theorem dX6_readClause_199 : decode cX6_readClause 199 = .ok (.imul, 1) := by decide +kernel
theorem dX6_readClause_200 : decode cX6_readClause 200 = .ok (.aload_n 1, 1) := by decide +kernel
theorem dX6_readClause_201 : decode cX6_readClause 201 = .ok (.iload 5, 2) := by decide +kernel
theorem dX6_readClause_203 : decode cX6_readClause 203 = .ok (.iload 6, 2) := by decide +kernel
theorem dX6_readClause_205 : decode cX6_readClause 205 = .ok (.invokestatic 48, 3) := by decide +kernel
theorem dX6_readClause_208 : decode cX6_readClause 208 = .ok (.lastore, 1) := by decide +kernel
theorem dX6_readClause_209 : decode cX6_readClause 209 = .ok (.aload_n 0, 1) := by decide +kernel
theorem dX6_readClause_210 : decode cX6_readClause 210 = .ok (.iconst 1, 1) := by decide +kernel
theorem dX6_readClause_211 : decode cX6_readClause 211 = .ok (.invokevirtual 52, 3) := by decide +kernel
theorem dX6_readClause_214 : decode cX6_readClause 214 = .ok (.iload 8, 2) := by decide +kernel
theorem dX6_readClause_216 : decode cX6_readClause 216 = .ok (.ireturn, 1) := by decide +kernel
theorem dX6_readQuoted_0 : decode cX6_readQuoted 0 = .ok (.iconst 0, 1) := by decide +kernel
theorem dX6_readQuoted_1 : decode cX6_readQuoted 1 = .ok (.istore 4, 2) := by decide +kernel
theorem dX6_readQuoted_3 : decode cX6_readQuoted 3 = .ok (.iload_n 3, 1) := by decide +kernel
theorem dX6_readQuoted_4 : decode cX6_readQuoted 4 = .ok (.istore 5, 2) := by decide +kernel
theorem dX6_readQuoted_6 : decode cX6_readQuoted 6 = .ok (.iload 5, 2) := by decide +kernel
theorem dX6_readQuoted_8 : decode cX6_readQuoted 8 = .ok (.iload_n 2, 1) := by decide +kernel
theorem dX6_readQuoted_9 : decode cX6_readQuoted 9 = .ok (.if_icmp .ge 105, 3) := by decide +kernel
theorem dX6_readQuoted_12 : decode cX6_readQuoted 12 = .ok (.aload_n 1, 1) := by decide +kernel
theorem dX6_readQuoted_13 : decode cX6_readQuoted 13 = .ok (.iload 5, 2) := by decide +kernel
theorem dX6_readQuoted_15 : decode cX6_readQuoted 15 = .ok (.iaload, 1) := by decide +kernel
theorem dX6_readQuoted_16 : decode cX6_readQuoted 16 = .ok (.bipush 34, 2) := by decide +kernel
theorem dX6_readQuoted_18 : decode cX6_readQuoted 18 = .ok (.if_icmp .ne 14, 3) := by decide +kernel
theorem dX6_readQuoted_21 : decode cX6_readQuoted 21 = .ok (.aload_n 0, 1) := by decide +kernel
theorem dX6_readQuoted_22 : decode cX6_readQuoted 22 = .ok (.aload_n 1, 1) := by decide +kernel
theorem dX6_readQuoted_23 : decode cX6_readQuoted 23 = .ok (.iload_n 2, 1) := by decide +kernel
theorem dX6_readQuoted_24 : decode cX6_readQuoted 24 = .ok (.iload 5, 2) := by decide +kernel
theorem dX6_readQuoted_26 : decode cX6_readQuoted 26 = .ok (.iload 4, 2) := by decide +kernel
theorem dX6_readQuoted_28 : decode cX6_readQuoted 28 = .ok (.invokevirtual 56, 3) := by decide +kernel
theorem dX6_readQuoted_31 : decode cX6_readQuoted 31 = .ok (.ireturn, 1) := by decide +kernel
theorem dX6_readQuoted_32 : decode cX6_readQuoted 32 = .ok (.aload_n 1, 1) := by decide +kernel
theorem dX6_readQuoted_33 : decode cX6_readQuoted 33 = .ok (.iload 5, 2) := by decide +kernel
theorem dX6_readQuoted_35 : decode cX6_readQuoted 35 = .ok (.iaload, 1) := by decide +kernel
theorem dX6_readQuoted_36 : decode cX6_readQuoted 36 = .ok (.bipush 32, 2) := by decide +kernel
theorem dX6_readQuoted_38 : decode cX6_readQuoted 38 = .ok (.if_icmp .eq 19, 3) := by decide +kernel
theorem dX6_readQuoted_41 : decode cX6_readQuoted 41 = .ok (.aload_n 1, 1) := by decide +kernel
theorem dX6_readQuoted_42 : decode cX6_readQuoted 42 = .ok (.iload 5, 2) := by decide +kernel
theorem dX6_readQuoted_44 : decode cX6_readQuoted 44 = .ok (.iaload, 1) := by decide +kernel
theorem dX6_readQuoted_45 : decode cX6_readQuoted 45 = .ok (.invokestatic 37, 3) := by decide +kernel
theorem dX6_readQuoted_48 : decode cX6_readQuoted 48 = .ok (.ifCond .ne 9, 3) := by decide +kernel
theorem dX6_readQuoted_51 : decode cX6_readQuoted 51 = .ok (.iload 5, 2) := by decide +kernel
theorem dX6_readQuoted_53 : decode cX6_readQuoted 53 = .ok (.invokestatic 22, 3) := by decide +kernel
theorem dX6_readQuoted_56 : decode cX6_readQuoted 56 = .ok (.ireturn, 1) := by decide +kernel
theorem dX6_readQuoted_57 : decode cX6_readQuoted 57 = .ok (.aload_n 1, 1) := by decide +kernel
theorem dX6_readQuoted_58 : decode cX6_readQuoted 58 = .ok (.iload 5, 2) := by decide +kernel
theorem dX6_readQuoted_60 : decode cX6_readQuoted 60 = .ok (.invokestatic 60, 3) := by decide +kernel
theorem dX6_readQuoted_63 : decode cX6_readQuoted 63 = .ok (.ifCond .eq 45, 3) := by decide +kernel
theorem dX6_readQuoted_66 : decode cX6_readQuoted 66 = .ok (.iload 4, 2) := by decide +kernel
theorem dX6_readQuoted_68 : decode cX6_readQuoted 68 = .ok (.iconst 4, 1) := by decide +kernel
theorem dX6_readQuoted_69 : decode cX6_readQuoted 69 = .ok (.if_icmp .ne 9, 3) := by decide +kernel
theorem dX6_readQuoted_72 : decode cX6_readQuoted 72 = .ok (.iload 5, 2) := by decide +kernel
theorem dX6_readQuoted_74 : decode cX6_readQuoted 74 = .ok (.invokestatic 22, 3) := by decide +kernel
theorem dX6_readQuoted_77 : decode cX6_readQuoted 77 = .ok (.ireturn, 1) := by decide +kernel
theorem dX6_readQuoted_78 : decode cX6_readQuoted 78 = .ok (.aload_n 0, 1) := by decide +kernel
theorem dX6_readQuoted_79 : decode cX6_readQuoted 79 = .ok (.getfield 18, 3) := by decide +kernel
theorem dX6_readQuoted_82 : decode cX6_readQuoted 82 = .ok (.aload_n 0, 1) := by decide +kernel
theorem dX6_readQuoted_83 : decode cX6_readQuoted 83 = .ok (.getfield 30, 3) := by decide +kernel
theorem dX6_readQuoted_86 : decode cX6_readQuoted 86 = .ok (.iconst 4, 1) := by decide +kernel
theorem dX6_readQuoted_87 : decode cX6_readQuoted 87 = .ok (.imul, 1) := by decide +kernel
theorem dX6_readQuoted_88 : decode cX6_readQuoted 88 = .ok (.iload 4, 2) := by decide +kernel
theorem dX6_readQuoted_90 : decode cX6_readQuoted 90 = .ok (.iadd, 1) := by decide +kernel
theorem dX6_readQuoted_91 : decode cX6_readQuoted 91 = .ok (.aload_n 1, 1) := by decide +kernel
theorem dX6_readQuoted_92 : decode cX6_readQuoted 92 = .ok (.iload 5, 2) := by decide +kernel
theorem dX6_readQuoted_94 : decode cX6_readQuoted 94 = .ok (.aload_n 1, 1) := by decide +kernel
theorem dX6_readQuoted_95 : decode cX6_readQuoted 95 = .ok (.iload_n 2, 1) := by decide +kernel
theorem dX6_readQuoted_96 : decode cX6_readQuoted 96 = .ok (.iload 5, 2) := by decide +kernel
theorem dX6_readQuoted_98 : decode cX6_readQuoted 98 = .ok (.invokestatic 41, 3) := by decide +kernel
theorem dX6_readQuoted_101 : decode cX6_readQuoted 101 = .ok (.invokestatic 48, 3) := by decide +kernel
theorem dX6_readQuoted_104 : decode cX6_readQuoted 104 = .ok (.lastore, 1) := by decide +kernel
theorem dX6_readQuoted_105 : decode cX6_readQuoted 105 = .ok (.iinc 4 1, 3) := by decide +kernel
theorem dX6_readQuoted_108 : decode cX6_readQuoted 108 = .ok (.iinc 5 1, 3) := by decide +kernel
theorem dX6_readQuoted_111 : decode cX6_readQuoted 111 = .ok (.goto (-105), 3) := by decide +kernel
theorem dX6_readQuoted_114 : decode cX6_readQuoted 114 = .ok (.iload_n 2, 1) := by decide +kernel
theorem dX6_readQuoted_115 : decode cX6_readQuoted 115 = .ok (.invokestatic 22, 3) := by decide +kernel
theorem dX6_readQuoted_118 : decode cX6_readQuoted 118 = .ok (.ireturn, 1) := by decide +kernel
theorem dX6_endQuoted_0 : decode cX6_endQuoted 0 = .ok (.iload 4, 2) := by decide +kernel
theorem dX6_endQuoted_2 : decode cX6_endQuoted 2 = .ok (.ifCond .ne 8, 3) := by decide +kernel
theorem dX6_endQuoted_5 : decode cX6_endQuoted 5 = .ok (.iload_n 3, 1) := by decide +kernel
theorem dX6_endQuoted_6 : decode cX6_endQuoted 6 = .ok (.invokestatic 22, 3) := by decide +kernel
theorem dX6_endQuoted_9 : decode cX6_endQuoted 9 = .ok (.ireturn, 1) := by decide +kernel
theorem dX6_endQuoted_10 : decode cX6_endQuoted 10 = .ok (.iload_n 3, 1) := by decide +kernel
theorem dX6_endQuoted_11 : decode cX6_endQuoted 11 = .ok (.iconst 1, 1) := by decide +kernel
theorem dX6_endQuoted_12 : decode cX6_endQuoted 12 = .ok (.iadd, 1) := by decide +kernel
theorem dX6_endQuoted_13 : decode cX6_endQuoted 13 = .ok (.iload_n 2, 1) := by decide +kernel
theorem dX6_endQuoted_14 : decode cX6_endQuoted 14 = .ok (.if_icmp .ge 20, 3) := by decide +kernel
theorem dX6_endQuoted_17 : decode cX6_endQuoted 17 = .ok (.aload_n 1, 1) := by decide +kernel
theorem dX6_endQuoted_18 : decode cX6_endQuoted 18 = .ok (.iload_n 3, 1) := by decide +kernel
theorem dX6_endQuoted_19 : decode cX6_endQuoted 19 = .ok (.iconst 1, 1) := by decide +kernel
theorem dX6_endQuoted_20 : decode cX6_endQuoted 20 = .ok (.iadd, 1) := by decide +kernel
theorem dX6_endQuoted_21 : decode cX6_endQuoted 21 = .ok (.iaload, 1) := by decide +kernel
theorem dX6_endQuoted_22 : decode cX6_endQuoted 22 = .ok (.bipush 32, 2) := by decide +kernel
theorem dX6_endQuoted_24 : decode cX6_endQuoted 24 = .ok (.if_icmp .eq 10, 3) := by decide +kernel
theorem dX6_endQuoted_27 : decode cX6_endQuoted 27 = .ok (.iload_n 3, 1) := by decide +kernel
theorem dX6_endQuoted_28 : decode cX6_endQuoted 28 = .ok (.iconst 1, 1) := by decide +kernel
theorem dX6_endQuoted_29 : decode cX6_endQuoted 29 = .ok (.iadd, 1) := by decide +kernel
theorem dX6_endQuoted_30 : decode cX6_endQuoted 30 = .ok (.invokestatic 22, 3) := by decide +kernel
theorem dX6_endQuoted_33 : decode cX6_endQuoted 33 = .ok (.ireturn, 1) := by decide +kernel
theorem dX6_endQuoted_34 : decode cX6_endQuoted 34 = .ok (.aload_n 0, 1) := by decide +kernel
theorem dX6_endQuoted_35 : decode cX6_endQuoted 35 = .ok (.iload 4, 2) := by decide +kernel
theorem dX6_endQuoted_37 : decode cX6_endQuoted 37 = .ok (.invokevirtual 52, 3) := by decide +kernel
theorem dX6_endQuoted_40 : decode cX6_endQuoted 40 = .ok (.iload_n 3, 1) := by decide +kernel
theorem dX6_endQuoted_41 : decode cX6_endQuoted 41 = .ok (.iconst 1, 1) := by decide +kernel
theorem dX6_endQuoted_42 : decode cX6_endQuoted 42 = .ok (.iadd, 1) := by decide +kernel
theorem dX6_endQuoted_43 : decode cX6_endQuoted 43 = .ok (.ireturn, 1) := by decide +kernel
theorem dX6_keepStar_0 : decode cX6_keepStar 0 = .ok (.iload_n 3, 1) := by decide +kernel
theorem dX6_keepStar_1 : decode cX6_keepStar 1 = .ok (.iload_n 2, 1) := by decide +kernel
theorem dX6_keepStar_2 : decode cX6_keepStar 2 = .ok (.isub, 1) := by decide +kernel
theorem dX6_keepStar_3 : decode cX6_keepStar 3 = .ok (.bipush 12, 2) := by decide +kernel
theorem dX6_keepStar_5 : decode cX6_keepStar 5 = .ok (.invokestatic 64, 3) := by decide +kernel
theorem dX6_keepStar_8 : decode cX6_keepStar 8 = .ok (.istore 4, 2) := by decide +kernel
theorem dX6_keepStar_10 : decode cX6_keepStar 10 = .ok (.lconst 1, 1) := by decide +kernel
theorem dX6_keepStar_11 : decode cX6_keepStar 11 = .ok (.lstore 5, 2) := by decide +kernel
theorem dX6_keepStar_13 : decode cX6_keepStar 13 = .ok (.iload 4, 2) := by decide +kernel
theorem dX6_keepStar_15 : decode cX6_keepStar 15 = .ok (.istore 7, 2) := by decide +kernel
theorem dX6_keepStar_17 : decode cX6_keepStar 17 = .ok (.iload 7, 2) := by decide +kernel
theorem dX6_keepStar_19 : decode cX6_keepStar 19 = .ok (.bipush 12, 2) := by decide +kernel
theorem dX6_keepStar_21 : decode cX6_keepStar 21 = .ok (.if_icmp .ge 17, 3) := by decide +kernel
theorem dX6_keepStar_24 : decode cX6_keepStar 24 = .ok (.lload 5, 2) := by decide +kernel
theorem dX6_keepStar_26 : decode cX6_keepStar 26 = .ok (.ldc2_w 70, 3) := by decide +kernel
theorem dX6_keepStar_29 : decode cX6_keepStar 29 = .ok (.lmul, 1) := by decide +kernel
theorem dX6_keepStar_30 : decode cX6_keepStar 30 = .ok (.lstore 5, 2) := by decide +kernel
theorem dX6_keepStar_32 : decode cX6_keepStar 32 = .ok (.iinc 7 1, 3) := by decide +kernel
theorem dX6_keepStar_35 : decode cX6_keepStar 35 = .ok (.goto (-18), 3) := by decide +kernel
theorem dX6_keepStar_38 : decode cX6_keepStar 38 = .ok (.aload_n 1, 1) := by decide +kernel
theorem dX6_keepStar_39 : decode cX6_keepStar 39 = .ok (.iload_n 2, 1) := by decide +kernel
theorem dX6_keepStar_40 : decode cX6_keepStar 40 = .ok (.iload 4, 2) := by decide +kernel
theorem dX6_keepStar_42 : decode cX6_keepStar 42 = .ok (.iconst 0, 1) := by decide +kernel
theorem dX6_keepStar_43 : decode cX6_keepStar 43 = .ok (.invokestatic 72, 3) := by decide +kernel
theorem dX6_keepStar_46 : decode cX6_keepStar 46 = .ok (.lstore 7, 2) := by decide +kernel
theorem dX6_keepStar_48 : decode cX6_keepStar 48 = .ok (.aload_n 0, 1) := by decide +kernel
theorem dX6_keepStar_49 : decode cX6_keepStar 49 = .ok (.getfield 18, 3) := by decide +kernel
theorem dX6_keepStar_52 : decode cX6_keepStar 52 = .ok (.aload_n 0, 1) := by decide +kernel
theorem dX6_keepStar_53 : decode cX6_keepStar 53 = .ok (.getfield 30, 3) := by decide +kernel
theorem dX6_keepStar_56 : decode cX6_keepStar 56 = .ok (.iconst 4, 1) := by decide +kernel
theorem dX6_keepStar_57 : decode cX6_keepStar 57 = .ok (.imul, 1) := by decide +kernel
theorem dX6_keepStar_58 : decode cX6_keepStar 58 = .ok (.lload 7, 2) := by decide +kernel
theorem dX6_keepStar_60 : decode cX6_keepStar 60 = .ok (.lastore, 1) := by decide +kernel
theorem dX6_keepStar_61 : decode cX6_keepStar 61 = .ok (.aload_n 0, 1) := by decide +kernel
theorem dX6_keepStar_62 : decode cX6_keepStar 62 = .ok (.getfield 18, 3) := by decide +kernel
theorem dX6_keepStar_65 : decode cX6_keepStar 65 = .ok (.aload_n 0, 1) := by decide +kernel
theorem dX6_keepStar_66 : decode cX6_keepStar 66 = .ok (.getfield 30, 3) := by decide +kernel
theorem dX6_keepStar_69 : decode cX6_keepStar 69 = .ok (.iconst 4, 1) := by decide +kernel
theorem dX6_keepStar_70 : decode cX6_keepStar 70 = .ok (.imul, 1) := by decide +kernel
theorem dX6_keepStar_71 : decode cX6_keepStar 71 = .ok (.iconst 1, 1) := by decide +kernel
theorem dX6_keepStar_72 : decode cX6_keepStar 72 = .ok (.iadd, 1) := by decide +kernel
theorem dX6_keepStar_73 : decode cX6_keepStar 73 = .ok (.lload 7, 2) := by decide +kernel
theorem dX6_keepStar_75 : decode cX6_keepStar 75 = .ok (.lload 5, 2) := by decide +kernel
theorem dX6_keepStar_77 : decode cX6_keepStar 77 = .ok (.ladd, 1) := by decide +kernel
theorem dX6_keepStar_78 : decode cX6_keepStar 78 = .ok (.lastore, 1) := by decide +kernel
theorem dX6_keepStar_79 : decode cX6_keepStar 79 = .ok (.aload_n 0, 1) := by decide +kernel
theorem dX6_keepStar_80 : decode cX6_keepStar 80 = .ok (.getfield 15, 3) := by decide +kernel
theorem dX6_keepStar_83 : decode cX6_keepStar 83 = .ok (.aload_n 0, 1) := by decide +kernel
theorem dX6_keepStar_84 : decode cX6_keepStar 84 = .ok (.getfield 30, 3) := by decide +kernel
theorem dX6_keepStar_87 : decode cX6_keepStar 87 = .ok (.iconst 0, 1) := by decide +kernel
theorem dX6_keepStar_88 : decode cX6_keepStar 88 = .ok (.iastore, 1) := by decide +kernel
theorem dX6_keepStar_89 : decode cX6_keepStar 89 = .ok (.aload_n 0, 1) := by decide +kernel
theorem dX6_keepStar_90 : decode cX6_keepStar 90 = .ok (.dup, 1) := by decide +kernel
theorem dX6_keepStar_91 : decode cX6_keepStar 91 = .ok (.getfield 30, 3) := by decide +kernel
theorem dX6_keepStar_94 : decode cX6_keepStar 94 = .ok (.iconst 1, 1) := by decide +kernel
theorem dX6_keepStar_95 : decode cX6_keepStar 95 = .ok (.iadd, 1) := by decide +kernel
theorem dX6_keepStar_96 : decode cX6_keepStar 96 = .ok (.putfield 30, 3) := by decide +kernel
theorem dX6_keepStar_99 : decode cX6_keepStar 99 = .ok (.return_, 1) := by decide +kernel
theorem dX6_keepWords_0 : decode cX6_keepWords 0 = .ok (.aload_n 0, 1) := by decide +kernel
theorem dX6_keepWords_1 : decode cX6_keepWords 1 = .ok (.getfield 15, 3) := by decide +kernel
theorem dX6_keepWords_4 : decode cX6_keepWords 4 = .ok (.aload_n 0, 1) := by decide +kernel
theorem dX6_keepWords_5 : decode cX6_keepWords 5 = .ok (.getfield 30, 3) := by decide +kernel
theorem dX6_keepWords_8 : decode cX6_keepWords 8 = .ok (.iload_n 1, 1) := by decide +kernel
theorem dX6_keepWords_9 : decode cX6_keepWords 9 = .ok (.iastore, 1) := by decide +kernel
theorem dX6_keepWords_10 : decode cX6_keepWords 10 = .ok (.aload_n 0, 1) := by decide +kernel
theorem dX6_keepWords_11 : decode cX6_keepWords 11 = .ok (.aload_n 0, 1) := by decide +kernel
theorem dX6_keepWords_12 : decode cX6_keepWords 12 = .ok (.getfield 30, 3) := by decide +kernel
theorem dX6_keepWords_15 : decode cX6_keepWords 15 = .ok (.invokevirtual 76, 3) := by decide +kernel
theorem dX6_keepWords_18 : decode cX6_keepWords 18 = .ok (.ifCond .le 13, 3) := by decide +kernel
theorem dX6_keepWords_21 : decode cX6_keepWords 21 = .ok (.aload_n 0, 1) := by decide +kernel
theorem dX6_keepWords_22 : decode cX6_keepWords 22 = .ok (.dup, 1) := by decide +kernel
theorem dX6_keepWords_23 : decode cX6_keepWords 23 = .ok (.getfield 30, 3) := by decide +kernel
theorem dX6_keepWords_26 : decode cX6_keepWords 26 = .ok (.iconst 1, 1) := by decide +kernel
theorem dX6_keepWords_27 : decode cX6_keepWords 27 = .ok (.iadd, 1) := by decide +kernel
theorem dX6_keepWords_28 : decode cX6_keepWords 28 = .ok (.putfield 30, 3) := by decide +kernel
theorem dX6_keepWords_31 : decode cX6_keepWords 31 = .ok (.return_, 1) := by decide +kernel
theorem dX6_wordsIn_0 : decode cX6_wordsIn 0 = .ok (.iconst 0, 1) := by decide +kernel
theorem dX6_wordsIn_1 : decode cX6_wordsIn 1 = .ok (.istore_n 2, 1) := by decide +kernel
theorem dX6_wordsIn_2 : decode cX6_wordsIn 2 = .ok (.iconst 0, 1) := by decide +kernel
theorem dX6_wordsIn_3 : decode cX6_wordsIn 3 = .ok (.istore_n 3, 1) := by decide +kernel
theorem dX6_wordsIn_4 : decode cX6_wordsIn 4 = .ok (.iload_n 3, 1) := by decide +kernel
theorem dX6_wordsIn_5 : decode cX6_wordsIn 5 = .ok (.aload_n 0, 1) := by decide +kernel
theorem dX6_wordsIn_6 : decode cX6_wordsIn 6 = .ok (.getfield 15, 3) := by decide +kernel
theorem dX6_wordsIn_9 : decode cX6_wordsIn 9 = .ok (.iload_n 1, 1) := by decide +kernel
theorem dX6_wordsIn_10 : decode cX6_wordsIn 10 = .ok (.iaload, 1) := by decide +kernel
theorem dX6_wordsIn_11 : decode cX6_wordsIn 11 = .ok (.if_icmp .ge 27, 3) := by decide +kernel
theorem dX6_wordsIn_14 : decode cX6_wordsIn 14 = .ok (.aload_n 0, 1) := by decide +kernel
theorem dX6_wordsIn_15 : decode cX6_wordsIn 15 = .ok (.getfield 18, 3) := by decide +kernel
theorem dX6_wordsIn_18 : decode cX6_wordsIn 18 = .ok (.iload_n 1, 1) := by decide +kernel
theorem dX6_wordsIn_19 : decode cX6_wordsIn 19 = .ok (.iconst 4, 1) := by decide +kernel
theorem dX6_wordsIn_20 : decode cX6_wordsIn 20 = .ok (.imul, 1) := by decide +kernel
theorem dX6_wordsIn_21 : decode cX6_wordsIn 21 = .ok (.iload_n 3, 1) := by decide +kernel
theorem dX6_wordsIn_22 : decode cX6_wordsIn 22 = .ok (.iadd, 1) := by decide +kernel
theorem dX6_wordsIn_23 : decode cX6_wordsIn 23 = .ok (.laload, 1) := by decide +kernel
theorem dX6_wordsIn_24 : decode cX6_wordsIn 24 = .ok (.lconst 0, 1) := by decide +kernel
theorem dX6_wordsIn_25 : decode cX6_wordsIn 25 = .ok (.lcmp, 1) := by decide +kernel
theorem dX6_wordsIn_26 : decode cX6_wordsIn 26 = .ok (.ifCond .eq 6, 3) := by decide +kernel
theorem dX6_wordsIn_29 : decode cX6_wordsIn 29 = .ok (.iinc 2 1, 3) := by decide +kernel
theorem dX6_wordsIn_32 : decode cX6_wordsIn 32 = .ok (.iinc 3 1, 3) := by decide +kernel
theorem dX6_wordsIn_35 : decode cX6_wordsIn 35 = .ok (.goto (-31), 3) := by decide +kernel
theorem dX6_wordsIn_38 : decode cX6_wordsIn 38 = .ok (.iload_n 2, 1) := by decide +kernel
theorem dX6_wordsIn_39 : decode cX6_wordsIn 39 = .ok (.ireturn, 1) := by decide +kernel
theorem dX6_tally_0 : decode cX6_tally 0 = .ok (.iconst 0, 1) := by decide +kernel
theorem dX6_tally_1 : decode cX6_tally 1 = .ok (.istore 4, 2) := by decide +kernel
theorem dX6_tally_3 : decode cX6_tally 3 = .ok (.iload 4, 2) := by decide +kernel
theorem dX6_tally_5 : decode cX6_tally 5 = .ok (.bipush 100, 2) := by decide +kernel
theorem dX6_tally_7 : decode cX6_tally 7 = .ok (.if_icmp .ge 54, 3) := by decide +kernel
theorem dX6_tally_10 : decode cX6_tally 10 = .ok (.aload_n 1, 1) := by decide +kernel
theorem dX6_tally_11 : decode cX6_tally 11 = .ok (.aload_n 2, 1) := by decide +kernel
theorem dX6_tally_12 : decode cX6_tally 12 = .ok (.iconst 4, 1) := by decide +kernel
theorem dX6_tally_13 : decode cX6_tally 13 = .ok (.iload 4, 2) := by decide +kernel
theorem dX6_tally_15 : decode cX6_tally 15 = .ok (.iadd, 1) := by decide +kernel
theorem dX6_tally_16 : decode cX6_tally 16 = .ok (.iaload, 1) := by decide +kernel
theorem dX6_tally_17 : decode cX6_tally 17 = .ok (.invokevirtual 79, 3) := by decide +kernel
theorem dX6_tally_20 : decode cX6_tally 20 = .ok (.astore 5, 2) := by decide +kernel
theorem dX6_tally_22 : decode cX6_tally 22 = .ok (.aload 5, 2) := by decide +kernel
theorem dX6_tally_24 : decode cX6_tally 24 = .ok (.ifnull 31, 3) := by decide +kernel
theorem dX6_tally_27 : decode cX6_tally 27 = .ok (.aload_n 3, 1) := by decide +kernel
theorem dX6_tally_28 : decode cX6_tally 28 = .ok (.iconst 4, 1) := by decide +kernel
theorem dX6_tally_29 : decode cX6_tally 29 = .ok (.dup2, 1) := by decide +kernel
theorem dX6_tally_30 : decode cX6_tally 30 = .ok (.iaload, 1) := by decide +kernel
theorem dX6_tally_31 : decode cX6_tally 31 = .ok (.iconst 1, 1) := by decide +kernel
theorem dX6_tally_32 : decode cX6_tally 32 = .ok (.iadd, 1) := by decide +kernel
theorem dX6_tally_33 : decode cX6_tally 33 = .ok (.iastore, 1) := by decide +kernel
theorem dX6_tally_34 : decode cX6_tally 34 = .ok (.aload_n 3, 1) := by decide +kernel
theorem dX6_tally_35 : decode cX6_tally 35 = .ok (.iconst 5, 1) := by decide +kernel
theorem dX6_tally_36 : decode cX6_tally 36 = .ok (.dup2, 1) := by decide +kernel
theorem dX6_tally_37 : decode cX6_tally 37 = .ok (.iaload, 1) := by decide +kernel
theorem dX6_tally_38 : decode cX6_tally 38 = .ok (.aload 5, 2) := by decide +kernel
theorem dX6_tally_40 : decode cX6_tally 40 = .ok (.getfield 85, 3) := by decide +kernel
theorem dX6_tally_43 : decode cX6_tally 43 = .ok (.iadd, 1) := by decide +kernel
theorem dX6_tally_44 : decode cX6_tally 44 = .ok (.iastore, 1) := by decide +kernel
theorem dX6_tally_45 : decode cX6_tally 45 = .ok (.aload_n 0, 1) := by decide +kernel
theorem dX6_tally_46 : decode cX6_tally 46 = .ok (.aload 5, 2) := by decide +kernel
theorem dX6_tally_48 : decode cX6_tally 48 = .ok (.getfield 90, 3) := by decide +kernel
theorem dX6_tally_51 : decode cX6_tally 51 = .ok (.aload_n 3, 1) := by decide +kernel
theorem dX6_tally_52 : decode cX6_tally 52 = .ok (.invokevirtual 92, 3) := by decide +kernel
theorem dX6_tally_55 : decode cX6_tally 55 = .ok (.iinc 4 1, 3) := by decide +kernel
theorem dX6_tally_58 : decode cX6_tally 58 = .ok (.goto (-55), 3) := by decide +kernel
theorem dX6_tally_61 : decode cX6_tally 61 = .ok (.return_, 1) := by decide +kernel
theorem dX6_tallyWords_0 : decode cX6_tallyWords 0 = .ok (.bipush 6, 2) := by decide +kernel
theorem dX6_tallyWords_2 : decode cX6_tallyWords 2 = .ok (.istore_n 3, 1) := by decide +kernel
theorem dX6_tallyWords_3 : decode cX6_tallyWords 3 = .ok (.iconst 0, 1) := by decide +kernel
theorem dX6_tallyWords_4 : decode cX6_tallyWords 4 = .ok (.istore 4, 2) := by decide +kernel
theorem dX6_tallyWords_6 : decode cX6_tallyWords 6 = .ok (.iload 4, 2) := by decide +kernel
theorem dX6_tallyWords_8 : decode cX6_tallyWords 8 = .ok (.aload_n 0, 1) := by decide +kernel
theorem dX6_tallyWords_9 : decode cX6_tallyWords 9 = .ok (.getfield 30, 3) := by decide +kernel
theorem dX6_tallyWords_12 : decode cX6_tallyWords 12 = .ok (.if_icmp .ge 84, 3) := by decide +kernel
theorem dX6_tallyWords_15 : decode cX6_tallyWords 15 = .ok (.iconst 0, 1) := by decide +kernel
theorem dX6_tallyWords_16 : decode cX6_tallyWords 16 = .ok (.istore 5, 2) := by decide +kernel
theorem dX6_tallyWords_18 : decode cX6_tallyWords 18 = .ok (.iload 5, 2) := by decide +kernel
theorem dX6_tallyWords_20 : decode cX6_tallyWords 20 = .ok (.aload_n 0, 1) := by decide +kernel
theorem dX6_tallyWords_21 : decode cX6_tallyWords 21 = .ok (.getfield 15, 3) := by decide +kernel
theorem dX6_tallyWords_24 : decode cX6_tallyWords 24 = .ok (.iload 4, 2) := by decide +kernel
theorem dX6_tallyWords_26 : decode cX6_tallyWords 26 = .ok (.iaload, 1) := by decide +kernel
theorem dX6_tallyWords_27 : decode cX6_tallyWords 27 = .ok (.if_icmp .ge 63, 3) := by decide +kernel
theorem dX6_tallyWords_30 : decode cX6_tallyWords 30 = .ok (.aload_n 0, 1) := by decide +kernel
theorem dX6_tallyWords_31 : decode cX6_tallyWords 31 = .ok (.getfield 18, 3) := by decide +kernel
theorem dX6_tallyWords_34 : decode cX6_tallyWords 34 = .ok (.iload 4, 2) := by decide +kernel
theorem dX6_tallyWords_36 : decode cX6_tallyWords 36 = .ok (.iconst 4, 1) := by decide +kernel
theorem dX6_tallyWords_37 : decode cX6_tallyWords 37 = .ok (.imul, 1) := by decide +kernel
theorem dX6_tallyWords_38 : decode cX6_tallyWords 38 = .ok (.iload 5, 2) := by decide +kernel
theorem dX6_tallyWords_40 : decode cX6_tallyWords 40 = .ok (.iadd, 1) := by decide +kernel
theorem dX6_tallyWords_41 : decode cX6_tallyWords 41 = .ok (.laload, 1) := by decide +kernel
theorem dX6_tallyWords_42 : decode cX6_tallyWords 42 = .ok (.lstore 6, 2) := by decide +kernel
theorem dX6_tallyWords_44 : decode cX6_tallyWords 44 = .ok (.lload 6, 2) := by decide +kernel
theorem dX6_tallyWords_46 : decode cX6_tallyWords 46 = .ok (.lconst 0, 1) := by decide +kernel
theorem dX6_tallyWords_47 : decode cX6_tallyWords 47 = .ok (.lcmp, 1) := by decide +kernel
theorem dX6_tallyWords_48 : decode cX6_tallyWords 48 = .ok (.ifCond .eq 36, 3) := by decide +kernel
theorem dX6_tallyWords_51 : decode cX6_tallyWords 51 = .ok (.iload_n 3, 1) := by decide +kernel
theorem dX6_tallyWords_52 : decode cX6_tallyWords 52 = .ok (.bipush 30, 2) := by decide +kernel
theorem dX6_tallyWords_54 : decode cX6_tallyWords 54 = .ok (.if_icmp .ge 30, 3) := by decide +kernel
theorem dX6_tallyWords_57 : decode cX6_tallyWords 57 = .ok (.aload_n 2, 1) := by decide +kernel
theorem dX6_tallyWords_58 : decode cX6_tallyWords 58 = .ok (.iload_n 3, 1) := by decide +kernel
theorem dX6_tallyWords_59 : decode cX6_tallyWords 59 = .ok (.dup2, 1) := by decide +kernel
theorem dX6_tallyWords_60 : decode cX6_tallyWords 60 = .ok (.iaload, 1) := by decide +kernel
theorem dX6_tallyWords_61 : decode cX6_tallyWords 61 = .ok (.aload_n 1, 1) := by decide +kernel
theorem dX6_tallyWords_62 : decode cX6_tallyWords 62 = .ok (.lload 6, 2) := by decide +kernel
theorem dX6_tallyWords_64 : decode cX6_tallyWords 64 = .ok (.lload 6, 2) := by decide +kernel
theorem dX6_tallyWords_66 : decode cX6_tallyWords 66 = .ok (.lconst 1, 1) := by decide +kernel
theorem dX6_tallyWords_67 : decode cX6_tallyWords 67 = .ok (.ladd, 1) := by decide +kernel
theorem dX6_tallyWords_68 : decode cX6_tallyWords 68 = .ok (.invokestatic 96, 3) := by decide +kernel
theorem dX6_tallyWords_71 : decode cX6_tallyWords 71 = .ok (.ifCond .eq 7, 3) := by decide +kernel
theorem dX6_tallyWords_74 : decode cX6_tallyWords 74 = .ok (.iconst 1, 1) := by decide +kernel
theorem dX6_tallyWords_75 : decode cX6_tallyWords 75 = .ok (.goto 4, 3) := by decide +kernel
theorem dX6_tallyWords_78 : decode cX6_tallyWords 78 = .ok (.iconst 0, 1) := by decide +kernel
theorem dX6_tallyWords_79 : decode cX6_tallyWords 79 = .ok (.iadd, 1) := by decide +kernel
theorem dX6_tallyWords_80 : decode cX6_tallyWords 80 = .ok (.iastore, 1) := by decide +kernel
theorem dX6_tallyWords_81 : decode cX6_tallyWords 81 = .ok (.iinc 3 1, 3) := by decide +kernel
theorem dX6_tallyWords_84 : decode cX6_tallyWords 84 = .ok (.iinc 5 1, 3) := by decide +kernel
theorem dX6_tallyWords_87 : decode cX6_tallyWords 87 = .ok (.goto (-69), 3) := by decide +kernel
theorem dX6_tallyWords_90 : decode cX6_tallyWords 90 = .ok (.iinc 4 1, 3) := by decide +kernel
theorem dX6_tallyWords_93 : decode cX6_tallyWords 93 = .ok (.goto (-87), 3) := by decide +kernel
theorem dX6_tallyWords_96 : decode cX6_tallyWords 96 = .ok (.return_, 1) := by decide +kernel
theorem dX6_hasBetween_0 : decode cX6_hasBetween 0 = .ok (.iconst 0, 1) := by decide +kernel
theorem dX6_hasBetween_1 : decode cX6_hasBetween 1 = .ok (.istore 5, 2) := by decide +kernel
theorem dX6_hasBetween_3 : decode cX6_hasBetween 3 = .ok (.iload 5, 2) := by decide +kernel
theorem dX6_hasBetween_5 : decode cX6_hasBetween 5 = .ok (.aload_n 0, 1) := by decide +kernel
theorem dX6_hasBetween_6 : decode cX6_hasBetween 6 = .ok (.arraylength, 1) := by decide +kernel
theorem dX6_hasBetween_7 : decode cX6_hasBetween 7 = .ok (.if_icmp .ge 29, 3) := by decide +kernel
theorem dX6_hasBetween_10 : decode cX6_hasBetween 10 = .ok (.aload_n 0, 1) := by decide +kernel
theorem dX6_hasBetween_11 : decode cX6_hasBetween 11 = .ok (.iload 5, 2) := by decide +kernel
theorem dX6_hasBetween_13 : decode cX6_hasBetween 13 = .ok (.laload, 1) := by decide +kernel
theorem dX6_hasBetween_14 : decode cX6_hasBetween 14 = .ok (.lload_n 1, 1) := by decide +kernel
theorem dX6_hasBetween_15 : decode cX6_hasBetween 15 = .ok (.lcmp, 1) := by decide +kernel
theorem dX6_hasBetween_16 : decode cX6_hasBetween 16 = .ok (.ifCond .lt 14, 3) := by decide +kernel
theorem dX6_hasBetween_19 : decode cX6_hasBetween 19 = .ok (.aload_n 0, 1) := by decide +kernel
theorem dX6_hasBetween_20 : decode cX6_hasBetween 20 = .ok (.iload 5, 2) := by decide +kernel
theorem dX6_hasBetween_22 : decode cX6_hasBetween 22 = .ok (.laload, 1) := by decide +kernel
theorem dX6_hasBetween_23 : decode cX6_hasBetween 23 = .ok (.lload_n 3, 1) := by decide +kernel
theorem dX6_hasBetween_24 : decode cX6_hasBetween 24 = .ok (.lcmp, 1) := by decide +kernel
theorem dX6_hasBetween_25 : decode cX6_hasBetween 25 = .ok (.ifCond .ge 5, 3) := by decide +kernel
theorem dX6_hasBetween_28 : decode cX6_hasBetween 28 = .ok (.iconst 1, 1) := by decide +kernel
theorem dX6_hasBetween_29 : decode cX6_hasBetween 29 = .ok (.ireturn, 1) := by decide +kernel
theorem dX6_hasBetween_30 : decode cX6_hasBetween 30 = .ok (.iinc 5 1, 3) := by decide +kernel
theorem dX6_hasBetween_33 : decode cX6_hasBetween 33 = .ok (.goto (-30), 3) := by decide +kernel
theorem dX6_hasBetween_36 : decode cX6_hasBetween 36 = .ok (.iconst 0, 1) := by decide +kernel
theorem dX6_hasBetween_37 : decode cX6_hasBetween 37 = .ok (.ireturn, 1) := by decide +kernel
theorem dX6_scoreOf_0 : decode cX6_scoreOf 0 = .ok (.lconst 0, 1) := by decide +kernel
theorem dX6_scoreOf_1 : decode cX6_scoreOf 1 = .ok (.lstore_n 3, 1) := by decide +kernel
theorem dX6_scoreOf_2 : decode cX6_scoreOf 2 = .ok (.iconst 0, 1) := by decide +kernel
theorem dX6_scoreOf_3 : decode cX6_scoreOf 3 = .ok (.istore 5, 2) := by decide +kernel
theorem dX6_scoreOf_5 : decode cX6_scoreOf 5 = .ok (.bipush 6, 2) := by decide +kernel
theorem dX6_scoreOf_7 : decode cX6_scoreOf 7 = .ok (.istore 6, 2) := by decide +kernel
theorem dX6_scoreOf_9 : decode cX6_scoreOf 9 = .ok (.iconst 0, 1) := by decide +kernel
theorem dX6_scoreOf_10 : decode cX6_scoreOf 10 = .ok (.istore 7, 2) := by decide +kernel
theorem dX6_scoreOf_12 : decode cX6_scoreOf 12 = .ok (.iload 7, 2) := by decide +kernel
theorem dX6_scoreOf_14 : decode cX6_scoreOf 14 = .ok (.aload_n 0, 1) := by decide +kernel
theorem dX6_scoreOf_15 : decode cX6_scoreOf 15 = .ok (.getfield 30, 3) := by decide +kernel
theorem dX6_scoreOf_18 : decode cX6_scoreOf 18 = .ok (.if_icmp .ge 114, 3) := by decide +kernel
theorem dX6_scoreOf_21 : decode cX6_scoreOf 21 = .ok (.aload_n 0, 1) := by decide +kernel
theorem dX6_scoreOf_22 : decode cX6_scoreOf 22 = .ok (.iload 7, 2) := by decide +kernel
theorem dX6_scoreOf_24 : decode cX6_scoreOf 24 = .ok (.aload_n 1, 1) := by decide +kernel
theorem dX6_scoreOf_25 : decode cX6_scoreOf 25 = .ok (.getfield 90, 3) := by decide +kernel
theorem dX6_scoreOf_28 : decode cX6_scoreOf 28 = .ok (.invokevirtual 100, 3) := by decide +kernel
theorem dX6_scoreOf_31 : decode cX6_scoreOf 31 = .ok (.istore 8, 2) := by decide +kernel
theorem dX6_scoreOf_33 : decode cX6_scoreOf 33 = .ok (.aload_n 0, 1) := by decide +kernel
theorem dX6_scoreOf_34 : decode cX6_scoreOf 34 = .ok (.getfield 9, 3) := by decide +kernel
theorem dX6_scoreOf_37 : decode cX6_scoreOf 37 = .ok (.iload 7, 2) := by decide +kernel
theorem dX6_scoreOf_39 : decode cX6_scoreOf 39 = .ok (.iaload, 1) := by decide +kernel
theorem dX6_scoreOf_40 : decode cX6_scoreOf 40 = .ok (.bipush 45, 2) := by decide +kernel
theorem dX6_scoreOf_42 : decode cX6_scoreOf 42 = .ok (.if_icmp .ne 8, 3) := by decide +kernel
theorem dX6_scoreOf_45 : decode cX6_scoreOf 45 = .ok (.iload 8, 2) := by decide +kernel
theorem dX6_scoreOf_47 : decode cX6_scoreOf 47 = .ok (.ifCond .gt 20, 3) := by decide +kernel
theorem dX6_scoreOf_50 : decode cX6_scoreOf 50 = .ok (.aload_n 0, 1) := by decide +kernel
theorem dX6_scoreOf_51 : decode cX6_scoreOf 51 = .ok (.getfield 9, 3) := by decide +kernel
theorem dX6_scoreOf_54 : decode cX6_scoreOf 54 = .ok (.iload 7, 2) := by decide +kernel
theorem dX6_scoreOf_56 : decode cX6_scoreOf 56 = .ok (.iaload, 1) := by decide +kernel
theorem dX6_scoreOf_57 : decode cX6_scoreOf 57 = .ok (.bipush 43, 2) := by decide +kernel
theorem dX6_scoreOf_59 : decode cX6_scoreOf 59 = .ok (.if_icmp .ne 10, 3) := by decide +kernel
theorem dX6_scoreOf_62 : decode cX6_scoreOf 62 = .ok (.iload 8, 2) := by decide +kernel
theorem dX6_scoreOf_64 : decode cX6_scoreOf 64 = .ok (.ifCond .ne 5, 3) := by decide +kernel
theorem dX6_scoreOf_67 : decode cX6_scoreOf 67 = .ok (.iconst (-1), 1) := by decide +kernel
theorem dX6_scoreOf_68 : decode cX6_scoreOf 68 = .ok (.ireturn, 1) := by decide +kernel
theorem dX6_scoreOf_69 : decode cX6_scoreOf 69 = .ok (.aload_n 0, 1) := by decide +kernel
theorem dX6_scoreOf_70 : decode cX6_scoreOf 70 = .ok (.iload 7, 2) := by decide +kernel
theorem dX6_scoreOf_72 : decode cX6_scoreOf 72 = .ok (.invokevirtual 76, 3) := by decide +kernel
theorem dX6_scoreOf_75 : decode cX6_scoreOf 75 = .ok (.istore 9, 2) := by decide +kernel
theorem dX6_scoreOf_77 : decode cX6_scoreOf 77 = .ok (.iload 8, 2) := by decide +kernel
theorem dX6_scoreOf_79 : decode cX6_scoreOf 79 = .ok (.ifCond .le 40, 3) := by decide +kernel
theorem dX6_scoreOf_82 : decode cX6_scoreOf 82 = .ok (.iconst 1, 1) := by decide +kernel
theorem dX6_scoreOf_83 : decode cX6_scoreOf 83 = .ok (.istore 5, 2) := by decide +kernel
theorem dX6_scoreOf_85 : decode cX6_scoreOf 85 = .ok (.lload_n 3, 1) := by decide +kernel
theorem dX6_scoreOf_86 : decode cX6_scoreOf 86 = .ok (.iload 9, 2) := by decide +kernel
theorem dX6_scoreOf_88 : decode cX6_scoreOf 88 = .ok (.ifCond .ne 9, 3) := by decide +kernel
theorem dX6_scoreOf_91 : decode cX6_scoreOf 91 = .ok (.ldc2_w 104, 3) := by decide +kernel
theorem dX6_scoreOf_94 : decode cX6_scoreOf 94 = .ok (.goto 23, 3) := by decide +kernel
theorem dX6_scoreOf_97 : decode cX6_scoreOf 97 = .ok (.aload_n 2, 1) := by decide +kernel
theorem dX6_scoreOf_98 : decode cX6_scoreOf 98 = .ok (.iload 6, 2) := by decide +kernel
theorem dX6_scoreOf_100 : decode cX6_scoreOf 100 = .ok (.iload 9, 2) := by decide +kernel
theorem dX6_scoreOf_102 : decode cX6_scoreOf 102 = .ok (.invokestatic 106, 3) := by decide +kernel
theorem dX6_scoreOf_105 : decode cX6_scoreOf 105 = .ok (.iload 8, 2) := by decide +kernel
theorem dX6_scoreOf_107 : decode cX6_scoreOf 107 = .ok (.i2l, 1) := by decide +kernel
theorem dX6_scoreOf_108 : decode cX6_scoreOf 108 = .ok (.aload_n 1, 1) := by decide +kernel
theorem dX6_scoreOf_109 : decode cX6_scoreOf 109 = .ok (.getfield 85, 3) := by decide +kernel
theorem dX6_scoreOf_112 : decode cX6_scoreOf 112 = .ok (.i2l, 1) := by decide +kernel
theorem dX6_scoreOf_113 : decode cX6_scoreOf 113 = .ok (.aload_n 2, 1) := by decide +kernel
theorem dX6_scoreOf_114 : decode cX6_scoreOf 114 = .ok (.invokestatic 109, 3) := by decide +kernel
theorem dX6_scoreOf_117 : decode cX6_scoreOf 117 = .ok (.ladd, 1) := by decide +kernel
theorem dX6_scoreOf_118 : decode cX6_scoreOf 118 = .ok (.lstore_n 3, 1) := by decide +kernel
theorem dX6_scoreOf_119 : decode cX6_scoreOf 119 = .ok (.iload 6, 2) := by decide +kernel
theorem dX6_scoreOf_121 : decode cX6_scoreOf 121 = .ok (.iload 9, 2) := by decide +kernel
theorem dX6_scoreOf_123 : decode cX6_scoreOf 123 = .ok (.iadd, 1) := by decide +kernel
theorem dX6_scoreOf_124 : decode cX6_scoreOf 124 = .ok (.istore 6, 2) := by decide +kernel
theorem dX6_scoreOf_126 : decode cX6_scoreOf 126 = .ok (.iinc 7 1, 3) := by decide +kernel
theorem dX6_scoreOf_129 : decode cX6_scoreOf 129 = .ok (.goto (-117), 3) := by decide +kernel
theorem dX6_scoreOf_132 : decode cX6_scoreOf 132 = .ok (.iload 5, 2) := by decide +kernel
theorem dX6_scoreOf_134 : decode cX6_scoreOf 134 = .ok (.ifCond .eq 8, 3) := by decide +kernel
theorem dX6_scoreOf_137 : decode cX6_scoreOf 137 = .ok (.lload_n 3, 1) := by decide +kernel
theorem dX6_scoreOf_138 : decode cX6_scoreOf 138 = .ok (.l2i, 1) := by decide +kernel
theorem dX6_scoreOf_139 : decode cX6_scoreOf 139 = .ok (.goto 4, 3) := by decide +kernel
theorem dX6_scoreOf_142 : decode cX6_scoreOf 142 = .ok (.iconst (-1), 1) := by decide +kernel
theorem dX6_scoreOf_143 : decode cX6_scoreOf 143 = .ok (.ireturn, 1) := by decide +kernel
theorem dX6_timesIn_0 : decode cX6_timesIn 0 = .ok (.iload_n 1, 1) := by decide +kernel
theorem dX6_timesIn_1 : decode cX6_timesIn 1 = .ok (.iconst 4, 1) := by decide +kernel
theorem dX6_timesIn_2 : decode cX6_timesIn 2 = .ok (.imul, 1) := by decide +kernel
theorem dX6_timesIn_3 : decode cX6_timesIn 3 = .ok (.istore_n 3, 1) := by decide +kernel
theorem dX6_timesIn_4 : decode cX6_timesIn 4 = .ok (.aload_n 0, 1) := by decide +kernel
theorem dX6_timesIn_5 : decode cX6_timesIn 5 = .ok (.getfield 15, 3) := by decide +kernel
theorem dX6_timesIn_8 : decode cX6_timesIn 8 = .ok (.iload_n 1, 1) := by decide +kernel
theorem dX6_timesIn_9 : decode cX6_timesIn 9 = .ok (.iaload, 1) := by decide +kernel
theorem dX6_timesIn_10 : decode cX6_timesIn 10 = .ok (.ifCond .ne 30, 3) := by decide +kernel
theorem dX6_timesIn_13 : decode cX6_timesIn 13 = .ok (.aload_n 2, 1) := by decide +kernel
theorem dX6_timesIn_14 : decode cX6_timesIn 14 = .ok (.aload_n 0, 1) := by decide +kernel
theorem dX6_timesIn_15 : decode cX6_timesIn 15 = .ok (.getfield 18, 3) := by decide +kernel
theorem dX6_timesIn_18 : decode cX6_timesIn 18 = .ok (.iload_n 3, 1) := by decide +kernel
theorem dX6_timesIn_19 : decode cX6_timesIn 19 = .ok (.laload, 1) := by decide +kernel
theorem dX6_timesIn_20 : decode cX6_timesIn 20 = .ok (.aload_n 0, 1) := by decide +kernel
theorem dX6_timesIn_21 : decode cX6_timesIn 21 = .ok (.getfield 18, 3) := by decide +kernel
theorem dX6_timesIn_24 : decode cX6_timesIn 24 = .ok (.iload_n 3, 1) := by decide +kernel
theorem dX6_timesIn_25 : decode cX6_timesIn 25 = .ok (.iconst 1, 1) := by decide +kernel
theorem dX6_timesIn_26 : decode cX6_timesIn 26 = .ok (.iadd, 1) := by decide +kernel
theorem dX6_timesIn_27 : decode cX6_timesIn 27 = .ok (.laload, 1) := by decide +kernel
theorem dX6_timesIn_28 : decode cX6_timesIn 28 = .ok (.invokestatic 96, 3) := by decide +kernel
theorem dX6_timesIn_31 : decode cX6_timesIn 31 = .ok (.ifCond .eq 7, 3) := by decide +kernel
theorem dX6_timesIn_34 : decode cX6_timesIn 34 = .ok (.iconst 1, 1) := by decide +kernel
theorem dX6_timesIn_35 : decode cX6_timesIn 35 = .ok (.goto 4, 3) := by decide +kernel
theorem dX6_timesIn_38 : decode cX6_timesIn 38 = .ok (.iconst 0, 1) := by decide +kernel
theorem dX6_timesIn_39 : decode cX6_timesIn 39 = .ok (.ireturn, 1) := by decide +kernel
theorem dX6_timesIn_40 : decode cX6_timesIn 40 = .ok (.iconst 0, 1) := by decide +kernel
theorem dX6_timesIn_41 : decode cX6_timesIn 41 = .ok (.istore 4, 2) := by decide +kernel
theorem dX6_timesIn_43 : decode cX6_timesIn 43 = .ok (.iconst 0, 1) := by decide +kernel
theorem dX6_timesIn_44 : decode cX6_timesIn 44 = .ok (.istore 5, 2) := by decide +kernel
theorem dX6_timesIn_46 : decode cX6_timesIn 46 = .ok (.iload 5, 2) := by decide +kernel
theorem dX6_timesIn_48 : decode cX6_timesIn 48 = .ok (.aload_n 2, 1) := by decide +kernel
theorem dX6_timesIn_49 : decode cX6_timesIn 49 = .ok (.arraylength, 1) := by decide +kernel
theorem dX6_timesIn_50 : decode cX6_timesIn 50 = .ok (.if_icmp .ge 23, 3) := by decide +kernel
theorem dX6_timesIn_53 : decode cX6_timesIn 53 = .ok (.aload_n 0, 1) := by decide +kernel
theorem dX6_timesIn_54 : decode cX6_timesIn 54 = .ok (.iload_n 1, 1) := by decide +kernel
theorem dX6_timesIn_55 : decode cX6_timesIn 55 = .ok (.aload_n 2, 1) := by decide +kernel
theorem dX6_timesIn_56 : decode cX6_timesIn 56 = .ok (.iload 5, 2) := by decide +kernel
theorem dX6_timesIn_58 : decode cX6_timesIn 58 = .ok (.invokevirtual 113, 3) := by decide +kernel
theorem dX6_timesIn_61 : decode cX6_timesIn 61 = .ok (.ifCond .eq 6, 3) := by decide +kernel
theorem dX6_timesIn_64 : decode cX6_timesIn 64 = .ok (.iinc 4 1, 3) := by decide +kernel
theorem dX6_timesIn_67 : decode cX6_timesIn 67 = .ok (.iinc 5 1, 3) := by decide +kernel
theorem dX6_timesIn_70 : decode cX6_timesIn 70 = .ok (.goto (-24), 3) := by decide +kernel
theorem dX6_timesIn_73 : decode cX6_timesIn 73 = .ok (.iload 4, 2) := by decide +kernel
theorem dX6_timesIn_75 : decode cX6_timesIn 75 = .ok (.ireturn, 1) := by decide +kernel
theorem dX6_standsAt_0 : decode cX6_standsAt 0 = .ok (.iconst 0, 1) := by decide +kernel
theorem dX6_standsAt_1 : decode cX6_standsAt 1 = .ok (.istore 4, 2) := by decide +kernel
theorem dX6_standsAt_3 : decode cX6_standsAt 3 = .ok (.iload 4, 2) := by decide +kernel
theorem dX6_standsAt_5 : decode cX6_standsAt 5 = .ok (.aload_n 0, 1) := by decide +kernel
theorem dX6_standsAt_6 : decode cX6_standsAt 6 = .ok (.getfield 15, 3) := by decide +kernel
theorem dX6_standsAt_9 : decode cX6_standsAt 9 = .ok (.iload_n 1, 1) := by decide +kernel
theorem dX6_standsAt_10 : decode cX6_standsAt 10 = .ok (.iaload, 1) := by decide +kernel
theorem dX6_standsAt_11 : decode cX6_standsAt 11 = .ok (.if_icmp .ge 52, 3) := by decide +kernel
theorem dX6_standsAt_14 : decode cX6_standsAt 14 = .ok (.aload_n 0, 1) := by decide +kernel
theorem dX6_standsAt_15 : decode cX6_standsAt 15 = .ok (.getfield 18, 3) := by decide +kernel
theorem dX6_standsAt_18 : decode cX6_standsAt 18 = .ok (.iload_n 1, 1) := by decide +kernel
theorem dX6_standsAt_19 : decode cX6_standsAt 19 = .ok (.iconst 4, 1) := by decide +kernel
theorem dX6_standsAt_20 : decode cX6_standsAt 20 = .ok (.imul, 1) := by decide +kernel
theorem dX6_standsAt_21 : decode cX6_standsAt 21 = .ok (.iload 4, 2) := by decide +kernel
theorem dX6_standsAt_23 : decode cX6_standsAt 23 = .ok (.iadd, 1) := by decide +kernel
theorem dX6_standsAt_24 : decode cX6_standsAt 24 = .ok (.laload, 1) := by decide +kernel
theorem dX6_standsAt_25 : decode cX6_standsAt 25 = .ok (.lstore 5, 2) := by decide +kernel
theorem dX6_standsAt_27 : decode cX6_standsAt 27 = .ok (.lload 5, 2) := by decide +kernel
theorem dX6_standsAt_29 : decode cX6_standsAt 29 = .ok (.lconst 0, 1) := by decide +kernel
theorem dX6_standsAt_30 : decode cX6_standsAt 30 = .ok (.lcmp, 1) := by decide +kernel
theorem dX6_standsAt_31 : decode cX6_standsAt 31 = .ok (.ifCond .eq 26, 3) := by decide +kernel
theorem dX6_standsAt_34 : decode cX6_standsAt 34 = .ok (.iload_n 3, 1) := by decide +kernel
theorem dX6_standsAt_35 : decode cX6_standsAt 35 = .ok (.iload 4, 2) := by decide +kernel
theorem dX6_standsAt_37 : decode cX6_standsAt 37 = .ok (.iadd, 1) := by decide +kernel
theorem dX6_standsAt_38 : decode cX6_standsAt 38 = .ok (.aload_n 2, 1) := by decide +kernel
theorem dX6_standsAt_39 : decode cX6_standsAt 39 = .ok (.arraylength, 1) := by decide +kernel
theorem dX6_standsAt_40 : decode cX6_standsAt 40 = .ok (.if_icmp .ge 15, 3) := by decide +kernel
theorem dX6_standsAt_43 : decode cX6_standsAt 43 = .ok (.aload_n 2, 1) := by decide +kernel
theorem dX6_standsAt_44 : decode cX6_standsAt 44 = .ok (.iload_n 3, 1) := by decide +kernel
theorem dX6_standsAt_45 : decode cX6_standsAt 45 = .ok (.iload 4, 2) := by decide +kernel
theorem dX6_standsAt_47 : decode cX6_standsAt 47 = .ok (.iadd, 1) := by decide +kernel
theorem dX6_standsAt_48 : decode cX6_standsAt 48 = .ok (.laload, 1) := by decide +kernel
theorem dX6_standsAt_49 : decode cX6_standsAt 49 = .ok (.lload 5, 2) := by decide +kernel
theorem dX6_standsAt_51 : decode cX6_standsAt 51 = .ok (.lcmp, 1) := by decide +kernel
theorem dX6_standsAt_52 : decode cX6_standsAt 52 = .ok (.ifCond .eq 5, 3) := by decide +kernel
theorem dX6_standsAt_55 : decode cX6_standsAt 55 = .ok (.iconst 0, 1) := by decide +kernel
theorem dX6_standsAt_56 : decode cX6_standsAt 56 = .ok (.ireturn, 1) := by decide +kernel
theorem dX6_standsAt_57 : decode cX6_standsAt 57 = .ok (.iinc 4 1, 3) := by decide +kernel
theorem dX6_standsAt_60 : decode cX6_standsAt 60 = .ok (.goto (-57), 3) := by decide +kernel
theorem dX6_standsAt_63 : decode cX6_standsAt 63 = .ok (.iconst 1, 1) := by decide +kernel
theorem dX6_standsAt_64 : decode cX6_standsAt 64 = .ok (.ireturn, 1) := by decide +kernel
theorem dX6_rareOf_0 : decode cX6_rareOf 0 = .ok (.lconst 0, 1) := by decide +kernel
theorem dX6_rareOf_1 : decode cX6_rareOf 1 = .ok (.lstore_n 3, 1) := by decide +kernel
theorem dX6_rareOf_2 : decode cX6_rareOf 2 = .ok (.iload_n 1, 1) := by decide +kernel
theorem dX6_rareOf_3 : decode cX6_rareOf 3 = .ok (.istore 5, 2) := by decide +kernel
theorem dX6_rareOf_5 : decode cX6_rareOf 5 = .ok (.iload 5, 2) := by decide +kernel
theorem dX6_rareOf_7 : decode cX6_rareOf 7 = .ok (.iload_n 1, 1) := by decide +kernel
theorem dX6_rareOf_8 : decode cX6_rareOf 8 = .ok (.iload_n 2, 1) := by decide +kernel
theorem dX6_rareOf_9 : decode cX6_rareOf 9 = .ok (.iadd, 1) := by decide +kernel
theorem dX6_rareOf_10 : decode cX6_rareOf 10 = .ok (.if_icmp .ge 42, 3) := by decide +kernel
theorem dX6_rareOf_13 : decode cX6_rareOf 13 = .ok (.iload 5, 2) := by decide +kernel
theorem dX6_rareOf_15 : decode cX6_rareOf 15 = .ok (.bipush 30, 2) := by decide +kernel
theorem dX6_rareOf_17 : decode cX6_rareOf 17 = .ok (.if_icmp .ge 35, 3) := by decide +kernel
theorem dX6_rareOf_20 : decode cX6_rareOf 20 = .ok (.lload_n 3, 1) := by decide +kernel
theorem dX6_rareOf_21 : decode cX6_rareOf 21 = .ok (.iconst 2, 1) := by decide +kernel
theorem dX6_rareOf_22 : decode cX6_rareOf 22 = .ok (.aload_n 0, 1) := by decide +kernel
theorem dX6_rareOf_23 : decode cX6_rareOf 23 = .ok (.iconst 4, 1) := by decide +kernel
theorem dX6_rareOf_24 : decode cX6_rareOf 24 = .ok (.iaload, 1) := by decide +kernel
theorem dX6_rareOf_25 : decode cX6_rareOf 25 = .ok (.imul, 1) := by decide +kernel
theorem dX6_rareOf_26 : decode cX6_rareOf 26 = .ok (.iconst 2, 1) := by decide +kernel
theorem dX6_rareOf_27 : decode cX6_rareOf 27 = .ok (.iadd, 1) := by decide +kernel
theorem dX6_rareOf_28 : decode cX6_rareOf 28 = .ok (.invokestatic 117, 3) := by decide +kernel
theorem dX6_rareOf_31 : decode cX6_rareOf 31 = .ok (.iconst 2, 1) := by decide +kernel
theorem dX6_rareOf_32 : decode cX6_rareOf 32 = .ok (.aload_n 0, 1) := by decide +kernel
theorem dX6_rareOf_33 : decode cX6_rareOf 33 = .ok (.iload 5, 2) := by decide +kernel
theorem dX6_rareOf_35 : decode cX6_rareOf 35 = .ok (.iaload, 1) := by decide +kernel
theorem dX6_rareOf_36 : decode cX6_rareOf 36 = .ok (.imul, 1) := by decide +kernel
theorem dX6_rareOf_37 : decode cX6_rareOf 37 = .ok (.iconst 1, 1) := by decide +kernel
theorem dX6_rareOf_38 : decode cX6_rareOf 38 = .ok (.iadd, 1) := by decide +kernel
theorem dX6_rareOf_39 : decode cX6_rareOf 39 = .ok (.invokestatic 117, 3) := by decide +kernel
theorem dX6_rareOf_42 : decode cX6_rareOf 42 = .ok (.isub, 1) := by decide +kernel
theorem dX6_rareOf_43 : decode cX6_rareOf 43 = .ok (.i2l, 1) := by decide +kernel
theorem dX6_rareOf_44 : decode cX6_rareOf 44 = .ok (.ladd, 1) := by decide +kernel
theorem dX6_rareOf_45 : decode cX6_rareOf 45 = .ok (.lstore_n 3, 1) := by decide +kernel
theorem dX6_rareOf_46 : decode cX6_rareOf 46 = .ok (.iinc 5 1, 3) := by decide +kernel
theorem dX6_rareOf_49 : decode cX6_rareOf 49 = .ok (.goto (-44), 3) := by decide +kernel
theorem dX6_rareOf_52 : decode cX6_rareOf 52 = .ok (.lload_n 3, 1) := by decide +kernel
theorem dX6_rareOf_53 : decode cX6_rareOf 53 = .ok (.lreturn, 1) := by decide +kernel
theorem dX6_gain_0 : decode cX6_gain 0 = .ok (.aload 6, 2) := by decide +kernel
theorem dX6_gain_2 : decode cX6_gain 2 = .ok (.iconst 5, 1) := by decide +kernel
theorem dX6_gain_3 : decode cX6_gain 3 = .ok (.iaload, 1) := by decide +kernel
theorem dX6_gain_4 : decode cX6_gain 4 = .ok (.ifCond .le 24, 3) := by decide +kernel
theorem dX6_gain_7 : decode cX6_gain 7 = .ok (.ldc2_w 120, 3) := by decide +kernel
theorem dX6_gain_10 : decode cX6_gain 10 = .ok (.lload 4, 2) := by decide +kernel
theorem dX6_gain_12 : decode cX6_gain 12 = .ok (.lmul, 1) := by decide +kernel
theorem dX6_gain_13 : decode cX6_gain 13 = .ok (.aload 6, 2) := by decide +kernel
theorem dX6_gain_15 : decode cX6_gain 15 = .ok (.iconst 4, 1) := by decide +kernel
theorem dX6_gain_16 : decode cX6_gain 16 = .ok (.iaload, 1) := by decide +kernel
theorem dX6_gain_17 : decode cX6_gain 17 = .ok (.i2l, 1) := by decide +kernel
theorem dX6_gain_18 : decode cX6_gain 18 = .ok (.lmul, 1) := by decide +kernel
theorem dX6_gain_19 : decode cX6_gain 19 = .ok (.aload 6, 2) := by decide +kernel
theorem dX6_gain_21 : decode cX6_gain 21 = .ok (.iconst 5, 1) := by decide +kernel
theorem dX6_gain_22 : decode cX6_gain 22 = .ok (.iaload, 1) := by decide +kernel
theorem dX6_gain_23 : decode cX6_gain 23 = .ok (.i2l, 1) := by decide +kernel
theorem dX6_gain_24 : decode cX6_gain 24 = .ok (.ldiv, 1) := by decide +kernel
theorem dX6_gain_25 : decode cX6_gain 25 = .ok (.goto 4, 3) := by decide +kernel
theorem dX6_gain_28 : decode cX6_gain 28 = .ok (.lconst 0, 1) := by decide +kernel
theorem dX6_gain_29 : decode cX6_gain 29 = .ok (.lstore 7, 2) := by decide +kernel
theorem dX6_gain_31 : decode cX6_gain 31 = .ok (.ldc2_w 122, 3) := by decide +kernel
theorem dX6_gain_34 : decode cX6_gain 34 = .ok (.lload_n 2, 1) := by decide +kernel
theorem dX6_gain_35 : decode cX6_gain 35 = .ok (.lmul, 1) := by decide +kernel
theorem dX6_gain_36 : decode cX6_gain 36 = .ok (.ldc2_w 124, 3) := by decide +kernel
theorem dX6_gain_39 : decode cX6_gain 39 = .ok (.ladd, 1) := by decide +kernel
theorem dX6_gain_40 : decode cX6_gain 40 = .ok (.lload 7, 2) := by decide +kernel
theorem dX6_gain_42 : decode cX6_gain 42 = .ok (.ladd, 1) := by decide +kernel
theorem dX6_gain_43 : decode cX6_gain 43 = .ok (.lstore 9, 2) := by decide +kernel
theorem dX6_gain_45 : decode cX6_gain 45 = .ok (.lload 9, 2) := by decide +kernel
theorem dX6_gain_47 : decode cX6_gain 47 = .ok (.lconst 0, 1) := by decide +kernel
theorem dX6_gain_48 : decode cX6_gain 48 = .ok (.lcmp, 1) := by decide +kernel
theorem dX6_gain_49 : decode cX6_gain 49 = .ok (.ifCond .le 16, 3) := by decide +kernel
theorem dX6_gain_52 : decode cX6_gain 52 = .ok (.lload_n 0, 1) := by decide +kernel
theorem dX6_gain_53 : decode cX6_gain 53 = .ok (.ldc2_w 126, 3) := by decide +kernel
theorem dX6_gain_56 : decode cX6_gain 56 = .ok (.lmul, 1) := by decide +kernel
theorem dX6_gain_57 : decode cX6_gain 57 = .ok (.lload_n 2, 1) := by decide +kernel
theorem dX6_gain_58 : decode cX6_gain 58 = .ok (.lmul, 1) := by decide +kernel
theorem dX6_gain_59 : decode cX6_gain 59 = .ok (.lload 9, 2) := by decide +kernel
theorem dX6_gain_61 : decode cX6_gain 61 = .ok (.ldiv, 1) := by decide +kernel
theorem dX6_gain_62 : decode cX6_gain 62 = .ok (.goto 4, 3) := by decide +kernel
theorem dX6_gain_65 : decode cX6_gain 65 = .ok (.lconst 0, 1) := by decide +kernel
theorem dX6_gain_66 : decode cX6_gain 66 = .ok (.lreturn, 1) := by decide +kernel
theorem dX6_logOf_0 : decode cX6_logOf 0 = .ok (.iconst 0, 1) := by decide +kernel
theorem dX6_logOf_1 : decode cX6_logOf 1 = .ok (.istore_n 1, 1) := by decide +kernel
theorem dX6_logOf_2 : decode cX6_logOf 2 = .ok (.iload_n 1, 1) := by decide +kernel
theorem dX6_logOf_3 : decode cX6_logOf 3 = .ok (.bipush 30, 2) := by decide +kernel
theorem dX6_logOf_5 : decode cX6_logOf 5 = .ok (.if_icmp .ge 17, 3) := by decide +kernel
theorem dX6_logOf_8 : decode cX6_logOf 8 = .ok (.iload_n 0, 1) := by decide +kernel
theorem dX6_logOf_9 : decode cX6_logOf 9 = .ok (.iload_n 1, 1) := by decide +kernel
theorem dX6_logOf_10 : decode cX6_logOf 10 = .ok (.iconst 1, 1) := by decide +kernel
theorem dX6_logOf_11 : decode cX6_logOf 11 = .ok (.iadd, 1) := by decide +kernel
theorem dX6_logOf_12 : decode cX6_logOf 12 = .ok (.ishr, 1) := by decide +kernel
theorem dX6_logOf_13 : decode cX6_logOf 13 = .ok (.ifCond .le 9, 3) := by decide +kernel
theorem dX6_logOf_16 : decode cX6_logOf 16 = .ok (.iinc 1 1, 3) := by decide +kernel
theorem dX6_logOf_19 : decode cX6_logOf 19 = .ok (.goto (-17), 3) := by decide +kernel
theorem dX6_logOf_22 : decode cX6_logOf 22 = .ok (.iload_n 1, 1) := by decide +kernel
theorem dX6_logOf_23 : decode cX6_logOf 23 = .ok (.bipush 6, 2) := by decide +kernel
theorem dX6_logOf_25 : decode cX6_logOf 25 = .ok (.if_icmp .lt 12, 3) := by decide +kernel
theorem dX6_logOf_28 : decode cX6_logOf 28 = .ok (.iload_n 0, 1) := by decide +kernel
theorem dX6_logOf_29 : decode cX6_logOf 29 = .ok (.iload_n 1, 1) := by decide +kernel
theorem dX6_logOf_30 : decode cX6_logOf 30 = .ok (.bipush 6, 2) := by decide +kernel
theorem dX6_logOf_32 : decode cX6_logOf 32 = .ok (.isub, 1) := by decide +kernel
theorem dX6_logOf_33 : decode cX6_logOf 33 = .ok (.ishr, 1) := by decide +kernel
theorem dX6_logOf_34 : decode cX6_logOf 34 = .ok (.goto 9, 3) := by decide +kernel
theorem dX6_logOf_37 : decode cX6_logOf 37 = .ok (.iload_n 0, 1) := by decide +kernel
theorem dX6_logOf_38 : decode cX6_logOf 38 = .ok (.bipush 6, 2) := by decide +kernel
theorem dX6_logOf_40 : decode cX6_logOf 40 = .ok (.iload_n 1, 1) := by decide +kernel
theorem dX6_logOf_41 : decode cX6_logOf 41 = .ok (.isub, 1) := by decide +kernel
theorem dX6_logOf_42 : decode cX6_logOf 42 = .ok (.ishl, 1) := by decide +kernel
theorem dX6_logOf_43 : decode cX6_logOf 43 = .ok (.istore_n 2, 1) := by decide +kernel
theorem dX6_logOf_44 : decode cX6_logOf 44 = .ok (.bipush 64, 2) := by decide +kernel
theorem dX6_logOf_46 : decode cX6_logOf 46 = .ok (.iload_n 1, 1) := by decide +kernel
theorem dX6_logOf_47 : decode cX6_logOf 47 = .ok (.imul, 1) := by decide +kernel
theorem dX6_logOf_48 : decode cX6_logOf 48 = .ok (.iload_n 2, 1) := by decide +kernel
theorem dX6_logOf_49 : decode cX6_logOf 49 = .ok (.bipush 63, 2) := by decide +kernel
theorem dX6_logOf_51 : decode cX6_logOf 51 = .ok (.iand, 1) := by decide +kernel
theorem dX6_logOf_52 : decode cX6_logOf 52 = .ok (.iadd, 1) := by decide +kernel
theorem dX6_logOf_53 : decode cX6_logOf 53 = .ok (.ireturn, 1) := by decide +kernel
theorem dX7_init_0 : decode cX7_init 0 = .ok (.aload_n 0, 1) := by decide +kernel
theorem dX7_init_1 : decode cX7_init 1 = .ok (.invokespecial 3, 3) := by decide +kernel
theorem dX7_init_4 : decode cX7_init 4 = .ok (.aload_n 0, 1) := by decide +kernel
theorem dX7_init_5 : decode cX7_init 5 = .ok (.iconst 4, 1) := by decide +kernel
theorem dX7_init_6 : decode cX7_init 6 = .ok (.newarray .int, 2) := by decide +kernel
theorem dX7_init_8 : decode cX7_init 8 = .ok (.putfield 9, 3) := by decide +kernel
theorem dX7_init_11 : decode cX7_init 11 = .ok (.aload_n 0, 1) := by decide +kernel
theorem dX7_init_12 : decode cX7_init 12 = .ok (.iconst 5, 1) := by decide +kernel
theorem dX7_init_13 : decode cX7_init 13 = .ok (.newarray .int, 2) := by decide +kernel
theorem dX7_init_15 : decode cX7_init 15 = .ok (.putfield 15, 3) := by decide +kernel
theorem dX7_init_18 : decode cX7_init 18 = .ok (.aload_n 0, 1) := by decide +kernel
theorem dX7_init_19 : decode cX7_init 19 = .ok (.iconst 5, 1) := by decide +kernel
theorem dX7_init_20 : decode cX7_init 20 = .ok (.newarray .int, 2) := by decide +kernel
theorem dX7_init_22 : decode cX7_init 22 = .ok (.putfield 18, 3) := by decide +kernel
theorem dX7_init_25 : decode cX7_init 25 = .ok (.aload_n 0, 1) := by decide +kernel
theorem dX7_init_26 : decode cX7_init 26 = .ok (.iconst 5, 1) := by decide +kernel
theorem dX7_init_27 : decode cX7_init 27 = .ok (.newarray .int, 2) := by decide +kernel
theorem dX7_init_29 : decode cX7_init 29 = .ok (.putfield 21, 3) := by decide +kernel
theorem dX7_init_32 : decode cX7_init 32 = .ok (.aload_n 0, 1) := by decide +kernel
theorem dX7_init_33 : decode cX7_init 33 = .ok (.iconst 5, 1) := by decide +kernel
theorem dX7_init_34 : decode cX7_init 34 = .ok (.newarray .int, 2) := by decide +kernel
theorem dX7_init_36 : decode cX7_init 36 = .ok (.putfield 24, 3) := by decide +kernel
theorem dX7_init_39 : decode cX7_init 39 = .ok (.aload_n 0, 1) := by decide +kernel
theorem dX7_init_40 : decode cX7_init 40 = .ok (.iconst 5, 1) := by decide +kernel
theorem dX7_init_41 : decode cX7_init 41 = .ok (.newarray .int, 2) := by decide +kernel
theorem dX7_init_43 : decode cX7_init 43 = .ok (.putfield 27, 3) := by decide +kernel
theorem dX7_init_46 : decode cX7_init 46 = .ok (.aload_n 0, 1) := by decide +kernel
theorem dX7_init_47 : decode cX7_init 47 = .ok (.iconst 5, 1) := by decide +kernel
theorem dX7_init_48 : decode cX7_init 48 = .ok (.newarray .int, 2) := by decide +kernel
theorem dX7_init_50 : decode cX7_init 50 = .ok (.putfield 30, 3) := by decide +kernel
theorem dX7_init_53 : decode cX7_init 53 = .ok (.aload_n 0, 1) := by decide +kernel
theorem dX7_init_54 : decode cX7_init 54 = .ok (.bipush 20, 2) := by decide +kernel
theorem dX7_init_56 : decode cX7_init 56 = .ok (.newarray .int, 2) := by decide +kernel
theorem dX7_init_58 : decode cX7_init 58 = .ok (.putfield 33, 3) := by decide +kernel
theorem dX7_init_61 : decode cX7_init 61 = .ok (.aload_n 0, 1) := by decide +kernel
theorem dX7_init_62 : decode cX7_init 62 = .ok (.bipush 20, 2) := by decide +kernel
theorem dX7_init_64 : decode cX7_init 64 = .ok (.newarray .int, 2) := by decide +kernel
theorem dX7_init_66 : decode cX7_init 66 = .ok (.putfield 36, 3) := by decide +kernel
theorem dX7_init_69 : decode cX7_init 69 = .ok (.aload_n 0, 1) := by decide +kernel
theorem dX7_init_70 : decode cX7_init 70 = .ok (.aload_n 1, 1) := by decide +kernel
theorem dX7_init_71 : decode cX7_init 71 = .ok (.putfield 39, 3) := by decide +kernel
theorem dX7_init_74 : decode cX7_init 74 = .ok (.aload_n 0, 1) := by decide +kernel
theorem dX7_init_75 : decode cX7_init 75 = .ok (.new 43, 3) := by decide +kernel
theorem dX7_init_78 : decode cX7_init 78 = .ok (.dup, 1) := by decide +kernel
theorem dX7_init_79 : decode cX7_init 79 = .ok (.aload_n 1, 1) := by decide +kernel
theorem dX7_init_80 : decode cX7_init 80 = .ok (.invokespecial 45, 3) := by decide +kernel
theorem dX7_init_83 : decode cX7_init 83 = .ok (.putfield 48, 3) := by decide +kernel
theorem dX7_init_86 : decode cX7_init 86 = .ok (.return_, 1) := by decide +kernel
theorem dX7_begin_0 : decode cX7_begin 0 = .ok (.aload_n 0, 1) := by decide +kernel
theorem dX7_begin_1 : decode cX7_begin 1 = .ok (.aload_n 1, 1) := by decide +kernel
theorem dX7_begin_2 : decode cX7_begin 2 = .ok (.getfield 52, 3) := by decide +kernel
theorem dX7_begin_5 : decode cX7_begin 5 = .ok (.putfield 58, 3) := by decide +kernel
theorem dX7_begin_8 : decode cX7_begin 8 = .ok (.aload_n 0, 1) := by decide +kernel
theorem dX7_begin_9 : decode cX7_begin 9 = .ok (.getfield 48, 3) := by decide +kernel
theorem dX7_begin_12 : decode cX7_begin 12 = .ok (.aload_n 1, 1) := by decide +kernel
theorem dX7_begin_13 : decode cX7_begin 13 = .ok (.iload_n 2, 1) := by decide +kernel
theorem dX7_begin_14 : decode cX7_begin 14 = .ok (.invokevirtual 61, 3) := by decide +kernel
theorem dX7_begin_17 : decode cX7_begin 17 = .ok (.aload_n 0, 1) := by decide +kernel
theorem dX7_begin_18 : decode cX7_begin 18 = .ok (.getfield 9, 3) := by decide +kernel
theorem dX7_begin_21 : decode cX7_begin 21 = .ok (.iconst 0, 1) := by decide +kernel
theorem dX7_begin_22 : decode cX7_begin 22 = .ok (.iconst 1, 1) := by decide +kernel
theorem dX7_begin_23 : decode cX7_begin 23 = .ok (.iastore, 1) := by decide +kernel
theorem dX7_begin_24 : decode cX7_begin 24 = .ok (.aload_n 0, 1) := by decide +kernel
theorem dX7_begin_25 : decode cX7_begin 25 = .ok (.getfield 9, 3) := by decide +kernel
theorem dX7_begin_28 : decode cX7_begin 28 = .ok (.iconst 1, 1) := by decide +kernel
theorem dX7_begin_29 : decode cX7_begin 29 = .ok (.aload_n 0, 1) := by decide +kernel
theorem dX7_begin_30 : decode cX7_begin 30 = .ok (.getfield 39, 3) := by decide +kernel
theorem dX7_begin_33 : decode cX7_begin 33 = .ok (.iload_n 2, 1) := by decide +kernel
theorem dX7_begin_34 : decode cX7_begin 34 = .ok (.invokevirtual 65, 3) := by decide +kernel
theorem dX7_begin_37 : decode cX7_begin 37 = .ok (.iastore, 1) := by decide +kernel
theorem dX7_begin_38 : decode cX7_begin 38 = .ok (.aload_n 0, 1) := by decide +kernel
theorem dX7_begin_39 : decode cX7_begin 39 = .ok (.getfield 9, 3) := by decide +kernel
theorem dX7_begin_42 : decode cX7_begin 42 = .ok (.iconst 2, 1) := by decide +kernel
theorem dX7_begin_43 : decode cX7_begin 43 = .ok (.aload_n 0, 1) := by decide +kernel
theorem dX7_begin_44 : decode cX7_begin 44 = .ok (.getfield 39, 3) := by decide +kernel
theorem dX7_begin_47 : decode cX7_begin 47 = .ok (.iload_n 2, 1) := by decide +kernel
theorem dX7_begin_48 : decode cX7_begin 48 = .ok (.invokevirtual 71, 3) := by decide +kernel
theorem dX7_begin_51 : decode cX7_begin 51 = .ok (.iastore, 1) := by decide +kernel
theorem dX7_begin_52 : decode cX7_begin 52 = .ok (.aload_n 0, 1) := by decide +kernel
theorem dX7_begin_53 : decode cX7_begin 53 = .ok (.getfield 9, 3) := by decide +kernel
theorem dX7_begin_56 : decode cX7_begin 56 = .ok (.iconst 3, 1) := by decide +kernel
theorem dX7_begin_57 : decode cX7_begin 57 = .ok (.iconst 1, 1) := by decide +kernel
theorem dX7_begin_58 : decode cX7_begin 58 = .ok (.iastore, 1) := by decide +kernel
theorem dX7_begin_59 : decode cX7_begin 59 = .ok (.aload_n 0, 1) := by decide +kernel
theorem dX7_begin_60 : decode cX7_begin 60 = .ok (.aload_n 0, 1) := by decide +kernel
theorem dX7_begin_61 : decode cX7_begin 61 = .ok (.getfield 9, 3) := by decide +kernel
theorem dX7_begin_64 : decode cX7_begin 64 = .ok (.iconst 1, 1) := by decide +kernel
theorem dX7_begin_65 : decode cX7_begin 65 = .ok (.iaload, 1) := by decide +kernel
theorem dX7_begin_66 : decode cX7_begin 66 = .ok (.aload_n 0, 1) := by decide +kernel
theorem dX7_begin_67 : decode cX7_begin 67 = .ok (.getfield 58, 3) := by decide +kernel
theorem dX7_begin_70 : decode cX7_begin 70 = .ok (.if_icmp .ne 7, 3) := by decide +kernel
theorem dX7_begin_73 : decode cX7_begin 73 = .ok (.iconst 2, 1) := by decide +kernel
theorem dX7_begin_74 : decode cX7_begin 74 = .ok (.goto 4, 3) := by decide +kernel
theorem dX7_begin_77 : decode cX7_begin 77 = .ok (.iconst 1, 1) := by decide +kernel
theorem dX7_begin_78 : decode cX7_begin 78 = .ok (.putfield 74, 3) := by decide +kernel
theorem dX7_begin_81 : decode cX7_begin 81 = .ok (.aload_n 0, 1) := by decide +kernel
theorem dX7_begin_82 : decode cX7_begin 82 = .ok (.iconst 0, 1) := by decide +kernel
theorem dX7_begin_83 : decode cX7_begin 83 = .ok (.putfield 77, 3) := by decide +kernel
theorem dX7_begin_86 : decode cX7_begin 86 = .ok (.aload_n 0, 1) := by decide +kernel
theorem dX7_begin_87 : decode cX7_begin 87 = .ok (.iconst 0, 1) := by decide +kernel
theorem dX7_begin_88 : decode cX7_begin 88 = .ok (.putfield 80, 3) := by decide +kernel
theorem dX7_begin_91 : decode cX7_begin 91 = .ok (.iconst 0, 1) := by decide +kernel
theorem dX7_begin_92 : decode cX7_begin 92 = .ok (.istore_n 3, 1) := by decide +kernel
theorem dX7_begin_93 : decode cX7_begin 93 = .ok (.iload_n 3, 1) := by decide +kernel
theorem dX7_begin_94 : decode cX7_begin 94 = .ok (.iconst 5, 1) := by decide +kernel
theorem dX7_begin_95 : decode cX7_begin 95 = .ok (.if_icmp .ge 43, 3) := by decide +kernel
theorem dX7_begin_98 : decode cX7_begin 98 = .ok (.aload_n 0, 1) := by decide +kernel
theorem dX7_begin_99 : decode cX7_begin 99 = .ok (.iload_n 3, 1) := by decide +kernel
theorem dX7_begin_100 : decode cX7_begin 100 = .ok (.aload_n 0, 1) := by decide +kernel
theorem dX7_begin_101 : decode cX7_begin 101 = .ok (.iload_n 3, 1) := by decide +kernel
theorem dX7_begin_102 : decode cX7_begin 102 = .ok (.invokevirtual 83, 3) := by decide +kernel
theorem dX7_begin_105 : decode cX7_begin 105 = .ok (.ifCond .eq 7, 3) := by decide +kernel
theorem dX7_begin_108 : decode cX7_begin 108 = .ok (.iconst 3, 1) := by decide +kernel
theorem dX7_begin_109 : decode cX7_begin 109 = .ok (.goto 4, 3) := by decide +kernel
theorem dX7_begin_112 : decode cX7_begin 112 = .ok (.iconst 0, 1) := by decide +kernel
theorem dX7_begin_113 : decode cX7_begin 113 = .ok (.iconst 0, 1) := by decide +kernel
theorem dX7_begin_114 : decode cX7_begin 114 = .ok (.iconst 0, 1) := by decide +kernel
theorem dX7_begin_115 : decode cX7_begin 115 = .ok (.invokevirtual 87, 3) := by decide +kernel
theorem dX7_begin_118 : decode cX7_begin 118 = .ok (.aload_n 0, 1) := by decide +kernel
theorem dX7_begin_119 : decode cX7_begin 119 = .ok (.getfield 27, 3) := by decide +kernel
theorem dX7_begin_122 : decode cX7_begin 122 = .ok (.iload_n 3, 1) := by decide +kernel
theorem dX7_begin_123 : decode cX7_begin 123 = .ok (.iconst 0, 1) := by decide +kernel
theorem dX7_begin_124 : decode cX7_begin 124 = .ok (.iastore, 1) := by decide +kernel
theorem dX7_begin_125 : decode cX7_begin 125 = .ok (.aload_n 0, 1) := by decide +kernel
theorem dX7_begin_126 : decode cX7_begin 126 = .ok (.getfield 30, 3) := by decide +kernel
theorem dX7_begin_129 : decode cX7_begin 129 = .ok (.iload_n 3, 1) := by decide +kernel
theorem dX7_begin_130 : decode cX7_begin 130 = .ok (.iconst 0, 1) := by decide +kernel
theorem dX7_begin_131 : decode cX7_begin 131 = .ok (.iastore, 1) := by decide +kernel
theorem dX7_begin_132 : decode cX7_begin 132 = .ok (.iinc 3 1, 3) := by decide +kernel
theorem dX7_begin_135 : decode cX7_begin 135 = .ok (.goto (-42), 3) := by decide +kernel
theorem dX7_begin_138 : decode cX7_begin 138 = .ok (.return_, 1) := by decide +kernel
theorem dX7_load_0 : decode cX7_load 0 = .ok (.aload_n 0, 1) := by decide +kernel
theorem dX7_load_1 : decode cX7_load 1 = .ok (.getfield 48, 3) := by decide +kernel
theorem dX7_load_4 : decode cX7_load 4 = .ok (.invokevirtual 91, 3) := by decide +kernel
theorem dX7_load_7 : decode cX7_load 7 = .ok (.aload_n 0, 1) := by decide +kernel
theorem dX7_load_8 : decode cX7_load 8 = .ok (.getfield 9, 3) := by decide +kernel
theorem dX7_load_11 : decode cX7_load 11 = .ok (.iconst 0, 1) := by decide +kernel
theorem dX7_load_12 : decode cX7_load 12 = .ok (.iconst 0, 1) := by decide +kernel
theorem dX7_load_13 : decode cX7_load 13 = .ok (.iastore, 1) := by decide +kernel
theorem dX7_load_14 : decode cX7_load 14 = .ok (.aload_n 0, 1) := by decide +kernel
theorem dX7_load_15 : decode cX7_load 15 = .ok (.getfield 9, 3) := by decide +kernel
theorem dX7_load_18 : decode cX7_load 18 = .ok (.iconst 1, 1) := by decide +kernel
theorem dX7_load_19 : decode cX7_load 19 = .ok (.iconst (-1), 1) := by decide +kernel
theorem dX7_load_20 : decode cX7_load 20 = .ok (.iastore, 1) := by decide +kernel
theorem dX7_load_21 : decode cX7_load 21 = .ok (.aload_n 0, 1) := by decide +kernel
theorem dX7_load_22 : decode cX7_load 22 = .ok (.getfield 9, 3) := by decide +kernel
theorem dX7_load_25 : decode cX7_load 25 = .ok (.iconst 2, 1) := by decide +kernel
theorem dX7_load_26 : decode cX7_load 26 = .ok (.iconst 0, 1) := by decide +kernel
theorem dX7_load_27 : decode cX7_load 27 = .ok (.iastore, 1) := by decide +kernel
theorem dX7_load_28 : decode cX7_load 28 = .ok (.aload_n 0, 1) := by decide +kernel
theorem dX7_load_29 : decode cX7_load 29 = .ok (.getfield 9, 3) := by decide +kernel
theorem dX7_load_32 : decode cX7_load 32 = .ok (.iconst 3, 1) := by decide +kernel
theorem dX7_load_33 : decode cX7_load 33 = .ok (.iconst 0, 1) := by decide +kernel
theorem dX7_load_34 : decode cX7_load 34 = .ok (.iastore, 1) := by decide +kernel
theorem dX7_load_35 : decode cX7_load 35 = .ok (.aload_n 0, 1) := by decide +kernel
theorem dX7_load_36 : decode cX7_load 36 = .ok (.iconst 0, 1) := by decide +kernel
theorem dX7_load_37 : decode cX7_load 37 = .ok (.putfield 74, 3) := by decide +kernel
theorem dX7_load_40 : decode cX7_load 40 = .ok (.aload_n 0, 1) := by decide +kernel
theorem dX7_load_41 : decode cX7_load 41 = .ok (.iconst 0, 1) := by decide +kernel
theorem dX7_load_42 : decode cX7_load 42 = .ok (.putfield 77, 3) := by decide +kernel
theorem dX7_load_45 : decode cX7_load 45 = .ok (.aload_n 0, 1) := by decide +kernel
theorem dX7_load_46 : decode cX7_load 46 = .ok (.iconst 0, 1) := by decide +kernel
theorem dX7_load_47 : decode cX7_load 47 = .ok (.putfield 80, 3) := by decide +kernel
theorem dX7_load_50 : decode cX7_load 50 = .ok (.return_, 1) := by decide +kernel
theorem dX7_isOther_0 : decode cX7_isOther 0 = .ok (.iload_n 1, 1) := by decide +kernel
theorem dX7_isOther_1 : decode cX7_isOther 1 = .ok (.aload_n 0, 1) := by decide +kernel
theorem dX7_isOther_2 : decode cX7_isOther 2 = .ok (.getfield 58, 3) := by decide +kernel
theorem dX7_isOther_5 : decode cX7_isOther 5 = .ok (.if_icmp .eq 25, 3) := by decide +kernel
theorem dX7_isOther_8 : decode cX7_isOther 8 = .ok (.aload_n 0, 1) := by decide +kernel
theorem dX7_isOther_9 : decode cX7_isOther 9 = .ok (.getfield 39, 3) := by decide +kernel
theorem dX7_isOther_12 : decode cX7_isOther 12 = .ok (.iload_n 1, 1) := by decide +kernel
theorem dX7_isOther_13 : decode cX7_isOther 13 = .ok (.aload_n 0, 1) := by decide +kernel
theorem dX7_isOther_14 : decode cX7_isOther 14 = .ok (.getfield 48, 3) := by decide +kernel
theorem dX7_isOther_17 : decode cX7_isOther 17 = .ok (.getfield 94, 3) := by decide +kernel
theorem dX7_isOther_20 : decode cX7_isOther 20 = .ok (.invokevirtual 97, 3) := by decide +kernel
theorem dX7_isOther_23 : decode cX7_isOther 23 = .ok (.ifCond .eq 7, 3) := by decide +kernel
theorem dX7_isOther_26 : decode cX7_isOther 26 = .ok (.iconst 1, 1) := by decide +kernel
theorem dX7_isOther_27 : decode cX7_isOther 27 = .ok (.goto 4, 3) := by decide +kernel
theorem dX7_isOther_30 : decode cX7_isOther 30 = .ok (.iconst 0, 1) := by decide +kernel
theorem dX7_isOther_31 : decode cX7_isOther 31 = .ok (.ireturn, 1) := by decide +kernel
theorem dX7_isInMask_0 : decode cX7_isInMask 0 = .ok (.aload_n 0, 1) := by decide +kernel
theorem dX7_isInMask_1 : decode cX7_isInMask 1 = .ok (.getfield 9, 3) := by decide +kernel
theorem dX7_isInMask_4 : decode cX7_isInMask 4 = .ok (.iconst 2, 1) := by decide +kernel
theorem dX7_isInMask_5 : decode cX7_isInMask 5 = .ok (.iaload, 1) := by decide +kernel
theorem dX7_isInMask_6 : decode cX7_isInMask 6 = .ok (.iload_n 1, 1) := by decide +kernel
theorem dX7_isInMask_7 : decode cX7_isInMask 7 = .ok (.ishr, 1) := by decide +kernel
theorem dX7_isInMask_8 : decode cX7_isInMask 8 = .ok (.iconst 1, 1) := by decide +kernel
theorem dX7_isInMask_9 : decode cX7_isInMask 9 = .ok (.iand, 1) := by decide +kernel
theorem dX7_isInMask_10 : decode cX7_isInMask 10 = .ok (.iconst 1, 1) := by decide +kernel
theorem dX7_isInMask_11 : decode cX7_isInMask 11 = .ok (.if_icmp .ne 7, 3) := by decide +kernel
theorem dX7_isInMask_14 : decode cX7_isInMask 14 = .ok (.iconst 1, 1) := by decide +kernel
theorem dX7_isInMask_15 : decode cX7_isInMask 15 = .ok (.goto 4, 3) := by decide +kernel
theorem dX7_isInMask_18 : decode cX7_isInMask 18 = .ok (.iconst 0, 1) := by decide +kernel
theorem dX7_isInMask_19 : decode cX7_isInMask 19 = .ok (.ireturn, 1) := by decide +kernel
theorem dX7_leads_0 : decode cX7_leads 0 = .ok (.aload_n 0, 1) := by decide +kernel
theorem dX7_leads_1 : decode cX7_leads 1 = .ok (.getfield 74, 3) := by decide +kernel
theorem dX7_leads_4 : decode cX7_leads 4 = .ok (.iconst 2, 1) := by decide +kernel
theorem dX7_leads_5 : decode cX7_leads 5 = .ok (.if_icmp .ne 24, 3) := by decide +kernel
theorem dX7_leads_8 : decode cX7_leads 8 = .ok (.aload_n 0, 1) := by decide +kernel
theorem dX7_leads_9 : decode cX7_leads 9 = .ok (.iload_n 1, 1) := by decide +kernel
theorem dX7_leads_10 : decode cX7_leads 10 = .ok (.invokevirtual 83, 3) := by decide +kernel
theorem dX7_leads_13 : decode cX7_leads 13 = .ok (.ifCond .eq 16, 3) := by decide +kernel
theorem dX7_leads_16 : decode cX7_leads 16 = .ok (.aload_n 0, 1) := by decide +kernel
theorem dX7_leads_17 : decode cX7_leads 17 = .ok (.getfield 15, 3) := by decide +kernel
theorem dX7_leads_20 : decode cX7_leads 20 = .ok (.iload_n 1, 1) := by decide +kernel
theorem dX7_leads_21 : decode cX7_leads 21 = .ok (.iaload, 1) := by decide +kernel
theorem dX7_leads_22 : decode cX7_leads 22 = .ok (.ifCond .le 7, 3) := by decide +kernel
theorem dX7_leads_25 : decode cX7_leads 25 = .ok (.iconst 1, 1) := by decide +kernel
theorem dX7_leads_26 : decode cX7_leads 26 = .ok (.goto 4, 3) := by decide +kernel
theorem dX7_leads_29 : decode cX7_leads 29 = .ok (.iconst 0, 1) := by decide +kernel
theorem dX7_leads_30 : decode cX7_leads 30 = .ok (.ireturn, 1) := by decide +kernel
theorem dX7_setOther_0 : decode cX7_setOther 0 = .ok (.aload_n 0, 1) := by decide +kernel
theorem dX7_setOther_1 : decode cX7_setOther 1 = .ok (.getfield 15, 3) := by decide +kernel
theorem dX7_setOther_4 : decode cX7_setOther 4 = .ok (.iload_n 1, 1) := by decide +kernel
theorem dX7_setOther_5 : decode cX7_setOther 5 = .ok (.iload_n 2, 1) := by decide +kernel
theorem dX7_setOther_6 : decode cX7_setOther 6 = .ok (.iastore, 1) := by decide +kernel
theorem dX7_setOther_7 : decode cX7_setOther 7 = .ok (.aload_n 0, 1) := by decide +kernel
theorem dX7_setOther_8 : decode cX7_setOther 8 = .ok (.getfield 18, 3) := by decide +kernel
theorem dX7_setOther_11 : decode cX7_setOther 11 = .ok (.iload_n 1, 1) := by decide +kernel
theorem dX7_setOther_12 : decode cX7_setOther 12 = .ok (.iload_n 3, 1) := by decide +kernel
theorem dX7_setOther_13 : decode cX7_setOther 13 = .ok (.iastore, 1) := by decide +kernel
theorem dX7_setOther_14 : decode cX7_setOther 14 = .ok (.aload_n 0, 1) := by decide +kernel
theorem dX7_setOther_15 : decode cX7_setOther 15 = .ok (.getfield 21, 3) := by decide +kernel
theorem dX7_setOther_18 : decode cX7_setOther 18 = .ok (.iload_n 1, 1) := by decide +kernel
theorem dX7_setOther_19 : decode cX7_setOther 19 = .ok (.iconst 0, 1) := by decide +kernel
theorem dX7_setOther_20 : decode cX7_setOther 20 = .ok (.iastore, 1) := by decide +kernel
theorem dX7_setOther_21 : decode cX7_setOther 21 = .ok (.aload_n 0, 1) := by decide +kernel
theorem dX7_setOther_22 : decode cX7_setOther 22 = .ok (.getfield 24, 3) := by decide +kernel
theorem dX7_setOther_25 : decode cX7_setOther 25 = .ok (.iload_n 1, 1) := by decide +kernel
theorem dX7_setOther_26 : decode cX7_setOther 26 = .ok (.iload 4, 2) := by decide +kernel
theorem dX7_setOther_28 : decode cX7_setOther 28 = .ok (.iastore, 1) := by decide +kernel
theorem dX7_setOther_29 : decode cX7_setOther 29 = .ok (.return_, 1) := by decide +kernel
theorem dX7_stepDown_0 : decode cX7_stepDown 0 = .ok (.aload_n 0, 1) := by decide +kernel
theorem dX7_stepDown_1 : decode cX7_stepDown 1 = .ok (.iload_n 1, 1) := by decide +kernel
theorem dX7_stepDown_2 : decode cX7_stepDown 2 = .ok (.putfield 74, 3) := by decide +kernel
theorem dX7_stepDown_5 : decode cX7_stepDown 5 = .ok (.aload_n 0, 1) := by decide +kernel
theorem dX7_stepDown_6 : decode cX7_stepDown 6 = .ok (.iconst 0, 1) := by decide +kernel
theorem dX7_stepDown_7 : decode cX7_stepDown 7 = .ok (.putfield 77, 3) := by decide +kernel
theorem dX7_stepDown_10 : decode cX7_stepDown 10 = .ok (.return_, 1) := by decide +kernel
theorem dX7_ack_0 : decode cX7_ack 0 = .ok (.aload_n 0, 1) := by decide +kernel
theorem dX7_ack_1 : decode cX7_ack 1 = .ok (.getfield 39, 3) := by decide +kernel
theorem dX7_ack_4 : decode cX7_ack 4 = .ok (.aload_n 0, 1) := by decide +kernel
theorem dX7_ack_5 : decode cX7_ack 5 = .ok (.getfield 58, 3) := by decide +kernel
theorem dX7_ack_8 : decode cX7_ack 8 = .ok (.iload_n 1, 1) := by decide +kernel
theorem dX7_ack_9 : decode cX7_ack 9 = .ok (.bipush 7, 2) := by decide +kernel
theorem dX7_ack_11 : decode cX7_ack 11 = .ok (.invokevirtual 101, 3) := by decide +kernel
theorem dX7_ack_14 : decode cX7_ack 14 = .ok (.aload_n 0, 1) := by decide +kernel
theorem dX7_ack_15 : decode cX7_ack 15 = .ok (.getfield 48, 3) := by decide +kernel
theorem dX7_ack_18 : decode cX7_ack 18 = .ok (.getfield 94, 3) := by decide +kernel
theorem dX7_ack_21 : decode cX7_ack 21 = .ok (.aload_n 0, 1) := by decide +kernel
theorem dX7_ack_22 : decode cX7_ack 22 = .ok (.getfield 48, 3) := by decide +kernel
theorem dX7_ack_25 : decode cX7_ack 25 = .ok (.getfield 105, 3) := by decide +kernel
theorem dX7_ack_28 : decode cX7_ack 28 = .ok (.aload_n 0, 1) := by decide +kernel
theorem dX7_ack_29 : decode cX7_ack 29 = .ok (.getfield 48, 3) := by decide +kernel
theorem dX7_ack_32 : decode cX7_ack 32 = .ok (.getfield 108, 3) := by decide +kernel
theorem dX7_ack_35 : decode cX7_ack 35 = .ok (.aload_n 0, 1) := by decide +kernel
theorem dX7_ack_36 : decode cX7_ack 36 = .ok (.getfield 48, 3) := by decide +kernel
theorem dX7_ack_39 : decode cX7_ack 39 = .ok (.getfield 111, 3) := by decide +kernel
theorem dX7_ack_42 : decode cX7_ack 42 = .ok (.iconst 0, 1) := by decide +kernel
theorem dX7_ack_43 : decode cX7_ack 43 = .ok (.invokevirtual 114, 3) := by decide +kernel
theorem dX7_ack_46 : decode cX7_ack 46 = .ok (.pop, 1) := by decide +kernel
theorem dX7_ack_47 : decode cX7_ack 47 = .ok (.return_, 1) := by decide +kernel
theorem dX7_join_0 : decode cX7_join 0 = .ok (.aload_n 0, 1) := by decide +kernel
theorem dX7_join_1 : decode cX7_join 1 = .ok (.getfield 39, 3) := by decide +kernel
theorem dX7_join_4 : decode cX7_join 4 = .ok (.aload_n 0, 1) := by decide +kernel
theorem dX7_join_5 : decode cX7_join 5 = .ok (.getfield 58, 3) := by decide +kernel
theorem dX7_join_8 : decode cX7_join 8 = .ok (.aload_n 0, 1) := by decide +kernel
theorem dX7_join_9 : decode cX7_join 9 = .ok (.getfield 9, 3) := by decide +kernel
theorem dX7_join_12 : decode cX7_join 12 = .ok (.iconst 1, 1) := by decide +kernel
theorem dX7_join_13 : decode cX7_join 13 = .ok (.iaload, 1) := by decide +kernel
theorem dX7_join_14 : decode cX7_join 14 = .ok (.bipush 10, 2) := by decide +kernel
theorem dX7_join_16 : decode cX7_join 16 = .ok (.invokevirtual 101, 3) := by decide +kernel
theorem dX7_join_19 : decode cX7_join 19 = .ok (.aload_n 0, 1) := by decide +kernel
theorem dX7_join_20 : decode cX7_join 20 = .ok (.getfield 48, 3) := by decide +kernel
theorem dX7_join_23 : decode cX7_join 23 = .ok (.getfield 94, 3) := by decide +kernel
theorem dX7_join_26 : decode cX7_join 26 = .ok (.aload_n 0, 1) := by decide +kernel
theorem dX7_join_27 : decode cX7_join 27 = .ok (.getfield 48, 3) := by decide +kernel
theorem dX7_join_30 : decode cX7_join 30 = .ok (.getfield 108, 3) := by decide +kernel
theorem dX7_join_33 : decode cX7_join 33 = .ok (.iconst 0, 1) := by decide +kernel
theorem dX7_join_34 : decode cX7_join 34 = .ok (.iconst 0, 1) := by decide +kernel
theorem dX7_join_35 : decode cX7_join 35 = .ok (.iconst 0, 1) := by decide +kernel
theorem dX7_join_36 : decode cX7_join 36 = .ok (.invokevirtual 114, 3) := by decide +kernel
theorem dX7_join_39 : decode cX7_join 39 = .ok (.pop, 1) := by decide +kernel
theorem dX7_join_40 : decode cX7_join 40 = .ok (.aload_n 0, 1) := by decide +kernel
theorem dX7_join_41 : decode cX7_join 41 = .ok (.aload_n 0, 1) := by decide +kernel
theorem dX7_join_42 : decode cX7_join 42 = .ok (.getfield 39, 3) := by decide +kernel
theorem dX7_join_45 : decode cX7_join 45 = .ok (.getfield 120, 3) := by decide +kernel
theorem dX7_join_48 : decode cX7_join 48 = .ok (.putfield 80, 3) := by decide +kernel
theorem dX7_join_51 : decode cX7_join 51 = .ok (.return_, 1) := by decide +kernel
theorem dX7_heeds_0 : decode cX7_heeds 0 = .ok (.iload_n 2, 1) := by decide +kernel
theorem dX7_heeds_1 : decode cX7_heeds 1 = .ok (.aload_n 0, 1) := by decide +kernel
theorem dX7_heeds_2 : decode cX7_heeds 2 = .ok (.getfield 48, 3) := by decide +kernel
theorem dX7_heeds_5 : decode cX7_heeds 5 = .ok (.getfield 105, 3) := by decide +kernel
theorem dX7_heeds_8 : decode cX7_heeds 8 = .ok (.if_icmp .lt 11, 3) := by decide +kernel
theorem dX7_heeds_11 : decode cX7_heeds 11 = .ok (.aload_n 0, 1) := by decide +kernel
theorem dX7_heeds_12 : decode cX7_heeds 12 = .ok (.getfield 74, 3) := by decide +kernel
theorem dX7_heeds_15 : decode cX7_heeds 15 = .ok (.iconst 2, 1) := by decide +kernel
theorem dX7_heeds_16 : decode cX7_heeds 16 = .ok (.if_icmp .ne 5, 3) := by decide +kernel
theorem dX7_heeds_19 : decode cX7_heeds 19 = .ok (.iconst 0, 1) := by decide +kernel
theorem dX7_heeds_20 : decode cX7_heeds 20 = .ok (.ireturn, 1) := by decide +kernel
theorem dX7_heeds_21 : decode cX7_heeds 21 = .ok (.iload_n 2, 1) := by decide +kernel
theorem dX7_heeds_22 : decode cX7_heeds 22 = .ok (.aload_n 0, 1) := by decide +kernel
theorem dX7_heeds_23 : decode cX7_heeds 23 = .ok (.getfield 48, 3) := by decide +kernel
theorem dX7_heeds_26 : decode cX7_heeds 26 = .ok (.getfield 105, 3) := by decide +kernel
theorem dX7_heeds_29 : decode cX7_heeds 29 = .ok (.if_icmp .le 34, 3) := by decide +kernel
theorem dX7_heeds_32 : decode cX7_heeds 32 = .ok (.aload_n 0, 1) := by decide +kernel
theorem dX7_heeds_33 : decode cX7_heeds 33 = .ok (.getfield 39, 3) := by decide +kernel
theorem dX7_heeds_36 : decode cX7_heeds 36 = .ok (.aload_n 0, 1) := by decide +kernel
theorem dX7_heeds_37 : decode cX7_heeds 37 = .ok (.getfield 58, 3) := by decide +kernel
theorem dX7_heeds_40 : decode cX7_heeds 40 = .ok (.iload_n 1, 1) := by decide +kernel
theorem dX7_heeds_41 : decode cX7_heeds 41 = .ok (.bipush 9, 2) := by decide +kernel
theorem dX7_heeds_43 : decode cX7_heeds 43 = .ok (.invokevirtual 101, 3) := by decide +kernel
theorem dX7_heeds_46 : decode cX7_heeds 46 = .ok (.aload_n 0, 1) := by decide +kernel
theorem dX7_heeds_47 : decode cX7_heeds 47 = .ok (.getfield 48, 3) := by decide +kernel
theorem dX7_heeds_50 : decode cX7_heeds 50 = .ok (.getfield 94, 3) := by decide +kernel
theorem dX7_heeds_53 : decode cX7_heeds 53 = .ok (.iload_n 2, 1) := by decide +kernel
theorem dX7_heeds_54 : decode cX7_heeds 54 = .ok (.iconst 0, 1) := by decide +kernel
theorem dX7_heeds_55 : decode cX7_heeds 55 = .ok (.iconst 0, 1) := by decide +kernel
theorem dX7_heeds_56 : decode cX7_heeds 56 = .ok (.iconst 0, 1) := by decide +kernel
theorem dX7_heeds_57 : decode cX7_heeds 57 = .ok (.invokevirtual 114, 3) := by decide +kernel
theorem dX7_heeds_60 : decode cX7_heeds 60 = .ok (.pop, 1) := by decide +kernel
theorem dX7_heeds_61 : decode cX7_heeds 61 = .ok (.iconst 0, 1) := by decide +kernel
theorem dX7_heeds_62 : decode cX7_heeds 62 = .ok (.ireturn, 1) := by decide +kernel
theorem dX7_heeds_63 : decode cX7_heeds 63 = .ok (.iconst 1, 1) := by decide +kernel
theorem dX7_heeds_64 : decode cX7_heeds 64 = .ok (.ireturn, 1) := by decide +kernel
theorem dX7_onRepl_0 : decode cX7_onRepl 0 = .ok (.aload_n 0, 1) := by decide +kernel
theorem dX7_onRepl_1 : decode cX7_onRepl 1 = .ok (.iload_n 1, 1) := by decide +kernel
theorem dX7_onRepl_2 : decode cX7_onRepl 2 = .ok (.aload_n 2, 1) := by decide +kernel
theorem dX7_onRepl_3 : decode cX7_onRepl 3 = .ok (.getfield 123, 3) := by decide +kernel
theorem dX7_onRepl_6 : decode cX7_onRepl 6 = .ok (.iconst 1, 1) := by decide +kernel
theorem dX7_onRepl_7 : decode cX7_onRepl 7 = .ok (.iaload, 1) := by decide +kernel
theorem dX7_onRepl_8 : decode cX7_onRepl 8 = .ok (.invokevirtual 126, 3) := by decide +kernel
theorem dX7_onRepl_11 : decode cX7_onRepl 11 = .ok (.ifCond .ne 4, 3) := by decide +kernel
theorem dX7_onRepl_14 : decode cX7_onRepl 14 = .ok (.return_, 1) := by decide +kernel
theorem dX7_onRepl_15 : decode cX7_onRepl 15 = .ok (.aload_n 0, 1) := by decide +kernel
theorem dX7_onRepl_16 : decode cX7_onRepl 16 = .ok (.getfield 48, 3) := by decide +kernel
theorem dX7_onRepl_19 : decode cX7_onRepl 19 = .ok (.aload_n 2, 1) := by decide +kernel
theorem dX7_onRepl_20 : decode cX7_onRepl 20 = .ok (.getfield 123, 3) := by decide +kernel
theorem dX7_onRepl_23 : decode cX7_onRepl 23 = .ok (.iconst 4, 1) := by decide +kernel
theorem dX7_onRepl_24 : decode cX7_onRepl 24 = .ok (.iaload, 1) := by decide +kernel
theorem dX7_onRepl_25 : decode cX7_onRepl 25 = .ok (.invokevirtual 129, 3) := by decide +kernel
theorem dX7_onRepl_28 : decode cX7_onRepl 28 = .ok (.aload_n 2, 1) := by decide +kernel
theorem dX7_onRepl_29 : decode cX7_onRepl 29 = .ok (.getfield 123, 3) := by decide +kernel
theorem dX7_onRepl_32 : decode cX7_onRepl 32 = .ok (.iconst 2, 1) := by decide +kernel
theorem dX7_onRepl_33 : decode cX7_onRepl 33 = .ok (.iaload, 1) := by decide +kernel
theorem dX7_onRepl_34 : decode cX7_onRepl 34 = .ok (.aload_n 0, 1) := by decide +kernel
theorem dX7_onRepl_35 : decode cX7_onRepl 35 = .ok (.getfield 48, 3) := by decide +kernel
theorem dX7_onRepl_38 : decode cX7_onRepl 38 = .ok (.getfield 108, 3) := by decide +kernel
theorem dX7_onRepl_41 : decode cX7_onRepl 41 = .ok (.iconst 1, 1) := by decide +kernel
theorem dX7_onRepl_42 : decode cX7_onRepl 42 = .ok (.iadd, 1) := by decide +kernel
theorem dX7_onRepl_43 : decode cX7_onRepl 43 = .ok (.if_icmp .ne 35, 3) := by decide +kernel
theorem dX7_onRepl_46 : decode cX7_onRepl 46 = .ok (.aload_n 0, 1) := by decide +kernel
theorem dX7_onRepl_47 : decode cX7_onRepl 47 = .ok (.getfield 48, 3) := by decide +kernel
theorem dX7_onRepl_50 : decode cX7_onRepl 50 = .ok (.aload_n 2, 1) := by decide +kernel
theorem dX7_onRepl_51 : decode cX7_onRepl 51 = .ok (.getfield 123, 3) := by decide +kernel
theorem dX7_onRepl_54 : decode cX7_onRepl 54 = .ok (.iconst 3, 1) := by decide +kernel
theorem dX7_onRepl_55 : decode cX7_onRepl 55 = .ok (.iaload, 1) := by decide +kernel
theorem dX7_onRepl_56 : decode cX7_onRepl 56 = .ok (.aload_n 2, 1) := by decide +kernel
theorem dX7_onRepl_57 : decode cX7_onRepl 57 = .ok (.getfield 123, 3) := by decide +kernel
theorem dX7_onRepl_60 : decode cX7_onRepl 60 = .ok (.iconst 1, 1) := by decide +kernel
theorem dX7_onRepl_61 : decode cX7_onRepl 61 = .ok (.iaload, 1) := by decide +kernel
theorem dX7_onRepl_62 : decode cX7_onRepl 62 = .ok (.invokevirtual 133, 3) := by decide +kernel
theorem dX7_onRepl_65 : decode cX7_onRepl 65 = .ok (.aload_n 0, 1) := by decide +kernel
theorem dX7_onRepl_66 : decode cX7_onRepl 66 = .ok (.getfield 48, 3) := by decide +kernel
theorem dX7_onRepl_69 : decode cX7_onRepl 69 = .ok (.aload_n 2, 1) := by decide +kernel
theorem dX7_onRepl_70 : decode cX7_onRepl 70 = .ok (.getfield 123, 3) := by decide +kernel
theorem dX7_onRepl_73 : decode cX7_onRepl 73 = .ok (.iconst 4, 1) := by decide +kernel
theorem dX7_onRepl_74 : decode cX7_onRepl 74 = .ok (.iaload, 1) := by decide +kernel
theorem dX7_onRepl_75 : decode cX7_onRepl 75 = .ok (.invokevirtual 129, 3) := by decide +kernel
theorem dX7_onRepl_78 : decode cX7_onRepl 78 = .ok (.aload_n 0, 1) := by decide +kernel
theorem dX7_onRepl_79 : decode cX7_onRepl 79 = .ok (.iload_n 1, 1) := by decide +kernel
theorem dX7_onRepl_80 : decode cX7_onRepl 80 = .ok (.invokevirtual 137, 3) := by decide +kernel
theorem dX7_onRepl_83 : decode cX7_onRepl 83 = .ok (.return_, 1) := by decide +kernel
theorem dX7_onShowTo_0 : decode cX7_onShowTo 0 = .ok (.aload_n 2, 1) := by decide +kernel
theorem dX7_onShowTo_1 : decode cX7_onShowTo 1 = .ok (.getfield 123, 3) := by decide +kernel
theorem dX7_onShowTo_4 : decode cX7_onShowTo 4 = .ok (.iconst 2, 1) := by decide +kernel
theorem dX7_onShowTo_5 : decode cX7_onShowTo 5 = .ok (.iaload, 1) := by decide +kernel
theorem dX7_onShowTo_6 : decode cX7_onShowTo 6 = .ok (.istore_n 3, 1) := by decide +kernel
theorem dX7_onShowTo_7 : decode cX7_onShowTo 7 = .ok (.aload_n 0, 1) := by decide +kernel
theorem dX7_onShowTo_8 : decode cX7_onShowTo 8 = .ok (.iload_n 1, 1) := by decide +kernel
theorem dX7_onShowTo_9 : decode cX7_onShowTo 9 = .ok (.aload_n 2, 1) := by decide +kernel
theorem dX7_onShowTo_10 : decode cX7_onShowTo 10 = .ok (.getfield 123, 3) := by decide +kernel
theorem dX7_onShowTo_13 : decode cX7_onShowTo 13 = .ok (.iconst 1, 1) := by decide +kernel
theorem dX7_onShowTo_14 : decode cX7_onShowTo 14 = .ok (.iaload, 1) := by decide +kernel
theorem dX7_onShowTo_15 : decode cX7_onShowTo 15 = .ok (.invokevirtual 126, 3) := by decide +kernel
theorem dX7_onShowTo_18 : decode cX7_onShowTo 18 = .ok (.ifCond .eq 14, 3) := by decide +kernel
theorem dX7_onShowTo_21 : decode cX7_onShowTo 21 = .ok (.aload_n 0, 1) := by decide +kernel
theorem dX7_onShowTo_22 : decode cX7_onShowTo 22 = .ok (.getfield 48, 3) := by decide +kernel
theorem dX7_onShowTo_25 : decode cX7_onShowTo 25 = .ok (.getfield 108, 3) := by decide +kernel
theorem dX7_onShowTo_28 : decode cX7_onShowTo 28 = .ok (.iload_n 3, 1) := by decide +kernel
theorem dX7_onShowTo_29 : decode cX7_onShowTo 29 = .ok (.if_icmp .ge 4, 3) := by decide +kernel
theorem dX7_onShowTo_32 : decode cX7_onShowTo 32 = .ok (.return_, 1) := by decide +kernel
theorem dX7_onShowTo_33 : decode cX7_onShowTo 33 = .ok (.aload_n 0, 1) := by decide +kernel
theorem dX7_onShowTo_34 : decode cX7_onShowTo 34 = .ok (.getfield 48, 3) := by decide +kernel
theorem dX7_onShowTo_37 : decode cX7_onShowTo 37 = .ok (.iload_n 3, 1) := by decide +kernel
theorem dX7_onShowTo_38 : decode cX7_onShowTo 38 = .ok (.invokevirtual 129, 3) := by decide +kernel
theorem dX7_onShowTo_41 : decode cX7_onShowTo 41 = .ok (.iload_n 3, 1) := by decide +kernel
theorem dX7_onShowTo_42 : decode cX7_onShowTo 42 = .ok (.aload_n 0, 1) := by decide +kernel
theorem dX7_onShowTo_43 : decode cX7_onShowTo 43 = .ok (.getfield 48, 3) := by decide +kernel
theorem dX7_onShowTo_46 : decode cX7_onShowTo 46 = .ok (.getfield 111, 3) := by decide +kernel
theorem dX7_onShowTo_49 : decode cX7_onShowTo 49 = .ok (.if_icmp .le 11, 3) := by decide +kernel
theorem dX7_onShowTo_52 : decode cX7_onShowTo 52 = .ok (.aload_n 0, 1) := by decide +kernel
theorem dX7_onShowTo_53 : decode cX7_onShowTo 53 = .ok (.getfield 48, 3) := by decide +kernel
theorem dX7_onShowTo_56 : decode cX7_onShowTo 56 = .ok (.iload_n 3, 1) := by decide +kernel
theorem dX7_onShowTo_57 : decode cX7_onShowTo 57 = .ok (.invokevirtual 140, 3) := by decide +kernel
theorem dX7_onShowTo_60 : decode cX7_onShowTo 60 = .ok (.aload_n 0, 1) := by decide +kernel
theorem dX7_onShowTo_61 : decode cX7_onShowTo 61 = .ok (.iload_n 1, 1) := by decide +kernel
theorem dX7_onShowTo_62 : decode cX7_onShowTo 62 = .ok (.invokevirtual 137, 3) := by decide +kernel
theorem dX7_onShowTo_65 : decode cX7_onShowTo 65 = .ok (.return_, 1) := by decide +kernel
theorem dX7_onSync_0 : decode cX7_onSync 0 = .ok (.aload_n 2, 1) := by decide +kernel
theorem dX7_onSync_1 : decode cX7_onSync 1 = .ok (.getfield 123, 3) := by decide +kernel
theorem dX7_onSync_4 : decode cX7_onSync 4 = .ok (.iconst 1, 1) := by decide +kernel
theorem dX7_onSync_5 : decode cX7_onSync 5 = .ok (.iaload, 1) := by decide +kernel
theorem dX7_onSync_6 : decode cX7_onSync 6 = .ok (.istore_n 3, 1) := by decide +kernel
theorem dX7_onSync_7 : decode cX7_onSync 7 = .ok (.iload_n 3, 1) := by decide +kernel
theorem dX7_onSync_8 : decode cX7_onSync 8 = .ok (.aload_n 0, 1) := by decide +kernel
theorem dX7_onSync_9 : decode cX7_onSync 9 = .ok (.getfield 48, 3) := by decide +kernel
theorem dX7_onSync_12 : decode cX7_onSync 12 = .ok (.getfield 105, 3) := by decide +kernel
theorem dX7_onSync_15 : decode cX7_onSync 15 = .ok (.if_icmp .lt 22, 3) := by decide +kernel
theorem dX7_onSync_18 : decode cX7_onSync 18 = .ok (.iload_n 3, 1) := by decide +kernel
theorem dX7_onSync_19 : decode cX7_onSync 19 = .ok (.aload_n 0, 1) := by decide +kernel
theorem dX7_onSync_20 : decode cX7_onSync 20 = .ok (.getfield 48, 3) := by decide +kernel
theorem dX7_onSync_23 : decode cX7_onSync 23 = .ok (.getfield 105, 3) := by decide +kernel
theorem dX7_onSync_26 : decode cX7_onSync 26 = .ok (.if_icmp .ne 12, 3) := by decide +kernel
theorem dX7_onSync_29 : decode cX7_onSync 29 = .ok (.aload_n 0, 1) := by decide +kernel
theorem dX7_onSync_30 : decode cX7_onSync 30 = .ok (.getfield 74, 3) := by decide +kernel
theorem dX7_onSync_33 : decode cX7_onSync 33 = .ok (.iconst 2, 1) := by decide +kernel
theorem dX7_onSync_34 : decode cX7_onSync 34 = .ok (.if_icmp .ne 4, 3) := by decide +kernel
theorem dX7_onSync_37 : decode cX7_onSync 37 = .ok (.return_, 1) := by decide +kernel
theorem dX7_onSync_38 : decode cX7_onSync 38 = .ok (.aload_n 0, 1) := by decide +kernel
theorem dX7_onSync_39 : decode cX7_onSync 39 = .ok (.getfield 74, 3) := by decide +kernel
theorem dX7_onSync_42 : decode cX7_onSync 42 = .ok (.iconst 2, 1) := by decide +kernel
theorem dX7_onSync_43 : decode cX7_onSync 43 = .ok (.if_icmp .ne 8, 3) := by decide +kernel
theorem dX7_onSync_46 : decode cX7_onSync 46 = .ok (.aload_n 0, 1) := by decide +kernel
theorem dX7_onSync_47 : decode cX7_onSync 47 = .ok (.iconst 1, 1) := by decide +kernel
theorem dX7_onSync_48 : decode cX7_onSync 48 = .ok (.invokevirtual 143, 3) := by decide +kernel
theorem dX7_onSync_51 : decode cX7_onSync 51 = .ok (.aload_n 0, 1) := by decide +kernel
theorem dX7_onSync_52 : decode cX7_onSync 52 = .ok (.getfield 48, 3) := by decide +kernel
theorem dX7_onSync_55 : decode cX7_onSync 55 = .ok (.aload_n 2, 1) := by decide +kernel
theorem dX7_onSync_56 : decode cX7_onSync 56 = .ok (.invokevirtual 146, 3) := by decide +kernel
theorem dX7_onSync_59 : decode cX7_onSync 59 = .ok (.aload_n 0, 1) := by decide +kernel
theorem dX7_onSync_60 : decode cX7_onSync 60 = .ok (.iload_n 1, 1) := by decide +kernel
theorem dX7_onSync_61 : decode cX7_onSync 61 = .ok (.invokevirtual 137, 3) := by decide +kernel
theorem dX7_onSync_64 : decode cX7_onSync 64 = .ok (.return_, 1) := by decide +kernel
theorem dX7_onConfig_0 : decode cX7_onConfig 0 = .ok (.aload_n 1, 1) := by decide +kernel
theorem dX7_onConfig_1 : decode cX7_onConfig 1 = .ok (.getfield 123, 3) := by decide +kernel
theorem dX7_onConfig_4 : decode cX7_onConfig 4 = .ok (.iconst 4, 1) := by decide +kernel
theorem dX7_onConfig_5 : decode cX7_onConfig 5 = .ok (.iaload, 1) := by decide +kernel
theorem dX7_onConfig_6 : decode cX7_onConfig 6 = .ok (.aload_n 0, 1) := by decide +kernel
theorem dX7_onConfig_7 : decode cX7_onConfig 7 = .ok (.getfield 9, 3) := by decide +kernel
theorem dX7_onConfig_10 : decode cX7_onConfig 10 = .ok (.iconst 3, 1) := by decide +kernel
theorem dX7_onConfig_11 : decode cX7_onConfig 11 = .ok (.iaload, 1) := by decide +kernel
theorem dX7_onConfig_12 : decode cX7_onConfig 12 = .ok (.if_icmp .gt 4, 3) := by decide +kernel
theorem dX7_onConfig_15 : decode cX7_onConfig 15 = .ok (.return_, 1) := by decide +kernel
theorem dX7_onConfig_16 : decode cX7_onConfig 16 = .ok (.aload_n 1, 1) := by decide +kernel
theorem dX7_onConfig_17 : decode cX7_onConfig 17 = .ok (.getfield 123, 3) := by decide +kernel
theorem dX7_onConfig_20 : decode cX7_onConfig 20 = .ok (.iconst 1, 1) := by decide +kernel
theorem dX7_onConfig_21 : decode cX7_onConfig 21 = .ok (.aload_n 0, 1) := by decide +kernel
theorem dX7_onConfig_22 : decode cX7_onConfig 22 = .ok (.getfield 9, 3) := by decide +kernel
theorem dX7_onConfig_25 : decode cX7_onConfig 25 = .ok (.iconst 0, 1) := by decide +kernel
theorem dX7_onConfig_26 : decode cX7_onConfig 26 = .ok (.iconst 4, 1) := by decide +kernel
theorem dX7_onConfig_27 : decode cX7_onConfig 27 = .ok (.invokestatic 150, 3) := by decide +kernel
theorem dX7_onConfig_30 : decode cX7_onConfig 30 = .ok (.aload_n 0, 1) := by decide +kernel
theorem dX7_onConfig_31 : decode cX7_onConfig 31 = .ok (.getfield 9, 3) := by decide +kernel
theorem dX7_onConfig_34 : decode cX7_onConfig 34 = .ok (.iconst 1, 1) := by decide +kernel
theorem dX7_onConfig_35 : decode cX7_onConfig 35 = .ok (.iaload, 1) := by decide +kernel
theorem dX7_onConfig_36 : decode cX7_onConfig 36 = .ok (.aload_n 0, 1) := by decide +kernel
theorem dX7_onConfig_37 : decode cX7_onConfig 37 = .ok (.getfield 58, 3) := by decide +kernel
theorem dX7_onConfig_40 : decode cX7_onConfig 40 = .ok (.if_icmp .ne 65, 3) := by decide +kernel
theorem dX7_onConfig_43 : decode cX7_onConfig 43 = .ok (.aload_n 0, 1) := by decide +kernel
theorem dX7_onConfig_44 : decode cX7_onConfig 44 = .ok (.getfield 74, 3) := by decide +kernel
theorem dX7_onConfig_47 : decode cX7_onConfig 47 = .ok (.iconst 2, 1) := by decide +kernel
theorem dX7_onConfig_48 : decode cX7_onConfig 48 = .ok (.if_icmp .ne 26, 3) := by decide +kernel
theorem dX7_onConfig_51 : decode cX7_onConfig 51 = .ok (.aload_n 0, 1) := by decide +kernel
theorem dX7_onConfig_52 : decode cX7_onConfig 52 = .ok (.getfield 48, 3) := by decide +kernel
theorem dX7_onConfig_55 : decode cX7_onConfig 55 = .ok (.getfield 105, 3) := by decide +kernel
theorem dX7_onConfig_58 : decode cX7_onConfig 58 = .ok (.aload_n 0, 1) := by decide +kernel
theorem dX7_onConfig_59 : decode cX7_onConfig 59 = .ok (.getfield 9, 3) := by decide +kernel
theorem dX7_onConfig_62 : decode cX7_onConfig 62 = .ok (.iconst 0, 1) := by decide +kernel
theorem dX7_onConfig_63 : decode cX7_onConfig 63 = .ok (.iaload, 1) := by decide +kernel
theorem dX7_onConfig_64 : decode cX7_onConfig 64 = .ok (.if_icmp .ne 10, 3) := by decide +kernel
theorem dX7_onConfig_67 : decode cX7_onConfig 67 = .ok (.aload_n 0, 1) := by decide +kernel
theorem dX7_onConfig_68 : decode cX7_onConfig 68 = .ok (.invokevirtual 156, 3) := by decide +kernel
theorem dX7_onConfig_71 : decode cX7_onConfig 71 = .ok (.goto 62, 3) := by decide +kernel
theorem dX7_onConfig_74 : decode cX7_onConfig 74 = .ok (.aload_n 0, 1) := by decide +kernel
theorem dX7_onConfig_75 : decode cX7_onConfig 75 = .ok (.getfield 9, 3) := by decide +kernel
theorem dX7_onConfig_78 : decode cX7_onConfig 78 = .ok (.iconst 0, 1) := by decide +kernel
theorem dX7_onConfig_79 : decode cX7_onConfig 79 = .ok (.iaload, 1) := by decide +kernel
theorem dX7_onConfig_80 : decode cX7_onConfig 80 = .ok (.aload_n 0, 1) := by decide +kernel
theorem dX7_onConfig_81 : decode cX7_onConfig 81 = .ok (.getfield 48, 3) := by decide +kernel
theorem dX7_onConfig_84 : decode cX7_onConfig 84 = .ok (.getfield 105, 3) := by decide +kernel
theorem dX7_onConfig_87 : decode cX7_onConfig 87 = .ok (.if_icmp .le 10, 3) := by decide +kernel
theorem dX7_onConfig_90 : decode cX7_onConfig 90 = .ok (.aload_n 0, 1) := by decide +kernel
theorem dX7_onConfig_91 : decode cX7_onConfig 91 = .ok (.invokevirtual 159, 3) := by decide +kernel
theorem dX7_onConfig_94 : decode cX7_onConfig 94 = .ok (.goto 39, 3) := by decide +kernel
theorem dX7_onConfig_97 : decode cX7_onConfig 97 = .ok (.aload_n 0, 1) := by decide +kernel
theorem dX7_onConfig_98 : decode cX7_onConfig 98 = .ok (.iconst 1, 1) := by decide +kernel
theorem dX7_onConfig_99 : decode cX7_onConfig 99 = .ok (.invokevirtual 143, 3) := by decide +kernel
theorem dX7_onConfig_102 : decode cX7_onConfig 102 = .ok (.goto 31, 3) := by decide +kernel
theorem dX7_onConfig_105 : decode cX7_onConfig 105 = .ok (.aload_n 0, 1) := by decide +kernel
theorem dX7_onConfig_106 : decode cX7_onConfig 106 = .ok (.aload_n 0, 1) := by decide +kernel
theorem dX7_onConfig_107 : decode cX7_onConfig 107 = .ok (.getfield 58, 3) := by decide +kernel
theorem dX7_onConfig_110 : decode cX7_onConfig 110 = .ok (.invokevirtual 162, 3) := by decide +kernel
theorem dX7_onConfig_113 : decode cX7_onConfig 113 = .ok (.ifCond .eq 11, 3) := by decide +kernel
theorem dX7_onConfig_116 : decode cX7_onConfig 116 = .ok (.aload_n 0, 1) := by decide +kernel
theorem dX7_onConfig_117 : decode cX7_onConfig 117 = .ok (.iconst 1, 1) := by decide +kernel
theorem dX7_onConfig_118 : decode cX7_onConfig 118 = .ok (.invokevirtual 143, 3) := by decide +kernel
theorem dX7_onConfig_121 : decode cX7_onConfig 121 = .ok (.goto 12, 3) := by decide +kernel
theorem dX7_onConfig_124 : decode cX7_onConfig 124 = .ok (.aload_n 0, 1) := by decide +kernel
theorem dX7_onConfig_125 : decode cX7_onConfig 125 = .ok (.iconst 0, 1) := by decide +kernel
theorem dX7_onConfig_126 : decode cX7_onConfig 126 = .ok (.invokevirtual 143, 3) := by decide +kernel
theorem dX7_onConfig_129 : decode cX7_onConfig 129 = .ok (.aload_n 0, 1) := by decide +kernel
theorem dX7_onConfig_130 : decode cX7_onConfig 130 = .ok (.invokevirtual 165, 3) := by decide +kernel
theorem dX7_onConfig_133 : decode cX7_onConfig 133 = .ok (.return_, 1) := by decide +kernel
theorem dX7_become_0 : decode cX7_become 0 = .ok (.aload_n 0, 1) := by decide +kernel
theorem dX7_become_1 : decode cX7_become 1 = .ok (.getfield 48, 3) := by decide +kernel
theorem dX7_become_4 : decode cX7_become 4 = .ok (.aload_n 0, 1) := by decide +kernel
theorem dX7_become_5 : decode cX7_become 5 = .ok (.getfield 48, 3) := by decide +kernel
theorem dX7_become_8 : decode cX7_become 8 = .ok (.getfield 108, 3) := by decide +kernel
theorem dX7_become_11 : decode cX7_become 11 = .ok (.aload_n 0, 1) := by decide +kernel
theorem dX7_become_12 : decode cX7_become 12 = .ok (.getfield 9, 3) := by decide +kernel
theorem dX7_become_15 : decode cX7_become 15 = .ok (.iconst 0, 1) := by decide +kernel
theorem dX7_become_16 : decode cX7_become 16 = .ok (.iaload, 1) := by decide +kernel
theorem dX7_become_17 : decode cX7_become 17 = .ok (.invokevirtual 168, 3) := by decide +kernel
theorem dX7_become_20 : decode cX7_become 20 = .ok (.aload_n 0, 1) := by decide +kernel
theorem dX7_become_21 : decode cX7_become 21 = .ok (.iconst 2, 1) := by decide +kernel
theorem dX7_become_22 : decode cX7_become 22 = .ok (.putfield 74, 3) := by decide +kernel
theorem dX7_become_25 : decode cX7_become 25 = .ok (.aload_n 0, 1) := by decide +kernel
theorem dX7_become_26 : decode cX7_become 26 = .ok (.iconst 0, 1) := by decide +kernel
theorem dX7_become_27 : decode cX7_become 27 = .ok (.putfield 77, 3) := by decide +kernel
theorem dX7_become_30 : decode cX7_become 30 = .ok (.iconst 0, 1) := by decide +kernel
theorem dX7_become_31 : decode cX7_become 31 = .ok (.istore_n 1, 1) := by decide +kernel
theorem dX7_become_32 : decode cX7_become 32 = .ok (.iload_n 1, 1) := by decide +kernel
theorem dX7_become_33 : decode cX7_become 33 = .ok (.aload_n 0, 1) := by decide +kernel
theorem dX7_become_34 : decode cX7_become 34 = .ok (.getfield 39, 3) := by decide +kernel
theorem dX7_become_37 : decode cX7_become 37 = .ok (.getfield 171, 3) := by decide +kernel
theorem dX7_become_40 : decode cX7_become 40 = .ok (.if_icmp .ge 50, 3) := by decide +kernel
theorem dX7_become_43 : decode cX7_become 43 = .ok (.aload_n 0, 1) := by decide +kernel
theorem dX7_become_44 : decode cX7_become 44 = .ok (.iload_n 1, 1) := by decide +kernel
theorem dX7_become_45 : decode cX7_become 45 = .ok (.aload_n 0, 1) := by decide +kernel
theorem dX7_become_46 : decode cX7_become 46 = .ok (.iload_n 1, 1) := by decide +kernel
theorem dX7_become_47 : decode cX7_become 47 = .ok (.invokevirtual 83, 3) := by decide +kernel
theorem dX7_become_50 : decode cX7_become 50 = .ok (.ifCond .eq 15, 3) := by decide +kernel
theorem dX7_become_53 : decode cX7_become 53 = .ok (.aload_n 0, 1) := by decide +kernel
theorem dX7_become_54 : decode cX7_become 54 = .ok (.iload_n 1, 1) := by decide +kernel
theorem dX7_become_55 : decode cX7_become 55 = .ok (.invokevirtual 162, 3) := by decide +kernel
theorem dX7_become_58 : decode cX7_become 58 = .ok (.ifCond .eq 7, 3) := by decide +kernel
theorem dX7_become_61 : decode cX7_become 61 = .ok (.iconst 3, 1) := by decide +kernel
theorem dX7_become_62 : decode cX7_become 62 = .ok (.goto 4, 3) := by decide +kernel
theorem dX7_become_65 : decode cX7_become 65 = .ok (.iconst 0, 1) := by decide +kernel
theorem dX7_become_66 : decode cX7_become 66 = .ok (.iconst (-1), 1) := by decide +kernel
theorem dX7_become_67 : decode cX7_become 67 = .ok (.aload_n 0, 1) := by decide +kernel
theorem dX7_become_68 : decode cX7_become 68 = .ok (.getfield 39, 3) := by decide +kernel
theorem dX7_become_71 : decode cX7_become 71 = .ok (.getfield 120, 3) := by decide +kernel
theorem dX7_become_74 : decode cX7_become 74 = .ok (.invokevirtual 87, 3) := by decide +kernel
theorem dX7_become_77 : decode cX7_become 77 = .ok (.aload_n 0, 1) := by decide +kernel
theorem dX7_become_78 : decode cX7_become 78 = .ok (.getfield 30, 3) := by decide +kernel
theorem dX7_become_81 : decode cX7_become 81 = .ok (.iload_n 1, 1) := by decide +kernel
theorem dX7_become_82 : decode cX7_become 82 = .ok (.iconst 0, 1) := by decide +kernel
theorem dX7_become_83 : decode cX7_become 83 = .ok (.iastore, 1) := by decide +kernel
theorem dX7_become_84 : decode cX7_become 84 = .ok (.iinc 1 1, 3) := by decide +kernel
theorem dX7_become_87 : decode cX7_become 87 = .ok (.goto (-55), 3) := by decide +kernel
theorem dX7_become_90 : decode cX7_become 90 = .ok (.iconst 0, 1) := by decide +kernel
theorem dX7_become_91 : decode cX7_become 91 = .ok (.istore_n 1, 1) := by decide +kernel
theorem dX7_become_92 : decode cX7_become 92 = .ok (.iload_n 1, 1) := by decide +kernel
theorem dX7_become_93 : decode cX7_become 93 = .ok (.aload_n 0, 1) := by decide +kernel
theorem dX7_become_94 : decode cX7_become 94 = .ok (.getfield 39, 3) := by decide +kernel
theorem dX7_become_97 : decode cX7_become 97 = .ok (.getfield 171, 3) := by decide +kernel
theorem dX7_become_100 : decode cX7_become 100 = .ok (.if_icmp .ge 24, 3) := by decide +kernel
theorem dX7_become_103 : decode cX7_become 103 = .ok (.aload_n 0, 1) := by decide +kernel
theorem dX7_become_104 : decode cX7_become 104 = .ok (.getfield 15, 3) := by decide +kernel
theorem dX7_become_107 : decode cX7_become 107 = .ok (.iload_n 1, 1) := by decide +kernel
theorem dX7_become_108 : decode cX7_become 108 = .ok (.iaload, 1) := by decide +kernel
theorem dX7_become_109 : decode cX7_become 109 = .ok (.iconst 3, 1) := by decide +kernel
theorem dX7_become_110 : decode cX7_become 110 = .ok (.if_icmp .ne 8, 3) := by decide +kernel
theorem dX7_become_113 : decode cX7_become 113 = .ok (.aload_n 0, 1) := by decide +kernel
theorem dX7_become_114 : decode cX7_become 114 = .ok (.iload_n 1, 1) := by decide +kernel
theorem dX7_become_115 : decode cX7_become 115 = .ok (.invokevirtual 174, 3) := by decide +kernel
theorem dX7_become_118 : decode cX7_become 118 = .ok (.iinc 1 1, 3) := by decide +kernel
theorem dX7_become_121 : decode cX7_become 121 = .ok (.goto (-29), 3) := by decide +kernel
theorem dX7_become_124 : decode cX7_become 124 = .ok (.aload_n 0, 1) := by decide +kernel
theorem dX7_become_125 : decode cX7_become 125 = .ok (.invokevirtual 177, 3) := by decide +kernel
theorem dX7_become_128 : decode cX7_become 128 = .ok (.return_, 1) := by decide +kernel
theorem dX7_adjust_0 : decode cX7_adjust 0 = .ok (.iconst 0, 1) := by decide +kernel
theorem dX7_adjust_1 : decode cX7_adjust 1 = .ok (.istore_n 1, 1) := by decide +kernel
theorem dX7_adjust_2 : decode cX7_adjust 2 = .ok (.iload_n 1, 1) := by decide +kernel
theorem dX7_adjust_3 : decode cX7_adjust 3 = .ok (.aload_n 0, 1) := by decide +kernel
theorem dX7_adjust_4 : decode cX7_adjust 4 = .ok (.getfield 39, 3) := by decide +kernel
theorem dX7_adjust_7 : decode cX7_adjust 7 = .ok (.getfield 171, 3) := by decide +kernel
theorem dX7_adjust_10 : decode cX7_adjust 10 = .ok (.if_icmp .ge 115, 3) := by decide +kernel
theorem dX7_adjust_13 : decode cX7_adjust 13 = .ok (.aload_n 0, 1) := by decide +kernel
theorem dX7_adjust_14 : decode cX7_adjust 14 = .ok (.iload_n 1, 1) := by decide +kernel
theorem dX7_adjust_15 : decode cX7_adjust 15 = .ok (.invokevirtual 83, 3) := by decide +kernel
theorem dX7_adjust_18 : decode cX7_adjust 18 = .ok (.ifCond .ne 6, 3) := by decide +kernel
theorem dX7_adjust_21 : decode cX7_adjust 21 = .ok (.goto 98, 3) := by decide +kernel
theorem dX7_adjust_24 : decode cX7_adjust 24 = .ok (.aload_n 0, 1) := by decide +kernel
theorem dX7_adjust_25 : decode cX7_adjust 25 = .ok (.iload_n 1, 1) := by decide +kernel
theorem dX7_adjust_26 : decode cX7_adjust 26 = .ok (.invokevirtual 162, 3) := by decide +kernel
theorem dX7_adjust_29 : decode cX7_adjust 29 = .ok (.ifCond .ne 32, 3) := by decide +kernel
theorem dX7_adjust_32 : decode cX7_adjust 32 = .ok (.aload_n 0, 1) := by decide +kernel
theorem dX7_adjust_33 : decode cX7_adjust 33 = .ok (.getfield 15, 3) := by decide +kernel
theorem dX7_adjust_36 : decode cX7_adjust 36 = .ok (.iload_n 1, 1) := by decide +kernel
theorem dX7_adjust_37 : decode cX7_adjust 37 = .ok (.aload_n 0, 1) := by decide +kernel
theorem dX7_adjust_38 : decode cX7_adjust 38 = .ok (.getfield 15, 3) := by decide +kernel
theorem dX7_adjust_41 : decode cX7_adjust 41 = .ok (.iload_n 1, 1) := by decide +kernel
theorem dX7_adjust_42 : decode cX7_adjust 42 = .ok (.iaload, 1) := by decide +kernel
theorem dX7_adjust_43 : decode cX7_adjust 43 = .ok (.iconst 3, 1) := by decide +kernel
theorem dX7_adjust_44 : decode cX7_adjust 44 = .ok (.if_icmp .ne 7, 3) := by decide +kernel
theorem dX7_adjust_47 : decode cX7_adjust 47 = .ok (.iconst 0, 1) := by decide +kernel
theorem dX7_adjust_48 : decode cX7_adjust 48 = .ok (.goto 9, 3) := by decide +kernel
theorem dX7_adjust_51 : decode cX7_adjust 51 = .ok (.aload_n 0, 1) := by decide +kernel
theorem dX7_adjust_52 : decode cX7_adjust 52 = .ok (.getfield 15, 3) := by decide +kernel
theorem dX7_adjust_55 : decode cX7_adjust 55 = .ok (.iload_n 1, 1) := by decide +kernel
theorem dX7_adjust_56 : decode cX7_adjust 56 = .ok (.iaload, 1) := by decide +kernel
theorem dX7_adjust_57 : decode cX7_adjust 57 = .ok (.iastore, 1) := by decide +kernel
theorem dX7_adjust_58 : decode cX7_adjust 58 = .ok (.goto 61, 3) := by decide +kernel
theorem dX7_adjust_61 : decode cX7_adjust 61 = .ok (.aload_n 0, 1) := by decide +kernel
theorem dX7_adjust_62 : decode cX7_adjust 62 = .ok (.getfield 15, 3) := by decide +kernel
theorem dX7_adjust_65 : decode cX7_adjust 65 = .ok (.iload_n 1, 1) := by decide +kernel
theorem dX7_adjust_66 : decode cX7_adjust 66 = .ok (.iaload, 1) := by decide +kernel
theorem dX7_adjust_67 : decode cX7_adjust 67 = .ok (.ifCond .ne 25, 3) := by decide +kernel
theorem dX7_adjust_70 : decode cX7_adjust 70 = .ok (.aload_n 0, 1) := by decide +kernel
theorem dX7_adjust_71 : decode cX7_adjust 71 = .ok (.iload_n 1, 1) := by decide +kernel
theorem dX7_adjust_72 : decode cX7_adjust 72 = .ok (.iconst 3, 1) := by decide +kernel
theorem dX7_adjust_73 : decode cX7_adjust 73 = .ok (.iconst (-1), 1) := by decide +kernel
theorem dX7_adjust_74 : decode cX7_adjust 74 = .ok (.aload_n 0, 1) := by decide +kernel
theorem dX7_adjust_75 : decode cX7_adjust 75 = .ok (.getfield 39, 3) := by decide +kernel
theorem dX7_adjust_78 : decode cX7_adjust 78 = .ok (.getfield 120, 3) := by decide +kernel
theorem dX7_adjust_81 : decode cX7_adjust 81 = .ok (.invokevirtual 87, 3) := by decide +kernel
theorem dX7_adjust_84 : decode cX7_adjust 84 = .ok (.aload_n 0, 1) := by decide +kernel
theorem dX7_adjust_85 : decode cX7_adjust 85 = .ok (.iload_n 1, 1) := by decide +kernel
theorem dX7_adjust_86 : decode cX7_adjust 86 = .ok (.invokevirtual 174, 3) := by decide +kernel
theorem dX7_adjust_89 : decode cX7_adjust 89 = .ok (.goto 30, 3) := by decide +kernel
theorem dX7_adjust_92 : decode cX7_adjust 92 = .ok (.aload_n 0, 1) := by decide +kernel
theorem dX7_adjust_93 : decode cX7_adjust 93 = .ok (.getfield 15, 3) := by decide +kernel
theorem dX7_adjust_96 : decode cX7_adjust 96 = .ok (.iload_n 1, 1) := by decide +kernel
theorem dX7_adjust_97 : decode cX7_adjust 97 = .ok (.iaload, 1) := by decide +kernel
theorem dX7_adjust_98 : decode cX7_adjust 98 = .ok (.iconst 1, 1) := by decide +kernel
theorem dX7_adjust_99 : decode cX7_adjust 99 = .ok (.if_icmp .eq 13, 3) := by decide +kernel
theorem dX7_adjust_102 : decode cX7_adjust 102 = .ok (.aload_n 0, 1) := by decide +kernel
theorem dX7_adjust_103 : decode cX7_adjust 103 = .ok (.getfield 15, 3) := by decide +kernel
theorem dX7_adjust_106 : decode cX7_adjust 106 = .ok (.iload_n 1, 1) := by decide +kernel
theorem dX7_adjust_107 : decode cX7_adjust 107 = .ok (.iaload, 1) := by decide +kernel
theorem dX7_adjust_108 : decode cX7_adjust 108 = .ok (.iconst 2, 1) := by decide +kernel
theorem dX7_adjust_109 : decode cX7_adjust 109 = .ok (.if_icmp .ne 10, 3) := by decide +kernel
theorem dX7_adjust_112 : decode cX7_adjust 112 = .ok (.aload_n 0, 1) := by decide +kernel
theorem dX7_adjust_113 : decode cX7_adjust 113 = .ok (.getfield 15, 3) := by decide +kernel
theorem dX7_adjust_116 : decode cX7_adjust 116 = .ok (.iload_n 1, 1) := by decide +kernel
theorem dX7_adjust_117 : decode cX7_adjust 117 = .ok (.iconst 3, 1) := by decide +kernel
theorem dX7_adjust_118 : decode cX7_adjust 118 = .ok (.iastore, 1) := by decide +kernel
theorem dX7_adjust_119 : decode cX7_adjust 119 = .ok (.iinc 1 1, 3) := by decide +kernel
theorem dX7_adjust_122 : decode cX7_adjust 122 = .ok (.goto (-120), 3) := by decide +kernel
theorem dX7_adjust_125 : decode cX7_adjust 125 = .ok (.aload_n 0, 1) := by decide +kernel
theorem dX7_adjust_126 : decode cX7_adjust 126 = .ok (.invokevirtual 177, 3) := by decide +kernel
theorem dX7_adjust_129 : decode cX7_adjust 129 = .ok (.return_, 1) := by decide +kernel
theorem dX7_syncWith_0 : decode cX7_syncWith 0 = .ok (.aload_n 0, 1) := by decide +kernel
theorem dX7_syncWith_1 : decode cX7_syncWith 1 = .ok (.getfield 39, 3) := by decide +kernel
theorem dX7_syncWith_4 : decode cX7_syncWith 4 = .ok (.aload_n 0, 1) := by decide +kernel
theorem dX7_syncWith_5 : decode cX7_syncWith 5 = .ok (.getfield 58, 3) := by decide +kernel
theorem dX7_syncWith_8 : decode cX7_syncWith 8 = .ok (.iload_n 1, 1) := by decide +kernel
theorem dX7_syncWith_9 : decode cX7_syncWith 9 = .ok (.bipush 8, 2) := by decide +kernel
theorem dX7_syncWith_11 : decode cX7_syncWith 11 = .ok (.invokevirtual 101, 3) := by decide +kernel
theorem dX7_syncWith_14 : decode cX7_syncWith 14 = .ok (.astore_n 2, 1) := by decide +kernel
theorem dX7_syncWith_15 : decode cX7_syncWith 15 = .ok (.aload_n 2, 1) := by decide +kernel
theorem dX7_syncWith_16 : decode cX7_syncWith 16 = .ok (.aload_n 0, 1) := by decide +kernel
theorem dX7_syncWith_17 : decode cX7_syncWith 17 = .ok (.getfield 48, 3) := by decide +kernel
theorem dX7_syncWith_20 : decode cX7_syncWith 20 = .ok (.getfield 94, 3) := by decide +kernel
theorem dX7_syncWith_23 : decode cX7_syncWith 23 = .ok (.aload_n 0, 1) := by decide +kernel
theorem dX7_syncWith_24 : decode cX7_syncWith 24 = .ok (.getfield 48, 3) := by decide +kernel
theorem dX7_syncWith_27 : decode cX7_syncWith 27 = .ok (.getfield 105, 3) := by decide +kernel
theorem dX7_syncWith_30 : decode cX7_syncWith 30 = .ok (.aload_n 0, 1) := by decide +kernel
theorem dX7_syncWith_31 : decode cX7_syncWith 31 = .ok (.getfield 48, 3) := by decide +kernel
theorem dX7_syncWith_34 : decode cX7_syncWith 34 = .ok (.getfield 180, 3) := by decide +kernel
theorem dX7_syncWith_37 : decode cX7_syncWith 37 = .ok (.aload_n 0, 1) := by decide +kernel
theorem dX7_syncWith_38 : decode cX7_syncWith 38 = .ok (.getfield 48, 3) := by decide +kernel
theorem dX7_syncWith_41 : decode cX7_syncWith 41 = .ok (.getfield 183, 3) := by decide +kernel
theorem dX7_syncWith_44 : decode cX7_syncWith 44 = .ok (.aload_n 0, 1) := by decide +kernel
theorem dX7_syncWith_45 : decode cX7_syncWith 45 = .ok (.getfield 48, 3) := by decide +kernel
theorem dX7_syncWith_48 : decode cX7_syncWith 48 = .ok (.getfield 108, 3) := by decide +kernel
theorem dX7_syncWith_51 : decode cX7_syncWith 51 = .ok (.invokevirtual 114, 3) := by decide +kernel
theorem dX7_syncWith_54 : decode cX7_syncWith 54 = .ok (.pop, 1) := by decide +kernel
theorem dX7_syncWith_55 : decode cX7_syncWith 55 = .ok (.aload_n 2, 1) := by decide +kernel
theorem dX7_syncWith_56 : decode cX7_syncWith 56 = .ok (.getfield 123, 3) := by decide +kernel
theorem dX7_syncWith_59 : decode cX7_syncWith 59 = .ok (.iconst 5, 1) := by decide +kernel
theorem dX7_syncWith_60 : decode cX7_syncWith 60 = .ok (.aload_n 0, 1) := by decide +kernel
theorem dX7_syncWith_61 : decode cX7_syncWith 61 = .ok (.getfield 48, 3) := by decide +kernel
theorem dX7_syncWith_64 : decode cX7_syncWith 64 = .ok (.getfield 111, 3) := by decide +kernel
theorem dX7_syncWith_67 : decode cX7_syncWith 67 = .ok (.iastore, 1) := by decide +kernel
theorem dX7_syncWith_68 : decode cX7_syncWith 68 = .ok (.aload_n 2, 1) := by decide +kernel
theorem dX7_syncWith_69 : decode cX7_syncWith 69 = .ok (.aload_n 0, 1) := by decide +kernel
theorem dX7_syncWith_70 : decode cX7_syncWith 70 = .ok (.getfield 48, 3) := by decide +kernel
theorem dX7_syncWith_73 : decode cX7_syncWith 73 = .ok (.invokevirtual 186, 3) := by decide +kernel
theorem dX7_syncWith_76 : decode cX7_syncWith 76 = .ok (.aload_n 0, 1) := by decide +kernel
theorem dX7_syncWith_77 : decode cX7_syncWith 77 = .ok (.getfield 27, 3) := by decide +kernel
theorem dX7_syncWith_80 : decode cX7_syncWith 80 = .ok (.iload_n 1, 1) := by decide +kernel
theorem dX7_syncWith_81 : decode cX7_syncWith 81 = .ok (.aload_n 0, 1) := by decide +kernel
theorem dX7_syncWith_82 : decode cX7_syncWith 82 = .ok (.getfield 39, 3) := by decide +kernel
theorem dX7_syncWith_85 : decode cX7_syncWith 85 = .ok (.getfield 120, 3) := by decide +kernel
theorem dX7_syncWith_88 : decode cX7_syncWith 88 = .ok (.iastore, 1) := by decide +kernel
theorem dX7_syncWith_89 : decode cX7_syncWith 89 = .ok (.return_, 1) := by decide +kernel
theorem dX7_settle_0 : decode cX7_settle 0 = .ok (.aload_n 0, 1) := by decide +kernel
theorem dX7_settle_1 : decode cX7_settle 1 = .ok (.getfield 48, 3) := by decide +kernel
theorem dX7_settle_4 : decode cX7_settle 4 = .ok (.getfield 108, 3) := by decide +kernel
theorem dX7_settle_7 : decode cX7_settle 7 = .ok (.istore_n 1, 1) := by decide +kernel
theorem dX7_settle_8 : decode cX7_settle 8 = .ok (.iconst 0, 1) := by decide +kernel
theorem dX7_settle_9 : decode cX7_settle 9 = .ok (.istore_n 2, 1) := by decide +kernel
theorem dX7_settle_10 : decode cX7_settle 10 = .ok (.iload_n 2, 1) := by decide +kernel
theorem dX7_settle_11 : decode cX7_settle 11 = .ok (.aload_n 0, 1) := by decide +kernel
theorem dX7_settle_12 : decode cX7_settle 12 = .ok (.getfield 39, 3) := by decide +kernel
theorem dX7_settle_15 : decode cX7_settle 15 = .ok (.getfield 171, 3) := by decide +kernel
theorem dX7_settle_18 : decode cX7_settle 18 = .ok (.if_icmp .ge 30, 3) := by decide +kernel
theorem dX7_settle_21 : decode cX7_settle 21 = .ok (.aload_n 0, 1) := by decide +kernel
theorem dX7_settle_22 : decode cX7_settle 22 = .ok (.getfield 15, 3) := by decide +kernel
theorem dX7_settle_25 : decode cX7_settle 25 = .ok (.iload_n 2, 1) := by decide +kernel
theorem dX7_settle_26 : decode cX7_settle 26 = .ok (.iaload, 1) := by decide +kernel
theorem dX7_settle_27 : decode cX7_settle 27 = .ok (.iconst 2, 1) := by decide +kernel
theorem dX7_settle_28 : decode cX7_settle 28 = .ok (.if_icmp .lt 14, 3) := by decide +kernel
theorem dX7_settle_31 : decode cX7_settle 31 = .ok (.iload_n 1, 1) := by decide +kernel
theorem dX7_settle_32 : decode cX7_settle 32 = .ok (.aload_n 0, 1) := by decide +kernel
theorem dX7_settle_33 : decode cX7_settle 33 = .ok (.getfield 18, 3) := by decide +kernel
theorem dX7_settle_36 : decode cX7_settle 36 = .ok (.iload_n 2, 1) := by decide +kernel
theorem dX7_settle_37 : decode cX7_settle 37 = .ok (.iaload, 1) := by decide +kernel
theorem dX7_settle_38 : decode cX7_settle 38 = .ok (.invokestatic 190, 3) := by decide +kernel
theorem dX7_settle_41 : decode cX7_settle 41 = .ok (.istore_n 1, 1) := by decide +kernel
theorem dX7_settle_42 : decode cX7_settle 42 = .ok (.iinc 2 1, 3) := by decide +kernel
theorem dX7_settle_45 : decode cX7_settle 45 = .ok (.goto (-35), 3) := by decide +kernel
theorem dX7_settle_48 : decode cX7_settle 48 = .ok (.aload_n 0, 1) := by decide +kernel
theorem dX7_settle_49 : decode cX7_settle 49 = .ok (.getfield 48, 3) := by decide +kernel
theorem dX7_settle_52 : decode cX7_settle 52 = .ok (.getfield 183, 3) := by decide +kernel
theorem dX7_settle_55 : decode cX7_settle 55 = .ok (.iconst 1, 1) := by decide +kernel
theorem dX7_settle_56 : decode cX7_settle 56 = .ok (.iadd, 1) := by decide +kernel
theorem dX7_settle_57 : decode cX7_settle 57 = .ok (.istore_n 2, 1) := by decide +kernel
theorem dX7_settle_58 : decode cX7_settle 58 = .ok (.iload_n 2, 1) := by decide +kernel
theorem dX7_settle_59 : decode cX7_settle 59 = .ok (.iload_n 1, 1) := by decide +kernel
theorem dX7_settle_60 : decode cX7_settle 60 = .ok (.if_icmp .gt 36, 3) := by decide +kernel
theorem dX7_settle_63 : decode cX7_settle 63 = .ok (.aload_n 0, 1) := by decide +kernel
theorem dX7_settle_64 : decode cX7_settle 64 = .ok (.getfield 48, 3) := by decide +kernel
theorem dX7_settle_67 : decode cX7_settle 67 = .ok (.iload_n 2, 1) := by decide +kernel
theorem dX7_settle_68 : decode cX7_settle 68 = .ok (.putfield 183, 3) := by decide +kernel
theorem dX7_settle_71 : decode cX7_settle 71 = .ok (.aload_n 0, 1) := by decide +kernel
theorem dX7_settle_72 : decode cX7_settle 72 = .ok (.getfield 39, 3) := by decide +kernel
theorem dX7_settle_75 : decode cX7_settle 75 = .ok (.aload_n 0, 1) := by decide +kernel
theorem dX7_settle_76 : decode cX7_settle 76 = .ok (.getfield 58, 3) := by decide +kernel
theorem dX7_settle_79 : decode cX7_settle 79 = .ok (.aload_n 0, 1) := by decide +kernel
theorem dX7_settle_80 : decode cX7_settle 80 = .ok (.getfield 48, 3) := by decide +kernel
theorem dX7_settle_83 : decode cX7_settle 83 = .ok (.iload_n 2, 1) := by decide +kernel
theorem dX7_settle_84 : decode cX7_settle 84 = .ok (.invokevirtual 196, 3) := by decide +kernel
theorem dX7_settle_87 : decode cX7_settle 87 = .ok (.invokevirtual 199, 3) := by decide +kernel
theorem dX7_settle_90 : decode cX7_settle 90 = .ok (.iinc 2 1, 3) := by decide +kernel
theorem dX7_settle_93 : decode cX7_settle 93 = .ok (.goto (-35), 3) := by decide +kernel
theorem dX7_settle_96 : decode cX7_settle 96 = .ok (.iconst 0, 1) := by decide +kernel
theorem dX7_settle_97 : decode cX7_settle 97 = .ok (.istore_n 2, 1) := by decide +kernel
theorem dX7_settle_98 : decode cX7_settle 98 = .ok (.iconst 0, 1) := by decide +kernel
theorem dX7_settle_99 : decode cX7_settle 99 = .ok (.istore_n 3, 1) := by decide +kernel
theorem dX7_settle_100 : decode cX7_settle 100 = .ok (.iload_n 3, 1) := by decide +kernel
theorem dX7_settle_101 : decode cX7_settle 101 = .ok (.aload_n 0, 1) := by decide +kernel
theorem dX7_settle_102 : decode cX7_settle 102 = .ok (.getfield 77, 3) := by decide +kernel
theorem dX7_settle_105 : decode cX7_settle 105 = .ok (.if_icmp .ge 69, 3) := by decide +kernel
theorem dX7_settle_108 : decode cX7_settle 108 = .ok (.aload_n 0, 1) := by decide +kernel
theorem dX7_settle_109 : decode cX7_settle 109 = .ok (.aload_n 0, 1) := by decide +kernel
theorem dX7_settle_110 : decode cX7_settle 110 = .ok (.getfield 36, 3) := by decide +kernel
theorem dX7_settle_113 : decode cX7_settle 113 = .ok (.iload_n 3, 1) := by decide +kernel
theorem dX7_settle_114 : decode cX7_settle 114 = .ok (.iaload, 1) := by decide +kernel
theorem dX7_settle_115 : decode cX7_settle 115 = .ok (.invokevirtual 202, 3) := by decide +kernel
theorem dX7_settle_118 : decode cX7_settle 118 = .ok (.ifCond .eq 23, 3) := by decide +kernel
theorem dX7_settle_121 : decode cX7_settle 121 = .ok (.aload_n 0, 1) := by decide +kernel
theorem dX7_settle_122 : decode cX7_settle 122 = .ok (.getfield 39, 3) := by decide +kernel
theorem dX7_settle_125 : decode cX7_settle 125 = .ok (.aload_n 0, 1) := by decide +kernel
theorem dX7_settle_126 : decode cX7_settle 126 = .ok (.getfield 58, 3) := by decide +kernel
theorem dX7_settle_129 : decode cX7_settle 129 = .ok (.aload_n 0, 1) := by decide +kernel
theorem dX7_settle_130 : decode cX7_settle 130 = .ok (.getfield 33, 3) := by decide +kernel
theorem dX7_settle_133 : decode cX7_settle 133 = .ok (.iload_n 3, 1) := by decide +kernel
theorem dX7_settle_134 : decode cX7_settle 134 = .ok (.iaload, 1) := by decide +kernel
theorem dX7_settle_135 : decode cX7_settle 135 = .ok (.invokevirtual 199, 3) := by decide +kernel
theorem dX7_settle_138 : decode cX7_settle 138 = .ok (.goto 30, 3) := by decide +kernel
theorem dX7_settle_141 : decode cX7_settle 141 = .ok (.aload_n 0, 1) := by decide +kernel
theorem dX7_settle_142 : decode cX7_settle 142 = .ok (.getfield 33, 3) := by decide +kernel
theorem dX7_settle_145 : decode cX7_settle 145 = .ok (.iload_n 2, 1) := by decide +kernel
theorem dX7_settle_146 : decode cX7_settle 146 = .ok (.aload_n 0, 1) := by decide +kernel
theorem dX7_settle_147 : decode cX7_settle 147 = .ok (.getfield 33, 3) := by decide +kernel
theorem dX7_settle_150 : decode cX7_settle 150 = .ok (.iload_n 3, 1) := by decide +kernel
theorem dX7_settle_151 : decode cX7_settle 151 = .ok (.iaload, 1) := by decide +kernel
theorem dX7_settle_152 : decode cX7_settle 152 = .ok (.iastore, 1) := by decide +kernel
theorem dX7_settle_153 : decode cX7_settle 153 = .ok (.aload_n 0, 1) := by decide +kernel
theorem dX7_settle_154 : decode cX7_settle 154 = .ok (.getfield 36, 3) := by decide +kernel
theorem dX7_settle_157 : decode cX7_settle 157 = .ok (.iload_n 2, 1) := by decide +kernel
theorem dX7_settle_158 : decode cX7_settle 158 = .ok (.aload_n 0, 1) := by decide +kernel
theorem dX7_settle_159 : decode cX7_settle 159 = .ok (.getfield 36, 3) := by decide +kernel
theorem dX7_settle_162 : decode cX7_settle 162 = .ok (.iload_n 3, 1) := by decide +kernel
theorem dX7_settle_163 : decode cX7_settle 163 = .ok (.iaload, 1) := by decide +kernel
theorem dX7_settle_164 : decode cX7_settle 164 = .ok (.iastore, 1) := by decide +kernel
theorem dX7_settle_165 : decode cX7_settle 165 = .ok (.iinc 2 1, 3) := by decide +kernel
theorem dX7_settle_168 : decode cX7_settle 168 = .ok (.iinc 3 1, 3) := by decide +kernel
theorem dX7_settle_171 : decode cX7_settle 171 = .ok (.goto (-71), 3) := by decide +kernel
theorem dX7_settle_174 : decode cX7_settle 174 = .ok (.aload_n 0, 1) := by decide +kernel
theorem dX7_settle_175 : decode cX7_settle 175 = .ok (.iload_n 2, 1) := by decide +kernel
theorem dX7_settle_176 : decode cX7_settle 176 = .ok (.putfield 77, 3) := by decide +kernel
theorem dX7_settle_179 : decode cX7_settle 179 = .ok (.return_, 1) := by decide +kernel
theorem dX7_isSeen_0 : decode cX7_isSeen 0 = .ok (.iload_n 1, 1) := by decide +kernel
theorem dX7_isSeen_1 : decode cX7_isSeen 1 = .ok (.aload_n 0, 1) := by decide +kernel
theorem dX7_isSeen_2 : decode cX7_isSeen 2 = .ok (.getfield 48, 3) := by decide +kernel
theorem dX7_isSeen_5 : decode cX7_isSeen 5 = .ok (.getfield 111, 3) := by decide +kernel
theorem dX7_isSeen_8 : decode cX7_isSeen 8 = .ok (.if_icmp .gt 7, 3) := by decide +kernel
theorem dX7_isSeen_11 : decode cX7_isSeen 11 = .ok (.iconst 1, 1) := by decide +kernel
theorem dX7_isSeen_12 : decode cX7_isSeen 12 = .ok (.goto 4, 3) := by decide +kernel
theorem dX7_isSeen_15 : decode cX7_isSeen 15 = .ok (.iconst 0, 1) := by decide +kernel
theorem dX7_isSeen_16 : decode cX7_isSeen 16 = .ok (.istore_n 2, 1) := by decide +kernel
theorem dX7_isSeen_17 : decode cX7_isSeen 17 = .ok (.iconst 0, 1) := by decide +kernel
theorem dX7_isSeen_18 : decode cX7_isSeen 18 = .ok (.istore_n 3, 1) := by decide +kernel
theorem dX7_isSeen_19 : decode cX7_isSeen 19 = .ok (.iload_n 3, 1) := by decide +kernel
theorem dX7_isSeen_20 : decode cX7_isSeen 20 = .ok (.aload_n 0, 1) := by decide +kernel
theorem dX7_isSeen_21 : decode cX7_isSeen 21 = .ok (.getfield 39, 3) := by decide +kernel
theorem dX7_isSeen_24 : decode cX7_isSeen 24 = .ok (.getfield 171, 3) := by decide +kernel
theorem dX7_isSeen_27 : decode cX7_isSeen 27 = .ok (.if_icmp .ge 31, 3) := by decide +kernel
theorem dX7_isSeen_30 : decode cX7_isSeen 30 = .ok (.aload_n 0, 1) := by decide +kernel
theorem dX7_isSeen_31 : decode cX7_isSeen 31 = .ok (.getfield 15, 3) := by decide +kernel
theorem dX7_isSeen_34 : decode cX7_isSeen 34 = .ok (.iload_n 3, 1) := by decide +kernel
theorem dX7_isSeen_35 : decode cX7_isSeen 35 = .ok (.iaload, 1) := by decide +kernel
theorem dX7_isSeen_36 : decode cX7_isSeen 36 = .ok (.iconst 2, 1) := by decide +kernel
theorem dX7_isSeen_37 : decode cX7_isSeen 37 = .ok (.if_icmp .lt 15, 3) := by decide +kernel
theorem dX7_isSeen_40 : decode cX7_isSeen 40 = .ok (.aload_n 0, 1) := by decide +kernel
theorem dX7_isSeen_41 : decode cX7_isSeen 41 = .ok (.getfield 21, 3) := by decide +kernel
theorem dX7_isSeen_44 : decode cX7_isSeen 44 = .ok (.iload_n 3, 1) := by decide +kernel
theorem dX7_isSeen_45 : decode cX7_isSeen 45 = .ok (.iaload, 1) := by decide +kernel
theorem dX7_isSeen_46 : decode cX7_isSeen 46 = .ok (.iload_n 1, 1) := by decide +kernel
theorem dX7_isSeen_47 : decode cX7_isSeen 47 = .ok (.if_icmp .ge 5, 3) := by decide +kernel
theorem dX7_isSeen_50 : decode cX7_isSeen 50 = .ok (.iconst 0, 1) := by decide +kernel
theorem dX7_isSeen_51 : decode cX7_isSeen 51 = .ok (.istore_n 2, 1) := by decide +kernel
theorem dX7_isSeen_52 : decode cX7_isSeen 52 = .ok (.iinc 3 1, 3) := by decide +kernel
theorem dX7_isSeen_55 : decode cX7_isSeen 55 = .ok (.goto (-36), 3) := by decide +kernel
theorem dX7_isSeen_58 : decode cX7_isSeen 58 = .ok (.iload_n 2, 1) := by decide +kernel
theorem dX7_isSeen_59 : decode cX7_isSeen 59 = .ok (.ireturn, 1) := by decide +kernel
theorem dX7_onWrite_0 : decode cX7_onWrite 0 = .ok (.aload_n 2, 1) := by decide +kernel
theorem dX7_onWrite_1 : decode cX7_onWrite 1 = .ok (.getfield 123, 3) := by decide +kernel
theorem dX7_onWrite_4 : decode cX7_onWrite 4 = .ok (.iconst 0, 1) := by decide +kernel
theorem dX7_onWrite_5 : decode cX7_onWrite 5 = .ok (.iaload, 1) := by decide +kernel
theorem dX7_onWrite_6 : decode cX7_onWrite 6 = .ok (.istore_n 3, 1) := by decide +kernel
theorem dX7_onWrite_7 : decode cX7_onWrite 7 = .ok (.aload_n 0, 1) := by decide +kernel
theorem dX7_onWrite_8 : decode cX7_onWrite 8 = .ok (.getfield 74, 3) := by decide +kernel
theorem dX7_onWrite_11 : decode cX7_onWrite 11 = .ok (.iconst 2, 1) := by decide +kernel
theorem dX7_onWrite_12 : decode cX7_onWrite 12 = .ok (.if_icmp .eq 17, 3) := by decide +kernel
theorem dX7_onWrite_15 : decode cX7_onWrite 15 = .ok (.aload_n 0, 1) := by decide +kernel
theorem dX7_onWrite_16 : decode cX7_onWrite 16 = .ok (.getfield 39, 3) := by decide +kernel
theorem dX7_onWrite_19 : decode cX7_onWrite 19 = .ok (.aload_n 0, 1) := by decide +kernel
theorem dX7_onWrite_20 : decode cX7_onWrite 20 = .ok (.getfield 58, 3) := by decide +kernel
theorem dX7_onWrite_23 : decode cX7_onWrite 23 = .ok (.iload_n 1, 1) := by decide +kernel
theorem dX7_onWrite_24 : decode cX7_onWrite 24 = .ok (.aload_n 2, 1) := by decide +kernel
theorem dX7_onWrite_25 : decode cX7_onWrite 25 = .ok (.invokevirtual 205, 3) := by decide +kernel
theorem dX7_onWrite_28 : decode cX7_onWrite 28 = .ok (.return_, 1) := by decide +kernel
theorem dX7_onWrite_29 : decode cX7_onWrite 29 = .ok (.aload_n 0, 1) := by decide +kernel
theorem dX7_onWrite_30 : decode cX7_onWrite 30 = .ok (.getfield 48, 3) := by decide +kernel
theorem dX7_onWrite_33 : decode cX7_onWrite 33 = .ok (.iload_n 3, 1) := by decide +kernel
theorem dX7_onWrite_34 : decode cX7_onWrite 34 = .ok (.invokevirtual 209, 3) := by decide +kernel
theorem dX7_onWrite_37 : decode cX7_onWrite 37 = .ok (.istore 4, 2) := by decide +kernel
theorem dX7_onWrite_39 : decode cX7_onWrite 39 = .ok (.iload 4, 2) := by decide +kernel
theorem dX7_onWrite_41 : decode cX7_onWrite 41 = .ok (.iconst (-1), 1) := by decide +kernel
theorem dX7_onWrite_42 : decode cX7_onWrite 42 = .ok (.if_icmp .eq 38, 3) := by decide +kernel
theorem dX7_onWrite_45 : decode cX7_onWrite 45 = .ok (.iload 4, 2) := by decide +kernel
theorem dX7_onWrite_47 : decode cX7_onWrite 47 = .ok (.aload_n 0, 1) := by decide +kernel
theorem dX7_onWrite_48 : decode cX7_onWrite 48 = .ok (.getfield 48, 3) := by decide +kernel
theorem dX7_onWrite_51 : decode cX7_onWrite 51 = .ok (.getfield 183, 3) := by decide +kernel
theorem dX7_onWrite_54 : decode cX7_onWrite 54 = .ok (.if_icmp .gt 25, 3) := by decide +kernel
theorem dX7_onWrite_57 : decode cX7_onWrite 57 = .ok (.aload_n 0, 1) := by decide +kernel
theorem dX7_onWrite_58 : decode cX7_onWrite 58 = .ok (.getfield 39, 3) := by decide +kernel
theorem dX7_onWrite_61 : decode cX7_onWrite 61 = .ok (.aload_n 0, 1) := by decide +kernel
theorem dX7_onWrite_62 : decode cX7_onWrite 62 = .ok (.getfield 58, 3) := by decide +kernel
theorem dX7_onWrite_65 : decode cX7_onWrite 65 = .ok (.iload_n 1, 1) := by decide +kernel
theorem dX7_onWrite_66 : decode cX7_onWrite 66 = .ok (.iconst 5, 1) := by decide +kernel
theorem dX7_onWrite_67 : decode cX7_onWrite 67 = .ok (.invokevirtual 101, 3) := by decide +kernel
theorem dX7_onWrite_70 : decode cX7_onWrite 70 = .ok (.iload_n 3, 1) := by decide +kernel
theorem dX7_onWrite_71 : decode cX7_onWrite 71 = .ok (.iconst 0, 1) := by decide +kernel
theorem dX7_onWrite_72 : decode cX7_onWrite 72 = .ok (.iconst 0, 1) := by decide +kernel
theorem dX7_onWrite_73 : decode cX7_onWrite 73 = .ok (.iconst 0, 1) := by decide +kernel
theorem dX7_onWrite_74 : decode cX7_onWrite 74 = .ok (.iconst 0, 1) := by decide +kernel
theorem dX7_onWrite_75 : decode cX7_onWrite 75 = .ok (.invokevirtual 114, 3) := by decide +kernel
theorem dX7_onWrite_78 : decode cX7_onWrite 78 = .ok (.pop, 1) := by decide +kernel
theorem dX7_onWrite_79 : decode cX7_onWrite 79 = .ok (.return_, 1) := by decide +kernel
theorem dX7_onWrite_80 : decode cX7_onWrite 80 = .ok (.aload_n 0, 1) := by decide +kernel
theorem dX7_onWrite_81 : decode cX7_onWrite 81 = .ok (.getfield 48, 3) := by decide +kernel
theorem dX7_onWrite_84 : decode cX7_onWrite 84 = .ok (.getfield 108, 3) := by decide +kernel
theorem dX7_onWrite_87 : decode cX7_onWrite 87 = .ok (.aload_n 0, 1) := by decide +kernel
theorem dX7_onWrite_88 : decode cX7_onWrite 88 = .ok (.getfield 48, 3) := by decide +kernel
theorem dX7_onWrite_91 : decode cX7_onWrite 91 = .ok (.getfield 183, 3) := by decide +kernel
theorem dX7_onWrite_94 : decode cX7_onWrite 94 = .ok (.isub, 1) := by decide +kernel
theorem dX7_onWrite_95 : decode cX7_onWrite 95 = .ok (.bipush 30, 2) := by decide +kernel
theorem dX7_onWrite_97 : decode cX7_onWrite 97 = .ok (.if_icmp .lt 17, 3) := by decide +kernel
theorem dX7_onWrite_100 : decode cX7_onWrite 100 = .ok (.aload_n 0, 1) := by decide +kernel
theorem dX7_onWrite_101 : decode cX7_onWrite 101 = .ok (.getfield 39, 3) := by decide +kernel
theorem dX7_onWrite_104 : decode cX7_onWrite 104 = .ok (.aload_n 0, 1) := by decide +kernel
theorem dX7_onWrite_105 : decode cX7_onWrite 105 = .ok (.getfield 58, 3) := by decide +kernel
theorem dX7_onWrite_108 : decode cX7_onWrite 108 = .ok (.iload_n 1, 1) := by decide +kernel
theorem dX7_onWrite_109 : decode cX7_onWrite 109 = .ok (.aload_n 2, 1) := by decide +kernel
theorem dX7_onWrite_110 : decode cX7_onWrite 110 = .ok (.invokevirtual 205, 3) := by decide +kernel
theorem dX7_onWrite_113 : decode cX7_onWrite 113 = .ok (.return_, 1) := by decide +kernel
theorem dX7_onWrite_114 : decode cX7_onWrite 114 = .ok (.aload_n 0, 1) := by decide +kernel
theorem dX7_onWrite_115 : decode cX7_onWrite 115 = .ok (.getfield 48, 3) := by decide +kernel
theorem dX7_onWrite_118 : decode cX7_onWrite 118 = .ok (.iload_n 3, 1) := by decide +kernel
theorem dX7_onWrite_119 : decode cX7_onWrite 119 = .ok (.aload_n 0, 1) := by decide +kernel
theorem dX7_onWrite_120 : decode cX7_onWrite 120 = .ok (.getfield 48, 3) := by decide +kernel
theorem dX7_onWrite_123 : decode cX7_onWrite 123 = .ok (.getfield 105, 3) := by decide +kernel
theorem dX7_onWrite_126 : decode cX7_onWrite 126 = .ok (.invokevirtual 133, 3) := by decide +kernel
theorem dX7_onWrite_129 : decode cX7_onWrite 129 = .ok (.iconst 0, 1) := by decide +kernel
theorem dX7_onWrite_130 : decode cX7_onWrite 130 = .ok (.istore 5, 2) := by decide +kernel
theorem dX7_onWrite_132 : decode cX7_onWrite 132 = .ok (.iload 5, 2) := by decide +kernel
theorem dX7_onWrite_134 : decode cX7_onWrite 134 = .ok (.aload_n 0, 1) := by decide +kernel
theorem dX7_onWrite_135 : decode cX7_onWrite 135 = .ok (.getfield 39, 3) := by decide +kernel
theorem dX7_onWrite_138 : decode cX7_onWrite 138 = .ok (.getfield 171, 3) := by decide +kernel
theorem dX7_onWrite_141 : decode cX7_onWrite 141 = .ok (.if_icmp .ge 42, 3) := by decide +kernel
theorem dX7_onWrite_144 : decode cX7_onWrite 144 = .ok (.aload_n 0, 1) := by decide +kernel
theorem dX7_onWrite_145 : decode cX7_onWrite 145 = .ok (.iload 5, 2) := by decide +kernel
theorem dX7_onWrite_147 : decode cX7_onWrite 147 = .ok (.invokevirtual 212, 3) := by decide +kernel
theorem dX7_onWrite_150 : decode cX7_onWrite 150 = .ok (.ifCond .eq 27, 3) := by decide +kernel
theorem dX7_onWrite_153 : decode cX7_onWrite 153 = .ok (.aload_n 0, 1) := by decide +kernel
theorem dX7_onWrite_154 : decode cX7_onWrite 154 = .ok (.getfield 18, 3) := by decide +kernel
theorem dX7_onWrite_157 : decode cX7_onWrite 157 = .ok (.iload 5, 2) := by decide +kernel
theorem dX7_onWrite_159 : decode cX7_onWrite 159 = .ok (.iaload, 1) := by decide +kernel
theorem dX7_onWrite_160 : decode cX7_onWrite 160 = .ok (.iconst (-1), 1) := by decide +kernel
theorem dX7_onWrite_161 : decode cX7_onWrite 161 = .ok (.if_icmp .eq 16, 3) := by decide +kernel
theorem dX7_onWrite_164 : decode cX7_onWrite 164 = .ok (.aload_n 0, 1) := by decide +kernel
theorem dX7_onWrite_165 : decode cX7_onWrite 165 = .ok (.iload 5, 2) := by decide +kernel
theorem dX7_onWrite_167 : decode cX7_onWrite 167 = .ok (.aload_n 0, 1) := by decide +kernel
theorem dX7_onWrite_168 : decode cX7_onWrite 168 = .ok (.getfield 48, 3) := by decide +kernel
theorem dX7_onWrite_171 : decode cX7_onWrite 171 = .ok (.getfield 108, 3) := by decide +kernel
theorem dX7_onWrite_174 : decode cX7_onWrite 174 = .ok (.invokevirtual 215, 3) := by decide +kernel
theorem dX7_onWrite_177 : decode cX7_onWrite 177 = .ok (.iinc 5 1, 3) := by decide +kernel
theorem dX7_onWrite_180 : decode cX7_onWrite 180 = .ok (.goto (-48), 3) := by decide +kernel
theorem dX7_onWrite_183 : decode cX7_onWrite 183 = .ok (.aload_n 0, 1) := by decide +kernel
theorem dX7_onWrite_184 : decode cX7_onWrite 184 = .ok (.invokevirtual 177, 3) := by decide +kernel
theorem dX7_onWrite_187 : decode cX7_onWrite 187 = .ok (.return_, 1) := by decide +kernel
theorem dX7_sendRepl_0 : decode cX7_sendRepl 0 = .ok (.aload_n 0, 1) := by decide +kernel
theorem dX7_sendRepl_1 : decode cX7_sendRepl 1 = .ok (.getfield 39, 3) := by decide +kernel
theorem dX7_sendRepl_4 : decode cX7_sendRepl 4 = .ok (.aload_n 0, 1) := by decide +kernel
theorem dX7_sendRepl_5 : decode cX7_sendRepl 5 = .ok (.getfield 58, 3) := by decide +kernel
theorem dX7_sendRepl_8 : decode cX7_sendRepl 8 = .ok (.iload_n 1, 1) := by decide +kernel
theorem dX7_sendRepl_9 : decode cX7_sendRepl 9 = .ok (.bipush 6, 2) := by decide +kernel
theorem dX7_sendRepl_11 : decode cX7_sendRepl 11 = .ok (.invokevirtual 101, 3) := by decide +kernel
theorem dX7_sendRepl_14 : decode cX7_sendRepl 14 = .ok (.aload_n 0, 1) := by decide +kernel
theorem dX7_sendRepl_15 : decode cX7_sendRepl 15 = .ok (.getfield 48, 3) := by decide +kernel
theorem dX7_sendRepl_18 : decode cX7_sendRepl 18 = .ok (.getfield 94, 3) := by decide +kernel
theorem dX7_sendRepl_21 : decode cX7_sendRepl 21 = .ok (.aload_n 0, 1) := by decide +kernel
theorem dX7_sendRepl_22 : decode cX7_sendRepl 22 = .ok (.getfield 48, 3) := by decide +kernel
theorem dX7_sendRepl_25 : decode cX7_sendRepl 25 = .ok (.getfield 105, 3) := by decide +kernel
theorem dX7_sendRepl_28 : decode cX7_sendRepl 28 = .ok (.iload_n 2, 1) := by decide +kernel
theorem dX7_sendRepl_29 : decode cX7_sendRepl 29 = .ok (.aload_n 0, 1) := by decide +kernel
theorem dX7_sendRepl_30 : decode cX7_sendRepl 30 = .ok (.getfield 48, 3) := by decide +kernel
theorem dX7_sendRepl_33 : decode cX7_sendRepl 33 = .ok (.iload_n 2, 1) := by decide +kernel
theorem dX7_sendRepl_34 : decode cX7_sendRepl 34 = .ok (.invokevirtual 196, 3) := by decide +kernel
theorem dX7_sendRepl_37 : decode cX7_sendRepl 37 = .ok (.aload_n 0, 1) := by decide +kernel
theorem dX7_sendRepl_38 : decode cX7_sendRepl 38 = .ok (.getfield 48, 3) := by decide +kernel
theorem dX7_sendRepl_41 : decode cX7_sendRepl 41 = .ok (.getfield 183, 3) := by decide +kernel
theorem dX7_sendRepl_44 : decode cX7_sendRepl 44 = .ok (.invokevirtual 114, 3) := by decide +kernel
theorem dX7_sendRepl_47 : decode cX7_sendRepl 47 = .ok (.pop, 1) := by decide +kernel
theorem dX7_sendRepl_48 : decode cX7_sendRepl 48 = .ok (.return_, 1) := by decide +kernel
theorem dX7_sendShowTo_0 : decode cX7_sendShowTo 0 = .ok (.aload_n 0, 1) := by decide +kernel
theorem dX7_sendShowTo_1 : decode cX7_sendShowTo 1 = .ok (.getfield 39, 3) := by decide +kernel
theorem dX7_sendShowTo_4 : decode cX7_sendShowTo 4 = .ok (.aload_n 0, 1) := by decide +kernel
theorem dX7_sendShowTo_5 : decode cX7_sendShowTo 5 = .ok (.getfield 58, 3) := by decide +kernel
theorem dX7_sendShowTo_8 : decode cX7_sendShowTo 8 = .ok (.iload_n 1, 1) := by decide +kernel
theorem dX7_sendShowTo_9 : decode cX7_sendShowTo 9 = .ok (.bipush 18, 2) := by decide +kernel
theorem dX7_sendShowTo_11 : decode cX7_sendShowTo 11 = .ok (.invokevirtual 101, 3) := by decide +kernel
theorem dX7_sendShowTo_14 : decode cX7_sendShowTo 14 = .ok (.aload_n 0, 1) := by decide +kernel
theorem dX7_sendShowTo_15 : decode cX7_sendShowTo 15 = .ok (.getfield 48, 3) := by decide +kernel
theorem dX7_sendShowTo_18 : decode cX7_sendShowTo 18 = .ok (.getfield 94, 3) := by decide +kernel
theorem dX7_sendShowTo_21 : decode cX7_sendShowTo 21 = .ok (.aload_n 0, 1) := by decide +kernel
theorem dX7_sendShowTo_22 : decode cX7_sendShowTo 22 = .ok (.getfield 48, 3) := by decide +kernel
theorem dX7_sendShowTo_25 : decode cX7_sendShowTo 25 = .ok (.getfield 105, 3) := by decide +kernel
theorem dX7_sendShowTo_28 : decode cX7_sendShowTo 28 = .ok (.aload_n 0, 1) := by decide +kernel
theorem dX7_sendShowTo_29 : decode cX7_sendShowTo 29 = .ok (.getfield 48, 3) := by decide +kernel
theorem dX7_sendShowTo_32 : decode cX7_sendShowTo 32 = .ok (.getfield 111, 3) := by decide +kernel
theorem dX7_sendShowTo_35 : decode cX7_sendShowTo 35 = .ok (.iconst 0, 1) := by decide +kernel
theorem dX7_sendShowTo_36 : decode cX7_sendShowTo 36 = .ok (.iconst 0, 1) := by decide +kernel
theorem dX7_sendShowTo_37 : decode cX7_sendShowTo 37 = .ok (.invokevirtual 114, 3) := by decide +kernel
theorem dX7_sendShowTo_40 : decode cX7_sendShowTo 40 = .ok (.pop, 1) := by decide +kernel
theorem dX7_sendShowTo_41 : decode cX7_sendShowTo 41 = .ok (.return_, 1) := by decide +kernel
theorem dX7_sendAdd_0 : decode cX7_sendAdd 0 = .ok (.aload_n 0, 1) := by decide +kernel
theorem dX7_sendAdd_1 : decode cX7_sendAdd 1 = .ok (.getfield 39, 3) := by decide +kernel
theorem dX7_sendAdd_4 : decode cX7_sendAdd 4 = .ok (.aload_n 0, 1) := by decide +kernel
theorem dX7_sendAdd_5 : decode cX7_sendAdd 5 = .ok (.getfield 58, 3) := by decide +kernel
theorem dX7_sendAdd_8 : decode cX7_sendAdd 8 = .ok (.aload_n 0, 1) := by decide +kernel
theorem dX7_sendAdd_9 : decode cX7_sendAdd 9 = .ok (.getfield 39, 3) := by decide +kernel
theorem dX7_sendAdd_12 : decode cX7_sendAdd 12 = .ok (.getfield 171, 3) := by decide +kernel
theorem dX7_sendAdd_15 : decode cX7_sendAdd 15 = .ok (.bipush 11, 2) := by decide +kernel
theorem dX7_sendAdd_17 : decode cX7_sendAdd 17 = .ok (.invokevirtual 101, 3) := by decide +kernel
theorem dX7_sendAdd_20 : decode cX7_sendAdd 20 = .ok (.aload_n 0, 1) := by decide +kernel
theorem dX7_sendAdd_21 : decode cX7_sendAdd 21 = .ok (.getfield 48, 3) := by decide +kernel
theorem dX7_sendAdd_24 : decode cX7_sendAdd 24 = .ok (.getfield 94, 3) := by decide +kernel
theorem dX7_sendAdd_27 : decode cX7_sendAdd 27 = .ok (.aload_n 0, 1) := by decide +kernel
theorem dX7_sendAdd_28 : decode cX7_sendAdd 28 = .ok (.getfield 48, 3) := by decide +kernel
theorem dX7_sendAdd_31 : decode cX7_sendAdd 31 = .ok (.getfield 105, 3) := by decide +kernel
theorem dX7_sendAdd_34 : decode cX7_sendAdd 34 = .ok (.iload_n 1, 1) := by decide +kernel
theorem dX7_sendAdd_35 : decode cX7_sendAdd 35 = .ok (.aload_n 0, 1) := by decide +kernel
theorem dX7_sendAdd_36 : decode cX7_sendAdd 36 = .ok (.getfield 9, 3) := by decide +kernel
theorem dX7_sendAdd_39 : decode cX7_sendAdd 39 = .ok (.iconst 3, 1) := by decide +kernel
theorem dX7_sendAdd_40 : decode cX7_sendAdd 40 = .ok (.iaload, 1) := by decide +kernel
theorem dX7_sendAdd_41 : decode cX7_sendAdd 41 = .ok (.iconst 0, 1) := by decide +kernel
theorem dX7_sendAdd_42 : decode cX7_sendAdd 42 = .ok (.invokevirtual 114, 3) := by decide +kernel
theorem dX7_sendAdd_45 : decode cX7_sendAdd 45 = .ok (.pop, 1) := by decide +kernel
theorem dX7_sendAdd_46 : decode cX7_sendAdd 46 = .ok (.aload_n 0, 1) := by decide +kernel
theorem dX7_sendAdd_47 : decode cX7_sendAdd 47 = .ok (.getfield 27, 3) := by decide +kernel
theorem dX7_sendAdd_50 : decode cX7_sendAdd 50 = .ok (.iload_n 1, 1) := by decide +kernel
theorem dX7_sendAdd_51 : decode cX7_sendAdd 51 = .ok (.aload_n 0, 1) := by decide +kernel
theorem dX7_sendAdd_52 : decode cX7_sendAdd 52 = .ok (.getfield 39, 3) := by decide +kernel
theorem dX7_sendAdd_55 : decode cX7_sendAdd 55 = .ok (.getfield 120, 3) := by decide +kernel
theorem dX7_sendAdd_58 : decode cX7_sendAdd 58 = .ok (.iastore, 1) := by decide +kernel
theorem dX7_sendAdd_59 : decode cX7_sendAdd 59 = .ok (.return_, 1) := by decide +kernel
theorem dX7_sendFail_0 : decode cX7_sendFail 0 = .ok (.aload_n 0, 1) := by decide +kernel
theorem dX7_sendFail_1 : decode cX7_sendFail 1 = .ok (.getfield 39, 3) := by decide +kernel
theorem dX7_sendFail_4 : decode cX7_sendFail 4 = .ok (.aload_n 0, 1) := by decide +kernel
theorem dX7_sendFail_5 : decode cX7_sendFail 5 = .ok (.getfield 58, 3) := by decide +kernel
theorem dX7_sendFail_8 : decode cX7_sendFail 8 = .ok (.aload_n 0, 1) := by decide +kernel
theorem dX7_sendFail_9 : decode cX7_sendFail 9 = .ok (.getfield 39, 3) := by decide +kernel
theorem dX7_sendFail_12 : decode cX7_sendFail 12 = .ok (.getfield 171, 3) := by decide +kernel
theorem dX7_sendFail_15 : decode cX7_sendFail 15 = .ok (.bipush 12, 2) := by decide +kernel
theorem dX7_sendFail_17 : decode cX7_sendFail 17 = .ok (.invokevirtual 101, 3) := by decide +kernel
theorem dX7_sendFail_20 : decode cX7_sendFail 20 = .ok (.aload_n 0, 1) := by decide +kernel
theorem dX7_sendFail_21 : decode cX7_sendFail 21 = .ok (.getfield 48, 3) := by decide +kernel
theorem dX7_sendFail_24 : decode cX7_sendFail 24 = .ok (.getfield 94, 3) := by decide +kernel
theorem dX7_sendFail_27 : decode cX7_sendFail 27 = .ok (.aload_n 0, 1) := by decide +kernel
theorem dX7_sendFail_28 : decode cX7_sendFail 28 = .ok (.getfield 48, 3) := by decide +kernel
theorem dX7_sendFail_31 : decode cX7_sendFail 31 = .ok (.getfield 105, 3) := by decide +kernel
theorem dX7_sendFail_34 : decode cX7_sendFail 34 = .ok (.iload_n 1, 1) := by decide +kernel
theorem dX7_sendFail_35 : decode cX7_sendFail 35 = .ok (.aload_n 0, 1) := by decide +kernel
theorem dX7_sendFail_36 : decode cX7_sendFail 36 = .ok (.getfield 30, 3) := by decide +kernel
theorem dX7_sendFail_39 : decode cX7_sendFail 39 = .ok (.iload_n 1, 1) := by decide +kernel
theorem dX7_sendFail_40 : decode cX7_sendFail 40 = .ok (.iaload, 1) := by decide +kernel
theorem dX7_sendFail_41 : decode cX7_sendFail 41 = .ok (.iconst 0, 1) := by decide +kernel
theorem dX7_sendFail_42 : decode cX7_sendFail 42 = .ok (.invokevirtual 114, 3) := by decide +kernel
theorem dX7_sendFail_45 : decode cX7_sendFail 45 = .ok (.pop, 1) := by decide +kernel
theorem dX7_sendFail_46 : decode cX7_sendFail 46 = .ok (.aload_n 0, 1) := by decide +kernel
theorem dX7_sendFail_47 : decode cX7_sendFail 47 = .ok (.getfield 24, 3) := by decide +kernel
theorem dX7_sendFail_50 : decode cX7_sendFail 50 = .ok (.iload_n 1, 1) := by decide +kernel
theorem dX7_sendFail_51 : decode cX7_sendFail 51 = .ok (.aload_n 0, 1) := by decide +kernel
theorem dX7_sendFail_52 : decode cX7_sendFail 52 = .ok (.getfield 39, 3) := by decide +kernel
theorem dX7_sendFail_55 : decode cX7_sendFail 55 = .ok (.getfield 120, 3) := by decide +kernel
theorem dX7_sendFail_58 : decode cX7_sendFail 58 = .ok (.iastore, 1) := by decide +kernel
theorem dX7_sendFail_59 : decode cX7_sendFail 59 = .ok (.return_, 1) := by decide +kernel
theorem dX7_onAck_0 : decode cX7_onAck 0 = .ok (.aload_n 0, 1) := by decide +kernel
theorem dX7_onAck_1 : decode cX7_onAck 1 = .ok (.iload_n 1, 1) := by decide +kernel
theorem dX7_onAck_2 : decode cX7_onAck 2 = .ok (.invokevirtual 212, 3) := by decide +kernel
theorem dX7_onAck_5 : decode cX7_onAck 5 = .ok (.ifCond .eq 19, 3) := by decide +kernel
theorem dX7_onAck_8 : decode cX7_onAck 8 = .ok (.aload_n 2, 1) := by decide +kernel
theorem dX7_onAck_9 : decode cX7_onAck 9 = .ok (.getfield 123, 3) := by decide +kernel
theorem dX7_onAck_12 : decode cX7_onAck 12 = .ok (.iconst 1, 1) := by decide +kernel
theorem dX7_onAck_13 : decode cX7_onAck 13 = .ok (.iaload, 1) := by decide +kernel
theorem dX7_onAck_14 : decode cX7_onAck 14 = .ok (.aload_n 0, 1) := by decide +kernel
theorem dX7_onAck_15 : decode cX7_onAck 15 = .ok (.getfield 48, 3) := by decide +kernel
theorem dX7_onAck_18 : decode cX7_onAck 18 = .ok (.getfield 105, 3) := by decide +kernel
theorem dX7_onAck_21 : decode cX7_onAck 21 = .ok (.if_icmp .eq 4, 3) := by decide +kernel
theorem dX7_onAck_24 : decode cX7_onAck 24 = .ok (.return_, 1) := by decide +kernel
theorem dX7_onAck_25 : decode cX7_onAck 25 = .ok (.aload_n 0, 1) := by decide +kernel
theorem dX7_onAck_26 : decode cX7_onAck 26 = .ok (.getfield 18, 3) := by decide +kernel
theorem dX7_onAck_29 : decode cX7_onAck 29 = .ok (.iload_n 1, 1) := by decide +kernel
theorem dX7_onAck_30 : decode cX7_onAck 30 = .ok (.aload_n 2, 1) := by decide +kernel
theorem dX7_onAck_31 : decode cX7_onAck 31 = .ok (.getfield 123, 3) := by decide +kernel
theorem dX7_onAck_34 : decode cX7_onAck 34 = .ok (.iconst 2, 1) := by decide +kernel
theorem dX7_onAck_35 : decode cX7_onAck 35 = .ok (.iaload, 1) := by decide +kernel
theorem dX7_onAck_36 : decode cX7_onAck 36 = .ok (.iastore, 1) := by decide +kernel
theorem dX7_onAck_37 : decode cX7_onAck 37 = .ok (.aload_n 0, 1) := by decide +kernel
theorem dX7_onAck_38 : decode cX7_onAck 38 = .ok (.getfield 21, 3) := by decide +kernel
theorem dX7_onAck_41 : decode cX7_onAck 41 = .ok (.iload_n 1, 1) := by decide +kernel
theorem dX7_onAck_42 : decode cX7_onAck 42 = .ok (.aload_n 2, 1) := by decide +kernel
theorem dX7_onAck_43 : decode cX7_onAck 43 = .ok (.getfield 123, 3) := by decide +kernel
theorem dX7_onAck_46 : decode cX7_onAck 46 = .ok (.iconst 3, 1) := by decide +kernel
theorem dX7_onAck_47 : decode cX7_onAck 47 = .ok (.iaload, 1) := by decide +kernel
theorem dX7_onAck_48 : decode cX7_onAck 48 = .ok (.iastore, 1) := by decide +kernel
theorem dX7_onAck_49 : decode cX7_onAck 49 = .ok (.aload_n 0, 1) := by decide +kernel
theorem dX7_onAck_50 : decode cX7_onAck 50 = .ok (.getfield 24, 3) := by decide +kernel
theorem dX7_onAck_53 : decode cX7_onAck 53 = .ok (.iload_n 1, 1) := by decide +kernel
theorem dX7_onAck_54 : decode cX7_onAck 54 = .ok (.aload_n 0, 1) := by decide +kernel
theorem dX7_onAck_55 : decode cX7_onAck 55 = .ok (.getfield 39, 3) := by decide +kernel
theorem dX7_onAck_58 : decode cX7_onAck 58 = .ok (.getfield 120, 3) := by decide +kernel
theorem dX7_onAck_61 : decode cX7_onAck 61 = .ok (.iastore, 1) := by decide +kernel
theorem dX7_onAck_62 : decode cX7_onAck 62 = .ok (.aload_n 0, 1) := by decide +kernel
theorem dX7_onAck_63 : decode cX7_onAck 63 = .ok (.getfield 15, 3) := by decide +kernel
theorem dX7_onAck_66 : decode cX7_onAck 66 = .ok (.iload_n 1, 1) := by decide +kernel
theorem dX7_onAck_67 : decode cX7_onAck 67 = .ok (.iaload, 1) := by decide +kernel
theorem dX7_onAck_68 : decode cX7_onAck 68 = .ok (.iconst 1, 1) := by decide +kernel
theorem dX7_onAck_69 : decode cX7_onAck 69 = .ok (.if_icmp .ne 47, 3) := by decide +kernel
theorem dX7_onAck_72 : decode cX7_onAck 72 = .ok (.aload_n 0, 1) := by decide +kernel
theorem dX7_onAck_73 : decode cX7_onAck 73 = .ok (.getfield 18, 3) := by decide +kernel
theorem dX7_onAck_76 : decode cX7_onAck 76 = .ok (.iload_n 1, 1) := by decide +kernel
theorem dX7_onAck_77 : decode cX7_onAck 77 = .ok (.iaload, 1) := by decide +kernel
theorem dX7_onAck_78 : decode cX7_onAck 78 = .ok (.aload_n 0, 1) := by decide +kernel
theorem dX7_onAck_79 : decode cX7_onAck 79 = .ok (.getfield 48, 3) := by decide +kernel
theorem dX7_onAck_82 : decode cX7_onAck 82 = .ok (.getfield 108, 3) := by decide +kernel
theorem dX7_onAck_85 : decode cX7_onAck 85 = .ok (.if_icmp .ne 31, 3) := by decide +kernel
theorem dX7_onAck_88 : decode cX7_onAck 88 = .ok (.aload_n 0, 1) := by decide +kernel
theorem dX7_onAck_89 : decode cX7_onAck 89 = .ok (.getfield 21, 3) := by decide +kernel
theorem dX7_onAck_92 : decode cX7_onAck 92 = .ok (.iload_n 1, 1) := by decide +kernel
theorem dX7_onAck_93 : decode cX7_onAck 93 = .ok (.iaload, 1) := by decide +kernel
theorem dX7_onAck_94 : decode cX7_onAck 94 = .ok (.aload_n 0, 1) := by decide +kernel
theorem dX7_onAck_95 : decode cX7_onAck 95 = .ok (.getfield 48, 3) := by decide +kernel
theorem dX7_onAck_98 : decode cX7_onAck 98 = .ok (.getfield 111, 3) := by decide +kernel
theorem dX7_onAck_101 : decode cX7_onAck 101 = .ok (.if_icmp .lt 15, 3) := by decide +kernel
theorem dX7_onAck_104 : decode cX7_onAck 104 = .ok (.aload_n 0, 1) := by decide +kernel
theorem dX7_onAck_105 : decode cX7_onAck 105 = .ok (.getfield 15, 3) := by decide +kernel
theorem dX7_onAck_108 : decode cX7_onAck 108 = .ok (.iload_n 1, 1) := by decide +kernel
theorem dX7_onAck_109 : decode cX7_onAck 109 = .ok (.iconst 2, 1) := by decide +kernel
theorem dX7_onAck_110 : decode cX7_onAck 110 = .ok (.iastore, 1) := by decide +kernel
theorem dX7_onAck_111 : decode cX7_onAck 111 = .ok (.aload_n 0, 1) := by decide +kernel
theorem dX7_onAck_112 : decode cX7_onAck 112 = .ok (.iload_n 1, 1) := by decide +kernel
theorem dX7_onAck_113 : decode cX7_onAck 113 = .ok (.invokevirtual 218, 3) := by decide +kernel
theorem dX7_onAck_116 : decode cX7_onAck 116 = .ok (.aload_n 0, 1) := by decide +kernel
theorem dX7_onAck_117 : decode cX7_onAck 117 = .ok (.invokevirtual 177, 3) := by decide +kernel
theorem dX7_onAck_120 : decode cX7_onAck 120 = .ok (.return_, 1) := by decide +kernel
theorem dX7_onWant_0 : decode cX7_onWant 0 = .ok (.aload_n 0, 1) := by decide +kernel
theorem dX7_onWant_1 : decode cX7_onWant 1 = .ok (.iload_n 1, 1) := by decide +kernel
theorem dX7_onWant_2 : decode cX7_onWant 2 = .ok (.invokevirtual 212, 3) := by decide +kernel
theorem dX7_onWant_5 : decode cX7_onWant 5 = .ok (.ifCond .eq 24, 3) := by decide +kernel
theorem dX7_onWant_8 : decode cX7_onWant 8 = .ok (.aload_n 2, 1) := by decide +kernel
theorem dX7_onWant_9 : decode cX7_onWant 9 = .ok (.getfield 123, 3) := by decide +kernel
theorem dX7_onWant_12 : decode cX7_onWant 12 = .ok (.iconst 1, 1) := by decide +kernel
theorem dX7_onWant_13 : decode cX7_onWant 13 = .ok (.iaload, 1) := by decide +kernel
theorem dX7_onWant_14 : decode cX7_onWant 14 = .ok (.aload_n 0, 1) := by decide +kernel
theorem dX7_onWant_15 : decode cX7_onWant 15 = .ok (.getfield 48, 3) := by decide +kernel
theorem dX7_onWant_18 : decode cX7_onWant 18 = .ok (.getfield 105, 3) := by decide +kernel
theorem dX7_onWant_21 : decode cX7_onWant 21 = .ok (.if_icmp .ne 8, 3) := by decide +kernel
theorem dX7_onWant_24 : decode cX7_onWant 24 = .ok (.aload_n 0, 1) := by decide +kernel
theorem dX7_onWant_25 : decode cX7_onWant 25 = .ok (.iload_n 1, 1) := by decide +kernel
theorem dX7_onWant_26 : decode cX7_onWant 26 = .ok (.invokevirtual 174, 3) := by decide +kernel
theorem dX7_onWant_29 : decode cX7_onWant 29 = .ok (.return_, 1) := by decide +kernel
theorem dX7_onJoin_0 : decode cX7_onJoin 0 = .ok (.aload_n 0, 1) := by decide +kernel
theorem dX7_onJoin_1 : decode cX7_onJoin 1 = .ok (.getfield 74, 3) := by decide +kernel
theorem dX7_onJoin_4 : decode cX7_onJoin 4 = .ok (.iconst 2, 1) := by decide +kernel
theorem dX7_onJoin_5 : decode cX7_onJoin 5 = .ok (.if_icmp .ne 21, 3) := by decide +kernel
theorem dX7_onJoin_8 : decode cX7_onJoin 8 = .ok (.aload_n 0, 1) := by decide +kernel
theorem dX7_onJoin_9 : decode cX7_onJoin 9 = .ok (.iload_n 1, 1) := by decide +kernel
theorem dX7_onJoin_10 : decode cX7_onJoin 10 = .ok (.invokevirtual 83, 3) := by decide +kernel
theorem dX7_onJoin_13 : decode cX7_onJoin 13 = .ok (.ifCond .eq 13, 3) := by decide +kernel
theorem dX7_onJoin_16 : decode cX7_onJoin 16 = .ok (.aload_n 0, 1) := by decide +kernel
theorem dX7_onJoin_17 : decode cX7_onJoin 17 = .ok (.getfield 15, 3) := by decide +kernel
theorem dX7_onJoin_20 : decode cX7_onJoin 20 = .ok (.iload_n 1, 1) := by decide +kernel
theorem dX7_onJoin_21 : decode cX7_onJoin 21 = .ok (.iaload, 1) := by decide +kernel
theorem dX7_onJoin_22 : decode cX7_onJoin 22 = .ok (.iconst 4, 1) := by decide +kernel
theorem dX7_onJoin_23 : decode cX7_onJoin 23 = .ok (.if_icmp .ne 4, 3) := by decide +kernel
theorem dX7_onJoin_26 : decode cX7_onJoin 26 = .ok (.return_, 1) := by decide +kernel
theorem dX7_onJoin_27 : decode cX7_onJoin 27 = .ok (.aload_n 0, 1) := by decide +kernel
theorem dX7_onJoin_28 : decode cX7_onJoin 28 = .ok (.getfield 15, 3) := by decide +kernel
theorem dX7_onJoin_31 : decode cX7_onJoin 31 = .ok (.iload_n 1, 1) := by decide +kernel
theorem dX7_onJoin_32 : decode cX7_onJoin 32 = .ok (.iaload, 1) := by decide +kernel
theorem dX7_onJoin_33 : decode cX7_onJoin 33 = .ok (.ifCond .ne 27, 3) := by decide +kernel
theorem dX7_onJoin_36 : decode cX7_onJoin 36 = .ok (.aload_n 0, 1) := by decide +kernel
theorem dX7_onJoin_37 : decode cX7_onJoin 37 = .ok (.getfield 15, 3) := by decide +kernel
theorem dX7_onJoin_40 : decode cX7_onJoin 40 = .ok (.iload_n 1, 1) := by decide +kernel
theorem dX7_onJoin_41 : decode cX7_onJoin 41 = .ok (.iconst 1, 1) := by decide +kernel
theorem dX7_onJoin_42 : decode cX7_onJoin 42 = .ok (.iastore, 1) := by decide +kernel
theorem dX7_onJoin_43 : decode cX7_onJoin 43 = .ok (.aload_n 0, 1) := by decide +kernel
theorem dX7_onJoin_44 : decode cX7_onJoin 44 = .ok (.getfield 30, 3) := by decide +kernel
theorem dX7_onJoin_47 : decode cX7_onJoin 47 = .ok (.iload_n 1, 1) := by decide +kernel
theorem dX7_onJoin_48 : decode cX7_onJoin 48 = .ok (.dup2, 1) := by decide +kernel
theorem dX7_onJoin_49 : decode cX7_onJoin 49 = .ok (.iaload, 1) := by decide +kernel
theorem dX7_onJoin_50 : decode cX7_onJoin 50 = .ok (.iconst 1, 1) := by decide +kernel
theorem dX7_onJoin_51 : decode cX7_onJoin 51 = .ok (.iadd, 1) := by decide +kernel
theorem dX7_onJoin_52 : decode cX7_onJoin 52 = .ok (.iastore, 1) := by decide +kernel
theorem dX7_onJoin_53 : decode cX7_onJoin 53 = .ok (.aload_n 0, 1) := by decide +kernel
theorem dX7_onJoin_54 : decode cX7_onJoin 54 = .ok (.getfield 21, 3) := by decide +kernel
theorem dX7_onJoin_57 : decode cX7_onJoin 57 = .ok (.iload_n 1, 1) := by decide +kernel
theorem dX7_onJoin_58 : decode cX7_onJoin 58 = .ok (.iconst 0, 1) := by decide +kernel
theorem dX7_onJoin_59 : decode cX7_onJoin 59 = .ok (.iastore, 1) := by decide +kernel
theorem dX7_onJoin_60 : decode cX7_onJoin 60 = .ok (.aload_n 0, 1) := by decide +kernel
theorem dX7_onJoin_61 : decode cX7_onJoin 61 = .ok (.getfield 18, 3) := by decide +kernel
theorem dX7_onJoin_64 : decode cX7_onJoin 64 = .ok (.iload_n 1, 1) := by decide +kernel
theorem dX7_onJoin_65 : decode cX7_onJoin 65 = .ok (.iconst (-1), 1) := by decide +kernel
theorem dX7_onJoin_66 : decode cX7_onJoin 66 = .ok (.iastore, 1) := by decide +kernel
theorem dX7_onJoin_67 : decode cX7_onJoin 67 = .ok (.aload_n 0, 1) := by decide +kernel
theorem dX7_onJoin_68 : decode cX7_onJoin 68 = .ok (.getfield 24, 3) := by decide +kernel
theorem dX7_onJoin_71 : decode cX7_onJoin 71 = .ok (.iload_n 1, 1) := by decide +kernel
theorem dX7_onJoin_72 : decode cX7_onJoin 72 = .ok (.aload_n 0, 1) := by decide +kernel
theorem dX7_onJoin_73 : decode cX7_onJoin 73 = .ok (.getfield 39, 3) := by decide +kernel
theorem dX7_onJoin_76 : decode cX7_onJoin 76 = .ok (.getfield 120, 3) := by decide +kernel
theorem dX7_onJoin_79 : decode cX7_onJoin 79 = .ok (.iastore, 1) := by decide +kernel
theorem dX7_onJoin_80 : decode cX7_onJoin 80 = .ok (.aload_n 0, 1) := by decide +kernel
theorem dX7_onJoin_81 : decode cX7_onJoin 81 = .ok (.iload_n 1, 1) := by decide +kernel
theorem dX7_onJoin_82 : decode cX7_onJoin 82 = .ok (.invokevirtual 174, 3) := by decide +kernel
theorem dX7_onJoin_85 : decode cX7_onJoin 85 = .ok (.return_, 1) := by decide +kernel
theorem dX7_onOut_0 : decode cX7_onOut 0 = .ok (.aload_n 1, 1) := by decide +kernel
theorem dX7_onOut_1 : decode cX7_onOut 1 = .ok (.getfield 123, 3) := by decide +kernel
theorem dX7_onOut_4 : decode cX7_onOut 4 = .ok (.iconst 2, 1) := by decide +kernel
theorem dX7_onOut_5 : decode cX7_onOut 5 = .ok (.iaload, 1) := by decide +kernel
theorem dX7_onOut_6 : decode cX7_onOut 6 = .ok (.istore_n 2, 1) := by decide +kernel
theorem dX7_onOut_7 : decode cX7_onOut 7 = .ok (.aload_n 0, 1) := by decide +kernel
theorem dX7_onOut_8 : decode cX7_onOut 8 = .ok (.iload_n 2, 1) := by decide +kernel
theorem dX7_onOut_9 : decode cX7_onOut 9 = .ok (.invokevirtual 212, 3) := by decide +kernel
theorem dX7_onOut_12 : decode cX7_onOut 12 = .ok (.ifCond .eq 55, 3) := by decide +kernel
theorem dX7_onOut_15 : decode cX7_onOut 15 = .ok (.aload_n 1, 1) := by decide +kernel
theorem dX7_onOut_16 : decode cX7_onOut 16 = .ok (.getfield 123, 3) := by decide +kernel
theorem dX7_onOut_19 : decode cX7_onOut 19 = .ok (.iconst 1, 1) := by decide +kernel
theorem dX7_onOut_20 : decode cX7_onOut 20 = .ok (.iaload, 1) := by decide +kernel
theorem dX7_onOut_21 : decode cX7_onOut 21 = .ok (.aload_n 0, 1) := by decide +kernel
theorem dX7_onOut_22 : decode cX7_onOut 22 = .ok (.getfield 48, 3) := by decide +kernel
theorem dX7_onOut_25 : decode cX7_onOut 25 = .ok (.getfield 105, 3) := by decide +kernel
theorem dX7_onOut_28 : decode cX7_onOut 28 = .ok (.if_icmp .ne 39, 3) := by decide +kernel
theorem dX7_onOut_31 : decode cX7_onOut 31 = .ok (.aload_n 0, 1) := by decide +kernel
theorem dX7_onOut_32 : decode cX7_onOut 32 = .ok (.getfield 15, 3) := by decide +kernel
theorem dX7_onOut_35 : decode cX7_onOut 35 = .ok (.iload_n 2, 1) := by decide +kernel
theorem dX7_onOut_36 : decode cX7_onOut 36 = .ok (.iaload, 1) := by decide +kernel
theorem dX7_onOut_37 : decode cX7_onOut 37 = .ok (.iconst 4, 1) := by decide +kernel
theorem dX7_onOut_38 : decode cX7_onOut 38 = .ok (.if_icmp .ne 29, 3) := by decide +kernel
theorem dX7_onOut_41 : decode cX7_onOut 41 = .ok (.aload_n 0, 1) := by decide +kernel
theorem dX7_onOut_42 : decode cX7_onOut 42 = .ok (.getfield 30, 3) := by decide +kernel
theorem dX7_onOut_45 : decode cX7_onOut 45 = .ok (.iload_n 2, 1) := by decide +kernel
theorem dX7_onOut_46 : decode cX7_onOut 46 = .ok (.iaload, 1) := by decide +kernel
theorem dX7_onOut_47 : decode cX7_onOut 47 = .ok (.aload_n 1, 1) := by decide +kernel
theorem dX7_onOut_48 : decode cX7_onOut 48 = .ok (.getfield 123, 3) := by decide +kernel
theorem dX7_onOut_51 : decode cX7_onOut 51 = .ok (.iconst 3, 1) := by decide +kernel
theorem dX7_onOut_52 : decode cX7_onOut 52 = .ok (.iaload, 1) := by decide +kernel
theorem dX7_onOut_53 : decode cX7_onOut 53 = .ok (.if_icmp .ne 14, 3) := by decide +kernel
theorem dX7_onOut_56 : decode cX7_onOut 56 = .ok (.aload_n 0, 1) := by decide +kernel
theorem dX7_onOut_57 : decode cX7_onOut 57 = .ok (.getfield 15, 3) := by decide +kernel
theorem dX7_onOut_60 : decode cX7_onOut 60 = .ok (.iload_n 2, 1) := by decide +kernel
theorem dX7_onOut_61 : decode cX7_onOut 61 = .ok (.iconst 0, 1) := by decide +kernel
theorem dX7_onOut_62 : decode cX7_onOut 62 = .ok (.iastore, 1) := by decide +kernel
theorem dX7_onOut_63 : decode cX7_onOut 63 = .ok (.aload_n 0, 1) := by decide +kernel
theorem dX7_onOut_64 : decode cX7_onOut 64 = .ok (.invokevirtual 177, 3) := by decide +kernel
theorem dX7_onOut_67 : decode cX7_onOut 67 = .ok (.return_, 1) := by decide +kernel
theorem dX7_onShow_0 : decode cX7_onShow 0 = .ok (.aload_n 2, 1) := by decide +kernel
theorem dX7_onShow_1 : decode cX7_onShow 1 = .ok (.getfield 123, 3) := by decide +kernel
theorem dX7_onShow_4 : decode cX7_onShow 4 = .ok (.iconst 0, 1) := by decide +kernel
theorem dX7_onShow_5 : decode cX7_onShow 5 = .ok (.iaload, 1) := by decide +kernel
theorem dX7_onShow_6 : decode cX7_onShow 6 = .ok (.istore_n 3, 1) := by decide +kernel
theorem dX7_onShow_7 : decode cX7_onShow 7 = .ok (.aload_n 0, 1) := by decide +kernel
theorem dX7_onShow_8 : decode cX7_onShow 8 = .ok (.getfield 74, 3) := by decide +kernel
theorem dX7_onShow_11 : decode cX7_onShow 11 = .ok (.iconst 2, 1) := by decide +kernel
theorem dX7_onShow_12 : decode cX7_onShow 12 = .ok (.if_icmp .eq 17, 3) := by decide +kernel
theorem dX7_onShow_15 : decode cX7_onShow 15 = .ok (.aload_n 0, 1) := by decide +kernel
theorem dX7_onShow_16 : decode cX7_onShow 16 = .ok (.getfield 39, 3) := by decide +kernel
theorem dX7_onShow_19 : decode cX7_onShow 19 = .ok (.aload_n 0, 1) := by decide +kernel
theorem dX7_onShow_20 : decode cX7_onShow 20 = .ok (.getfield 58, 3) := by decide +kernel
theorem dX7_onShow_23 : decode cX7_onShow 23 = .ok (.iload_n 1, 1) := by decide +kernel
theorem dX7_onShow_24 : decode cX7_onShow 24 = .ok (.aload_n 2, 1) := by decide +kernel
theorem dX7_onShow_25 : decode cX7_onShow 25 = .ok (.invokevirtual 205, 3) := by decide +kernel
theorem dX7_onShow_28 : decode cX7_onShow 28 = .ok (.return_, 1) := by decide +kernel
theorem dX7_onShow_29 : decode cX7_onShow 29 = .ok (.aload_n 0, 1) := by decide +kernel
theorem dX7_onShow_30 : decode cX7_onShow 30 = .ok (.iload_n 3, 1) := by decide +kernel
theorem dX7_onShow_31 : decode cX7_onShow 31 = .ok (.invokevirtual 221, 3) := by decide +kernel
theorem dX7_onShow_34 : decode cX7_onShow 34 = .ok (.ifCond .eq 4, 3) := by decide +kernel
theorem dX7_onShow_37 : decode cX7_onShow 37 = .ok (.return_, 1) := by decide +kernel
theorem dX7_onShow_38 : decode cX7_onShow 38 = .ok (.aload_n 0, 1) := by decide +kernel
theorem dX7_onShow_39 : decode cX7_onShow 39 = .ok (.getfield 77, 3) := by decide +kernel
theorem dX7_onShow_42 : decode cX7_onShow 42 = .ok (.bipush 20, 2) := by decide +kernel
theorem dX7_onShow_44 : decode cX7_onShow 44 = .ok (.if_icmp .lt 17, 3) := by decide +kernel
theorem dX7_onShow_47 : decode cX7_onShow 47 = .ok (.aload_n 0, 1) := by decide +kernel
theorem dX7_onShow_48 : decode cX7_onShow 48 = .ok (.getfield 39, 3) := by decide +kernel
theorem dX7_onShow_51 : decode cX7_onShow 51 = .ok (.aload_n 0, 1) := by decide +kernel
theorem dX7_onShow_52 : decode cX7_onShow 52 = .ok (.getfield 58, 3) := by decide +kernel
theorem dX7_onShow_55 : decode cX7_onShow 55 = .ok (.iload_n 1, 1) := by decide +kernel
theorem dX7_onShow_56 : decode cX7_onShow 56 = .ok (.aload_n 2, 1) := by decide +kernel
theorem dX7_onShow_57 : decode cX7_onShow 57 = .ok (.invokevirtual 205, 3) := by decide +kernel
theorem dX7_onShow_60 : decode cX7_onShow 60 = .ok (.return_, 1) := by decide +kernel
theorem dX7_onShow_61 : decode cX7_onShow 61 = .ok (.aload_n 0, 1) := by decide +kernel
theorem dX7_onShow_62 : decode cX7_onShow 62 = .ok (.getfield 33, 3) := by decide +kernel
theorem dX7_onShow_65 : decode cX7_onShow 65 = .ok (.aload_n 0, 1) := by decide +kernel
theorem dX7_onShow_66 : decode cX7_onShow 66 = .ok (.getfield 77, 3) := by decide +kernel
theorem dX7_onShow_69 : decode cX7_onShow 69 = .ok (.iload_n 3, 1) := by decide +kernel
theorem dX7_onShow_70 : decode cX7_onShow 70 = .ok (.iastore, 1) := by decide +kernel
theorem dX7_onShow_71 : decode cX7_onShow 71 = .ok (.aload_n 0, 1) := by decide +kernel
theorem dX7_onShow_72 : decode cX7_onShow 72 = .ok (.getfield 36, 3) := by decide +kernel
theorem dX7_onShow_75 : decode cX7_onShow 75 = .ok (.aload_n 0, 1) := by decide +kernel
theorem dX7_onShow_76 : decode cX7_onShow 76 = .ok (.getfield 77, 3) := by decide +kernel
theorem dX7_onShow_79 : decode cX7_onShow 79 = .ok (.aload_n 0, 1) := by decide +kernel
theorem dX7_onShow_80 : decode cX7_onShow 80 = .ok (.getfield 48, 3) := by decide +kernel
theorem dX7_onShow_83 : decode cX7_onShow 83 = .ok (.getfield 183, 3) := by decide +kernel
theorem dX7_onShow_86 : decode cX7_onShow 86 = .ok (.iastore, 1) := by decide +kernel
theorem dX7_onShow_87 : decode cX7_onShow 87 = .ok (.aload_n 0, 1) := by decide +kernel
theorem dX7_onShow_88 : decode cX7_onShow 88 = .ok (.dup, 1) := by decide +kernel
theorem dX7_onShow_89 : decode cX7_onShow 89 = .ok (.getfield 77, 3) := by decide +kernel
theorem dX7_onShow_92 : decode cX7_onShow 92 = .ok (.iconst 1, 1) := by decide +kernel
theorem dX7_onShow_93 : decode cX7_onShow 93 = .ok (.iadd, 1) := by decide +kernel
theorem dX7_onShow_94 : decode cX7_onShow 94 = .ok (.putfield 77, 3) := by decide +kernel
theorem dX7_onShow_97 : decode cX7_onShow 97 = .ok (.aload_n 0, 1) := by decide +kernel
theorem dX7_onShow_98 : decode cX7_onShow 98 = .ok (.getfield 48, 3) := by decide +kernel
theorem dX7_onShow_101 : decode cX7_onShow 101 = .ok (.getfield 183, 3) := by decide +kernel
theorem dX7_onShow_104 : decode cX7_onShow 104 = .ok (.aload_n 0, 1) := by decide +kernel
theorem dX7_onShow_105 : decode cX7_onShow 105 = .ok (.getfield 48, 3) := by decide +kernel
theorem dX7_onShow_108 : decode cX7_onShow 108 = .ok (.getfield 111, 3) := by decide +kernel
theorem dX7_onShow_111 : decode cX7_onShow 111 = .ok (.if_icmp .le 17, 3) := by decide +kernel
theorem dX7_onShow_114 : decode cX7_onShow 114 = .ok (.aload_n 0, 1) := by decide +kernel
theorem dX7_onShow_115 : decode cX7_onShow 115 = .ok (.getfield 48, 3) := by decide +kernel
theorem dX7_onShow_118 : decode cX7_onShow 118 = .ok (.aload_n 0, 1) := by decide +kernel
theorem dX7_onShow_119 : decode cX7_onShow 119 = .ok (.getfield 48, 3) := by decide +kernel
theorem dX7_onShow_122 : decode cX7_onShow 122 = .ok (.getfield 183, 3) := by decide +kernel
theorem dX7_onShow_125 : decode cX7_onShow 125 = .ok (.invokevirtual 140, 3) := by decide +kernel
theorem dX7_onShow_128 : decode cX7_onShow 128 = .ok (.iconst 0, 1) := by decide +kernel
theorem dX7_onShow_129 : decode cX7_onShow 129 = .ok (.istore 4, 2) := by decide +kernel
theorem dX7_onShow_131 : decode cX7_onShow 131 = .ok (.iload 4, 2) := by decide +kernel
theorem dX7_onShow_133 : decode cX7_onShow 133 = .ok (.aload_n 0, 1) := by decide +kernel
theorem dX7_onShow_134 : decode cX7_onShow 134 = .ok (.getfield 39, 3) := by decide +kernel
theorem dX7_onShow_137 : decode cX7_onShow 137 = .ok (.getfield 171, 3) := by decide +kernel
theorem dX7_onShow_140 : decode cX7_onShow 140 = .ok (.if_icmp .ge 52, 3) := by decide +kernel
theorem dX7_onShow_143 : decode cX7_onShow 143 = .ok (.aload_n 0, 1) := by decide +kernel
theorem dX7_onShow_144 : decode cX7_onShow 144 = .ok (.iload 4, 2) := by decide +kernel
theorem dX7_onShow_146 : decode cX7_onShow 146 = .ok (.invokevirtual 212, 3) := by decide +kernel
theorem dX7_onShow_149 : decode cX7_onShow 149 = .ok (.ifCond .eq 37, 3) := by decide +kernel
theorem dX7_onShow_152 : decode cX7_onShow 152 = .ok (.aload_n 0, 1) := by decide +kernel
theorem dX7_onShow_153 : decode cX7_onShow 153 = .ok (.getfield 18, 3) := by decide +kernel
theorem dX7_onShow_156 : decode cX7_onShow 156 = .ok (.iload 4, 2) := by decide +kernel
theorem dX7_onShow_158 : decode cX7_onShow 158 = .ok (.iaload, 1) := by decide +kernel
theorem dX7_onShow_159 : decode cX7_onShow 159 = .ok (.iconst (-1), 1) := by decide +kernel
theorem dX7_onShow_160 : decode cX7_onShow 160 = .ok (.if_icmp .eq 26, 3) := by decide +kernel
theorem dX7_onShow_163 : decode cX7_onShow 163 = .ok (.aload_n 0, 1) := by decide +kernel
theorem dX7_onShow_164 : decode cX7_onShow 164 = .ok (.getfield 21, 3) := by decide +kernel
theorem dX7_onShow_167 : decode cX7_onShow 167 = .ok (.iload 4, 2) := by decide +kernel
theorem dX7_onShow_169 : decode cX7_onShow 169 = .ok (.iaload, 1) := by decide +kernel
theorem dX7_onShow_170 : decode cX7_onShow 170 = .ok (.aload_n 0, 1) := by decide +kernel
theorem dX7_onShow_171 : decode cX7_onShow 171 = .ok (.getfield 48, 3) := by decide +kernel
theorem dX7_onShow_174 : decode cX7_onShow 174 = .ok (.getfield 111, 3) := by decide +kernel
theorem dX7_onShow_177 : decode cX7_onShow 177 = .ok (.if_icmp .ge 9, 3) := by decide +kernel
theorem dX7_onShow_180 : decode cX7_onShow 180 = .ok (.aload_n 0, 1) := by decide +kernel
theorem dX7_onShow_181 : decode cX7_onShow 181 = .ok (.iload 4, 2) := by decide +kernel
theorem dX7_onShow_183 : decode cX7_onShow 183 = .ok (.invokevirtual 224, 3) := by decide +kernel
theorem dX7_onShow_186 : decode cX7_onShow 186 = .ok (.iinc 4 1, 3) := by decide +kernel
theorem dX7_onShow_189 : decode cX7_onShow 189 = .ok (.goto (-58), 3) := by decide +kernel
theorem dX7_onShow_192 : decode cX7_onShow 192 = .ok (.aload_n 0, 1) := by decide +kernel
theorem dX7_onShow_193 : decode cX7_onShow 193 = .ok (.invokevirtual 177, 3) := by decide +kernel
theorem dX7_onShow_196 : decode cX7_onShow 196 = .ok (.return_, 1) := by decide +kernel
theorem dX7_isWaiting_0 : decode cX7_isWaiting 0 = .ok (.iconst 0, 1) := by decide +kernel
theorem dX7_isWaiting_1 : decode cX7_isWaiting 1 = .ok (.istore_n 2, 1) := by decide +kernel
theorem dX7_isWaiting_2 : decode cX7_isWaiting 2 = .ok (.iload_n 2, 1) := by decide +kernel
theorem dX7_isWaiting_3 : decode cX7_isWaiting 3 = .ok (.aload_n 0, 1) := by decide +kernel
theorem dX7_isWaiting_4 : decode cX7_isWaiting 4 = .ok (.getfield 77, 3) := by decide +kernel
theorem dX7_isWaiting_7 : decode cX7_isWaiting 7 = .ok (.if_icmp .ge 21, 3) := by decide +kernel
theorem dX7_isWaiting_10 : decode cX7_isWaiting 10 = .ok (.aload_n 0, 1) := by decide +kernel
theorem dX7_isWaiting_11 : decode cX7_isWaiting 11 = .ok (.getfield 33, 3) := by decide +kernel
theorem dX7_isWaiting_14 : decode cX7_isWaiting 14 = .ok (.iload_n 2, 1) := by decide +kernel
theorem dX7_isWaiting_15 : decode cX7_isWaiting 15 = .ok (.iaload, 1) := by decide +kernel
theorem dX7_isWaiting_16 : decode cX7_isWaiting 16 = .ok (.iload_n 1, 1) := by decide +kernel
theorem dX7_isWaiting_17 : decode cX7_isWaiting 17 = .ok (.if_icmp .ne 5, 3) := by decide +kernel
theorem dX7_isWaiting_20 : decode cX7_isWaiting 20 = .ok (.iconst 1, 1) := by decide +kernel
theorem dX7_isWaiting_21 : decode cX7_isWaiting 21 = .ok (.ireturn, 1) := by decide +kernel
theorem dX7_isWaiting_22 : decode cX7_isWaiting 22 = .ok (.iinc 2 1, 3) := by decide +kernel
theorem dX7_isWaiting_25 : decode cX7_isWaiting 25 = .ok (.goto (-23), 3) := by decide +kernel
theorem dX7_isWaiting_28 : decode cX7_isWaiting 28 = .ok (.iconst 0, 1) := by decide +kernel
theorem dX7_isWaiting_29 : decode cX7_isWaiting 29 = .ok (.ireturn, 1) := by decide +kernel
theorem dX7_pulse_0 : decode cX7_pulse 0 = .ok (.aload_n 0, 1) := by decide +kernel
theorem dX7_pulse_1 : decode cX7_pulse 1 = .ok (.getfield 74, 3) := by decide +kernel
theorem dX7_pulse_4 : decode cX7_pulse 4 = .ok (.ifCond .ne 32, 3) := by decide +kernel
theorem dX7_pulse_7 : decode cX7_pulse 7 = .ok (.aload_n 0, 1) := by decide +kernel
theorem dX7_pulse_8 : decode cX7_pulse 8 = .ok (.getfield 9, 3) := by decide +kernel
theorem dX7_pulse_11 : decode cX7_pulse 11 = .ok (.iconst 3, 1) := by decide +kernel
theorem dX7_pulse_12 : decode cX7_pulse 12 = .ok (.iaload, 1) := by decide +kernel
theorem dX7_pulse_13 : decode cX7_pulse 13 = .ok (.ifCond .le 23, 3) := by decide +kernel
theorem dX7_pulse_16 : decode cX7_pulse 16 = .ok (.aload_n 0, 1) := by decide +kernel
theorem dX7_pulse_17 : decode cX7_pulse 17 = .ok (.getfield 39, 3) := by decide +kernel
theorem dX7_pulse_20 : decode cX7_pulse 20 = .ok (.getfield 120, 3) := by decide +kernel
theorem dX7_pulse_23 : decode cX7_pulse 23 = .ok (.aload_n 0, 1) := by decide +kernel
theorem dX7_pulse_24 : decode cX7_pulse 24 = .ok (.getfield 80, 3) := by decide +kernel
theorem dX7_pulse_27 : decode cX7_pulse 27 = .ok (.isub, 1) := by decide +kernel
theorem dX7_pulse_28 : decode cX7_pulse 28 = .ok (.iconst 3, 1) := by decide +kernel
theorem dX7_pulse_29 : decode cX7_pulse 29 = .ok (.if_icmp .lt 7, 3) := by decide +kernel
theorem dX7_pulse_32 : decode cX7_pulse 32 = .ok (.aload_n 0, 1) := by decide +kernel
theorem dX7_pulse_33 : decode cX7_pulse 33 = .ok (.invokevirtual 165, 3) := by decide +kernel
theorem dX7_pulse_36 : decode cX7_pulse 36 = .ok (.iconst 0, 1) := by decide +kernel
theorem dX7_pulse_37 : decode cX7_pulse 37 = .ok (.istore_n 1, 1) := by decide +kernel
theorem dX7_pulse_38 : decode cX7_pulse 38 = .ok (.iload_n 1, 1) := by decide +kernel
theorem dX7_pulse_39 : decode cX7_pulse 39 = .ok (.aload_n 0, 1) := by decide +kernel
theorem dX7_pulse_40 : decode cX7_pulse 40 = .ok (.getfield 39, 3) := by decide +kernel
theorem dX7_pulse_43 : decode cX7_pulse 43 = .ok (.getfield 171, 3) := by decide +kernel
theorem dX7_pulse_46 : decode cX7_pulse 46 = .ok (.if_icmp .ge 22, 3) := by decide +kernel
theorem dX7_pulse_49 : decode cX7_pulse 49 = .ok (.aload_n 0, 1) := by decide +kernel
theorem dX7_pulse_50 : decode cX7_pulse 50 = .ok (.iload_n 1, 1) := by decide +kernel
theorem dX7_pulse_51 : decode cX7_pulse 51 = .ok (.invokevirtual 212, 3) := by decide +kernel
theorem dX7_pulse_54 : decode cX7_pulse 54 = .ok (.ifCond .eq 8, 3) := by decide +kernel
theorem dX7_pulse_57 : decode cX7_pulse 57 = .ok (.aload_n 0, 1) := by decide +kernel
theorem dX7_pulse_58 : decode cX7_pulse 58 = .ok (.iload_n 1, 1) := by decide +kernel
theorem dX7_pulse_59 : decode cX7_pulse 59 = .ok (.invokevirtual 227, 3) := by decide +kernel
theorem dX7_pulse_62 : decode cX7_pulse 62 = .ok (.iinc 1 1, 3) := by decide +kernel
theorem dX7_pulse_65 : decode cX7_pulse 65 = .ok (.goto (-27), 3) := by decide +kernel
theorem dX7_pulse_68 : decode cX7_pulse 68 = .ok (.return_, 1) := by decide +kernel
theorem dX7_tend_0 : decode cX7_tend 0 = .ok (.aload_n 0, 1) := by decide +kernel
theorem dX7_tend_1 : decode cX7_tend 1 = .ok (.getfield 39, 3) := by decide +kernel
theorem dX7_tend_4 : decode cX7_tend 4 = .ok (.getfield 120, 3) := by decide +kernel
theorem dX7_tend_7 : decode cX7_tend 7 = .ok (.aload_n 0, 1) := by decide +kernel
theorem dX7_tend_8 : decode cX7_tend 8 = .ok (.getfield 24, 3) := by decide +kernel
theorem dX7_tend_11 : decode cX7_tend 11 = .ok (.iload_n 1, 1) := by decide +kernel
theorem dX7_tend_12 : decode cX7_tend 12 = .ok (.iaload, 1) := by decide +kernel
theorem dX7_tend_13 : decode cX7_tend 13 = .ok (.isub, 1) := by decide +kernel
theorem dX7_tend_14 : decode cX7_tend 14 = .ok (.bipush 9, 2) := by decide +kernel
theorem dX7_tend_16 : decode cX7_tend 16 = .ok (.if_icmp .lt 7, 3) := by decide +kernel
theorem dX7_tend_19 : decode cX7_tend 19 = .ok (.iconst 1, 1) := by decide +kernel
theorem dX7_tend_20 : decode cX7_tend 20 = .ok (.goto 4, 3) := by decide +kernel
theorem dX7_tend_23 : decode cX7_tend 23 = .ok (.iconst 0, 1) := by decide +kernel
theorem dX7_tend_24 : decode cX7_tend 24 = .ok (.istore_n 2, 1) := by decide +kernel
theorem dX7_tend_25 : decode cX7_tend 25 = .ok (.aload_n 0, 1) := by decide +kernel
theorem dX7_tend_26 : decode cX7_tend 26 = .ok (.getfield 39, 3) := by decide +kernel
theorem dX7_tend_29 : decode cX7_tend 29 = .ok (.getfield 120, 3) := by decide +kernel
theorem dX7_tend_32 : decode cX7_tend 32 = .ok (.aload_n 0, 1) := by decide +kernel
theorem dX7_tend_33 : decode cX7_tend 33 = .ok (.getfield 27, 3) := by decide +kernel
theorem dX7_tend_36 : decode cX7_tend 36 = .ok (.iload_n 1, 1) := by decide +kernel
theorem dX7_tend_37 : decode cX7_tend 37 = .ok (.iaload, 1) := by decide +kernel
theorem dX7_tend_38 : decode cX7_tend 38 = .ok (.isub, 1) := by decide +kernel
theorem dX7_tend_39 : decode cX7_tend 39 = .ok (.iconst 3, 1) := by decide +kernel
theorem dX7_tend_40 : decode cX7_tend 40 = .ok (.if_icmp .lt 7, 3) := by decide +kernel
theorem dX7_tend_43 : decode cX7_tend 43 = .ok (.iconst 1, 1) := by decide +kernel
theorem dX7_tend_44 : decode cX7_tend 44 = .ok (.goto 4, 3) := by decide +kernel
theorem dX7_tend_47 : decode cX7_tend 47 = .ok (.iconst 0, 1) := by decide +kernel
theorem dX7_tend_48 : decode cX7_tend 48 = .ok (.istore_n 3, 1) := by decide +kernel
theorem dX7_tend_49 : decode cX7_tend 49 = .ok (.aload_n 0, 1) := by decide +kernel
theorem dX7_tend_50 : decode cX7_tend 50 = .ok (.getfield 15, 3) := by decide +kernel
theorem dX7_tend_53 : decode cX7_tend 53 = .ok (.iload_n 1, 1) := by decide +kernel
theorem dX7_tend_54 : decode cX7_tend 54 = .ok (.iaload, 1) := by decide +kernel
theorem dX7_tend_55 : decode cX7_tend 55 = .ok (.iconst 4, 1) := by decide +kernel
theorem dX7_tend_56 : decode cX7_tend 56 = .ok (.if_icmp .ne 15, 3) := by decide +kernel
theorem dX7_tend_59 : decode cX7_tend 59 = .ok (.iload_n 2, 1) := by decide +kernel
theorem dX7_tend_60 : decode cX7_tend 60 = .ok (.ifCond .eq 116, 3) := by decide +kernel
theorem dX7_tend_63 : decode cX7_tend 63 = .ok (.aload_n 0, 1) := by decide +kernel
theorem dX7_tend_64 : decode cX7_tend 64 = .ok (.iload_n 1, 1) := by decide +kernel
theorem dX7_tend_65 : decode cX7_tend 65 = .ok (.invokevirtual 230, 3) := by decide +kernel
theorem dX7_tend_68 : decode cX7_tend 68 = .ok (.goto 108, 3) := by decide +kernel
theorem dX7_tend_71 : decode cX7_tend 71 = .ok (.aload_n 0, 1) := by decide +kernel
theorem dX7_tend_72 : decode cX7_tend 72 = .ok (.getfield 18, 3) := by decide +kernel
theorem dX7_tend_75 : decode cX7_tend 75 = .ok (.iload_n 1, 1) := by decide +kernel
theorem dX7_tend_76 : decode cX7_tend 76 = .ok (.iaload, 1) := by decide +kernel
theorem dX7_tend_77 : decode cX7_tend 77 = .ok (.aload_n 0, 1) := by decide +kernel
theorem dX7_tend_78 : decode cX7_tend 78 = .ok (.getfield 48, 3) := by decide +kernel
theorem dX7_tend_81 : decode cX7_tend 81 = .ok (.getfield 108, 3) := by decide +kernel
theorem dX7_tend_84 : decode cX7_tend 84 = .ok (.if_icmp .ne 54, 3) := by decide +kernel
theorem dX7_tend_87 : decode cX7_tend 87 = .ok (.aload_n 0, 1) := by decide +kernel
theorem dX7_tend_88 : decode cX7_tend 88 = .ok (.getfield 21, 3) := by decide +kernel
theorem dX7_tend_91 : decode cX7_tend 91 = .ok (.iload_n 1, 1) := by decide +kernel
theorem dX7_tend_92 : decode cX7_tend 92 = .ok (.iaload, 1) := by decide +kernel
theorem dX7_tend_93 : decode cX7_tend 93 = .ok (.aload_n 0, 1) := by decide +kernel
theorem dX7_tend_94 : decode cX7_tend 94 = .ok (.getfield 48, 3) := by decide +kernel
theorem dX7_tend_97 : decode cX7_tend 97 = .ok (.getfield 111, 3) := by decide +kernel
theorem dX7_tend_100 : decode cX7_tend 100 = .ok (.if_icmp .lt 38, 3) := by decide +kernel
theorem dX7_tend_103 : decode cX7_tend 103 = .ok (.aload_n 0, 1) := by decide +kernel
theorem dX7_tend_104 : decode cX7_tend 104 = .ok (.getfield 24, 3) := by decide +kernel
theorem dX7_tend_107 : decode cX7_tend 107 = .ok (.iload_n 1, 1) := by decide +kernel
theorem dX7_tend_108 : decode cX7_tend 108 = .ok (.aload_n 0, 1) := by decide +kernel
theorem dX7_tend_109 : decode cX7_tend 109 = .ok (.getfield 39, 3) := by decide +kernel
theorem dX7_tend_112 : decode cX7_tend 112 = .ok (.getfield 120, 3) := by decide +kernel
theorem dX7_tend_115 : decode cX7_tend 115 = .ok (.iastore, 1) := by decide +kernel
theorem dX7_tend_116 : decode cX7_tend 116 = .ok (.aload_n 0, 1) := by decide +kernel
theorem dX7_tend_117 : decode cX7_tend 117 = .ok (.getfield 15, 3) := by decide +kernel
theorem dX7_tend_120 : decode cX7_tend 120 = .ok (.iload_n 1, 1) := by decide +kernel
theorem dX7_tend_121 : decode cX7_tend 121 = .ok (.iaload, 1) := by decide +kernel
theorem dX7_tend_122 : decode cX7_tend 122 = .ok (.iconst 2, 1) := by decide +kernel
theorem dX7_tend_123 : decode cX7_tend 123 = .ok (.if_icmp .ne 53, 3) := by decide +kernel
theorem dX7_tend_126 : decode cX7_tend 126 = .ok (.iload_n 3, 1) := by decide +kernel
theorem dX7_tend_127 : decode cX7_tend 127 = .ok (.ifCond .eq 49, 3) := by decide +kernel
theorem dX7_tend_130 : decode cX7_tend 130 = .ok (.aload_n 0, 1) := by decide +kernel
theorem dX7_tend_131 : decode cX7_tend 131 = .ok (.iload_n 1, 1) := by decide +kernel
theorem dX7_tend_132 : decode cX7_tend 132 = .ok (.invokevirtual 218, 3) := by decide +kernel
theorem dX7_tend_135 : decode cX7_tend 135 = .ok (.goto 41, 3) := by decide +kernel
theorem dX7_tend_138 : decode cX7_tend 138 = .ok (.aload_n 0, 1) := by decide +kernel
theorem dX7_tend_139 : decode cX7_tend 139 = .ok (.getfield 15, 3) := by decide +kernel
theorem dX7_tend_142 : decode cX7_tend 142 = .ok (.iload_n 1, 1) := by decide +kernel
theorem dX7_tend_143 : decode cX7_tend 143 = .ok (.iaload, 1) := by decide +kernel
theorem dX7_tend_144 : decode cX7_tend 144 = .ok (.iconst 1, 1) := by decide +kernel
theorem dX7_tend_145 : decode cX7_tend 145 = .ok (.if_icmp .eq 22, 3) := by decide +kernel
theorem dX7_tend_148 : decode cX7_tend 148 = .ok (.iload_n 2, 1) := by decide +kernel
theorem dX7_tend_149 : decode cX7_tend 149 = .ok (.ifCond .eq 18, 3) := by decide +kernel
theorem dX7_tend_152 : decode cX7_tend 152 = .ok (.aload_n 0, 1) := by decide +kernel
theorem dX7_tend_153 : decode cX7_tend 153 = .ok (.getfield 15, 3) := by decide +kernel
theorem dX7_tend_156 : decode cX7_tend 156 = .ok (.iload_n 1, 1) := by decide +kernel
theorem dX7_tend_157 : decode cX7_tend 157 = .ok (.iconst 4, 1) := by decide +kernel
theorem dX7_tend_158 : decode cX7_tend 158 = .ok (.iastore, 1) := by decide +kernel
theorem dX7_tend_159 : decode cX7_tend 159 = .ok (.aload_n 0, 1) := by decide +kernel
theorem dX7_tend_160 : decode cX7_tend 160 = .ok (.iload_n 1, 1) := by decide +kernel
theorem dX7_tend_161 : decode cX7_tend 161 = .ok (.invokevirtual 230, 3) := by decide +kernel
theorem dX7_tend_164 : decode cX7_tend 164 = .ok (.goto 12, 3) := by decide +kernel
theorem dX7_tend_167 : decode cX7_tend 167 = .ok (.iload_n 3, 1) := by decide +kernel
theorem dX7_tend_168 : decode cX7_tend 168 = .ok (.ifCond .eq 8, 3) := by decide +kernel
theorem dX7_tend_171 : decode cX7_tend 171 = .ok (.aload_n 0, 1) := by decide +kernel
theorem dX7_tend_172 : decode cX7_tend 172 = .ok (.iload_n 1, 1) := by decide +kernel
theorem dX7_tend_173 : decode cX7_tend 173 = .ok (.invokevirtual 233, 3) := by decide +kernel
theorem dX7_tend_176 : decode cX7_tend 176 = .ok (.return_, 1) := by decide +kernel
theorem dX7_bringOn_0 : decode cX7_bringOn 0 = .ok (.aload_n 0, 1) := by decide +kernel
theorem dX7_bringOn_1 : decode cX7_bringOn 1 = .ok (.getfield 18, 3) := by decide +kernel
theorem dX7_bringOn_4 : decode cX7_bringOn 4 = .ok (.iload_n 1, 1) := by decide +kernel
theorem dX7_bringOn_5 : decode cX7_bringOn 5 = .ok (.iaload, 1) := by decide +kernel
theorem dX7_bringOn_6 : decode cX7_bringOn 6 = .ok (.iconst (-1), 1) := by decide +kernel
theorem dX7_bringOn_7 : decode cX7_bringOn 7 = .ok (.if_icmp .ne 9, 3) := by decide +kernel
theorem dX7_bringOn_10 : decode cX7_bringOn 10 = .ok (.aload_n 0, 1) := by decide +kernel
theorem dX7_bringOn_11 : decode cX7_bringOn 11 = .ok (.iload_n 1, 1) := by decide +kernel
theorem dX7_bringOn_12 : decode cX7_bringOn 12 = .ok (.invokevirtual 174, 3) := by decide +kernel
theorem dX7_bringOn_15 : decode cX7_bringOn 15 = .ok (.return_, 1) := by decide +kernel
theorem dX7_bringOn_16 : decode cX7_bringOn 16 = .ok (.aload_n 0, 1) := by decide +kernel
theorem dX7_bringOn_17 : decode cX7_bringOn 17 = .ok (.getfield 18, 3) := by decide +kernel
theorem dX7_bringOn_20 : decode cX7_bringOn 20 = .ok (.iload_n 1, 1) := by decide +kernel
theorem dX7_bringOn_21 : decode cX7_bringOn 21 = .ok (.iaload, 1) := by decide +kernel
theorem dX7_bringOn_22 : decode cX7_bringOn 22 = .ok (.aload_n 0, 1) := by decide +kernel
theorem dX7_bringOn_23 : decode cX7_bringOn 23 = .ok (.getfield 48, 3) := by decide +kernel
theorem dX7_bringOn_26 : decode cX7_bringOn 26 = .ok (.getfield 180, 3) := by decide +kernel
theorem dX7_bringOn_29 : decode cX7_bringOn 29 = .ok (.if_icmp .ge 11, 3) := by decide +kernel
theorem dX7_bringOn_32 : decode cX7_bringOn 32 = .ok (.aload_n 0, 1) := by decide +kernel
theorem dX7_bringOn_33 : decode cX7_bringOn 33 = .ok (.iload_n 1, 1) := by decide +kernel
theorem dX7_bringOn_34 : decode cX7_bringOn 34 = .ok (.invokevirtual 174, 3) := by decide +kernel
theorem dX7_bringOn_37 : decode cX7_bringOn 37 = .ok (.goto 48, 3) := by decide +kernel
theorem dX7_bringOn_40 : decode cX7_bringOn 40 = .ok (.aload_n 0, 1) := by decide +kernel
theorem dX7_bringOn_41 : decode cX7_bringOn 41 = .ok (.getfield 48, 3) := by decide +kernel
theorem dX7_bringOn_44 : decode cX7_bringOn 44 = .ok (.getfield 108, 3) := by decide +kernel
theorem dX7_bringOn_47 : decode cX7_bringOn 47 = .ok (.aload_n 0, 1) := by decide +kernel
theorem dX7_bringOn_48 : decode cX7_bringOn 48 = .ok (.getfield 18, 3) := by decide +kernel
theorem dX7_bringOn_51 : decode cX7_bringOn 51 = .ok (.iload_n 1, 1) := by decide +kernel
theorem dX7_bringOn_52 : decode cX7_bringOn 52 = .ok (.iaload, 1) := by decide +kernel
theorem dX7_bringOn_53 : decode cX7_bringOn 53 = .ok (.iconst 4, 1) := by decide +kernel
theorem dX7_bringOn_54 : decode cX7_bringOn 54 = .ok (.iadd, 1) := by decide +kernel
theorem dX7_bringOn_55 : decode cX7_bringOn 55 = .ok (.invokestatic 190, 3) := by decide +kernel
theorem dX7_bringOn_58 : decode cX7_bringOn 58 = .ok (.istore_n 2, 1) := by decide +kernel
theorem dX7_bringOn_59 : decode cX7_bringOn 59 = .ok (.aload_n 0, 1) := by decide +kernel
theorem dX7_bringOn_60 : decode cX7_bringOn 60 = .ok (.getfield 18, 3) := by decide +kernel
theorem dX7_bringOn_63 : decode cX7_bringOn 63 = .ok (.iload_n 1, 1) := by decide +kernel
theorem dX7_bringOn_64 : decode cX7_bringOn 64 = .ok (.iaload, 1) := by decide +kernel
theorem dX7_bringOn_65 : decode cX7_bringOn 65 = .ok (.iconst 1, 1) := by decide +kernel
theorem dX7_bringOn_66 : decode cX7_bringOn 66 = .ok (.iadd, 1) := by decide +kernel
theorem dX7_bringOn_67 : decode cX7_bringOn 67 = .ok (.istore_n 3, 1) := by decide +kernel
theorem dX7_bringOn_68 : decode cX7_bringOn 68 = .ok (.iload_n 3, 1) := by decide +kernel
theorem dX7_bringOn_69 : decode cX7_bringOn 69 = .ok (.iload_n 2, 1) := by decide +kernel
theorem dX7_bringOn_70 : decode cX7_bringOn 70 = .ok (.if_icmp .gt 15, 3) := by decide +kernel
theorem dX7_bringOn_73 : decode cX7_bringOn 73 = .ok (.aload_n 0, 1) := by decide +kernel
theorem dX7_bringOn_74 : decode cX7_bringOn 74 = .ok (.iload_n 1, 1) := by decide +kernel
theorem dX7_bringOn_75 : decode cX7_bringOn 75 = .ok (.iload_n 3, 1) := by decide +kernel
theorem dX7_bringOn_76 : decode cX7_bringOn 76 = .ok (.invokevirtual 215, 3) := by decide +kernel
theorem dX7_bringOn_79 : decode cX7_bringOn 79 = .ok (.iinc 3 1, 3) := by decide +kernel
theorem dX7_bringOn_82 : decode cX7_bringOn 82 = .ok (.goto (-14), 3) := by decide +kernel
theorem dX7_bringOn_85 : decode cX7_bringOn 85 = .ok (.aload_n 0, 1) := by decide +kernel
theorem dX7_bringOn_86 : decode cX7_bringOn 86 = .ok (.getfield 21, 3) := by decide +kernel
theorem dX7_bringOn_89 : decode cX7_bringOn 89 = .ok (.iload_n 1, 1) := by decide +kernel
theorem dX7_bringOn_90 : decode cX7_bringOn 90 = .ok (.iaload, 1) := by decide +kernel
theorem dX7_bringOn_91 : decode cX7_bringOn 91 = .ok (.aload_n 0, 1) := by decide +kernel
theorem dX7_bringOn_92 : decode cX7_bringOn 92 = .ok (.getfield 48, 3) := by decide +kernel
theorem dX7_bringOn_95 : decode cX7_bringOn 95 = .ok (.getfield 111, 3) := by decide +kernel
theorem dX7_bringOn_98 : decode cX7_bringOn 98 = .ok (.if_icmp .ge 8, 3) := by decide +kernel
theorem dX7_bringOn_101 : decode cX7_bringOn 101 = .ok (.aload_n 0, 1) := by decide +kernel
theorem dX7_bringOn_102 : decode cX7_bringOn 102 = .ok (.iload_n 1, 1) := by decide +kernel
theorem dX7_bringOn_103 : decode cX7_bringOn 103 = .ok (.invokevirtual 224, 3) := by decide +kernel
theorem dX7_bringOn_106 : decode cX7_bringOn 106 = .ok (.aload_n 0, 1) := by decide +kernel
theorem dX7_bringOn_107 : decode cX7_bringOn 107 = .ok (.getfield 27, 3) := by decide +kernel
theorem dX7_bringOn_110 : decode cX7_bringOn 110 = .ok (.iload_n 1, 1) := by decide +kernel
theorem dX7_bringOn_111 : decode cX7_bringOn 111 = .ok (.aload_n 0, 1) := by decide +kernel
theorem dX7_bringOn_112 : decode cX7_bringOn 112 = .ok (.getfield 39, 3) := by decide +kernel
theorem dX7_bringOn_115 : decode cX7_bringOn 115 = .ok (.getfield 120, 3) := by decide +kernel
theorem dX7_bringOn_118 : decode cX7_bringOn 118 = .ok (.iastore, 1) := by decide +kernel
theorem dX7_bringOn_119 : decode cX7_bringOn 119 = .ok (.return_, 1) := by decide +kernel
