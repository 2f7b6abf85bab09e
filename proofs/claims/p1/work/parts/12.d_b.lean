theorem db_X4_init_0 : decode cX4_init 0 = .ok (.aload_n 0, 1) ∧ decode cX4_init 1 = .ok (.invokespecial 3, 3) ∧ decode cX4_init 4 = .ok (.aload_n 0, 1) ∧ decode cX4_init 5 = .ok (.bipush 30, 2) ∧ decode cX4_init 7 = .ok (.newarray .int, 2) ∧ decode cX4_init 9 = .ok (.putfield 9, 3) ∧ decode cX4_init 12 = .ok (.aload_n 0, 1) ∧ decode cX4_init 13 = .ok (.getstatic 15, 3) ∧ decode cX4_init 16 = .ok (.putfield 18, 3) ∧ decode cX4_init 19 = .ok (.aload_n 0, 1) ∧ decode cX4_init 20 = .ok (.getstatic 15, 3) ∧ decode cX4_init 23 = .ok (.putfield 21, 3) ∧ decode cX4_init 26 = .ok (.aload_n 0, 1) ∧ decode cX4_init 27 = .ok (.getstatic 15, 3) ∧ decode cX4_init 30 = .ok (.putfield 24, 3) ∧ decode cX4_init 33 = .ok (.return_, 1) := by decide +kernel
theorem dX4_init_0 : decode cX4_init 0 = .ok (.aload_n 0, 1) := db_X4_init_0.1
theorem dX4_init_1 : decode cX4_init 1 = .ok (.invokespecial 3, 3) := db_X4_init_0.2.1
theorem dX4_init_4 : decode cX4_init 4 = .ok (.aload_n 0, 1) := db_X4_init_0.2.2.1
theorem dX4_init_5 : decode cX4_init 5 = .ok (.bipush 30, 2) := db_X4_init_0.2.2.2.1
theorem dX4_init_7 : decode cX4_init 7 = .ok (.newarray .int, 2) := db_X4_init_0.2.2.2.2.1
theorem dX4_init_9 : decode cX4_init 9 = .ok (.putfield 9, 3) := db_X4_init_0.2.2.2.2.2.1
theorem dX4_init_12 : decode cX4_init 12 = .ok (.aload_n 0, 1) := db_X4_init_0.2.2.2.2.2.2.1
theorem dX4_init_13 : decode cX4_init 13 = .ok (.getstatic 15, 3) := db_X4_init_0.2.2.2.2.2.2.2.1
theorem dX4_init_16 : decode cX4_init 16 = .ok (.putfield 18, 3) := db_X4_init_0.2.2.2.2.2.2.2.2.1
theorem dX4_init_19 : decode cX4_init 19 = .ok (.aload_n 0, 1) := db_X4_init_0.2.2.2.2.2.2.2.2.2.1
theorem dX4_init_20 : decode cX4_init 20 = .ok (.getstatic 15, 3) := db_X4_init_0.2.2.2.2.2.2.2.2.2.2.1
theorem dX4_init_23 : decode cX4_init 23 = .ok (.putfield 21, 3) := db_X4_init_0.2.2.2.2.2.2.2.2.2.2.2.1
theorem dX4_init_26 : decode cX4_init 26 = .ok (.aload_n 0, 1) := db_X4_init_0.2.2.2.2.2.2.2.2.2.2.2.2.1
theorem dX4_init_27 : decode cX4_init 27 = .ok (.getstatic 15, 3) := db_X4_init_0.2.2.2.2.2.2.2.2.2.2.2.2.2.1
theorem dX4_init_30 : decode cX4_init 30 = .ok (.putfield 24, 3) := db_X4_init_0.2.2.2.2.2.2.2.2.2.2.2.2.2.2.1
theorem dX4_init_33 : decode cX4_init 33 = .ok (.return_, 1) := db_X4_init_0.2.2.2.2.2.2.2.2.2.2.2.2.2.2.2
theorem db_X4_with_0 : decode cX4_with 0 = .ok (.aload_n 0, 1) ∧ decode cX4_with 1 = .ok (.getfield 9, 3) ∧ decode cX4_with 4 = .ok (.iconst 0, 1) ∧ decode cX4_with 5 = .ok (.iload_n 1, 1) ∧ decode cX4_with 6 = .ok (.iastore, 1) ∧ decode cX4_with 7 = .ok (.aload_n 0, 1) ∧ decode cX4_with 8 = .ok (.getfield 9, 3) ∧ decode cX4_with 11 = .ok (.iconst 1, 1) ∧ decode cX4_with 12 = .ok (.iload_n 2, 1) ∧ decode cX4_with 13 = .ok (.iastore, 1) ∧ decode cX4_with 14 = .ok (.aload_n 0, 1) ∧ decode cX4_with 15 = .ok (.getfield 9, 3) ∧ decode cX4_with 18 = .ok (.iconst 2, 1) ∧ decode cX4_with 19 = .ok (.iload_n 3, 1) ∧ decode cX4_with 20 = .ok (.iastore, 1) ∧ decode cX4_with 21 = .ok (.aload_n 0, 1) := by decide +kernel
theorem dX4_with_0 : decode cX4_with 0 = .ok (.aload_n 0, 1) := db_X4_with_0.1
theorem dX4_with_1 : decode cX4_with 1 = .ok (.getfield 9, 3) := db_X4_with_0.2.1
theorem dX4_with_4 : decode cX4_with 4 = .ok (.iconst 0, 1) := db_X4_with_0.2.2.1
theorem dX4_with_5 : decode cX4_with 5 = .ok (.iload_n 1, 1) := db_X4_with_0.2.2.2.1
theorem dX4_with_6 : decode cX4_with 6 = .ok (.iastore, 1) := db_X4_with_0.2.2.2.2.1
theorem dX4_with_7 : decode cX4_with 7 = .ok (.aload_n 0, 1) := db_X4_with_0.2.2.2.2.2.1
theorem dX4_with_8 : decode cX4_with 8 = .ok (.getfield 9, 3) := db_X4_with_0.2.2.2.2.2.2.1
theorem dX4_with_11 : decode cX4_with 11 = .ok (.iconst 1, 1) := db_X4_with_0.2.2.2.2.2.2.2.1
theorem dX4_with_12 : decode cX4_with 12 = .ok (.iload_n 2, 1) := db_X4_with_0.2.2.2.2.2.2.2.2.1
theorem dX4_with_13 : decode cX4_with 13 = .ok (.iastore, 1) := db_X4_with_0.2.2.2.2.2.2.2.2.2.1
theorem dX4_with_14 : decode cX4_with 14 = .ok (.aload_n 0, 1) := db_X4_with_0.2.2.2.2.2.2.2.2.2.2.1
theorem dX4_with_15 : decode cX4_with 15 = .ok (.getfield 9, 3) := db_X4_with_0.2.2.2.2.2.2.2.2.2.2.2.1
theorem dX4_with_18 : decode cX4_with 18 = .ok (.iconst 2, 1) := db_X4_with_0.2.2.2.2.2.2.2.2.2.2.2.2.1
theorem dX4_with_19 : decode cX4_with 19 = .ok (.iload_n 3, 1) := db_X4_with_0.2.2.2.2.2.2.2.2.2.2.2.2.2.1
theorem dX4_with_20 : decode cX4_with 20 = .ok (.iastore, 1) := db_X4_with_0.2.2.2.2.2.2.2.2.2.2.2.2.2.2.1
theorem dX4_with_21 : decode cX4_with 21 = .ok (.aload_n 0, 1) := db_X4_with_0.2.2.2.2.2.2.2.2.2.2.2.2.2.2.2
theorem db_X4_with_22 : decode cX4_with 22 = .ok (.getfield 9, 3) ∧ decode cX4_with 25 = .ok (.iconst 3, 1) ∧ decode cX4_with 26 = .ok (.iload 4, 2) ∧ decode cX4_with 28 = .ok (.iastore, 1) ∧ decode cX4_with 29 = .ok (.aload_n 0, 1) ∧ decode cX4_with 30 = .ok (.getfield 9, 3) ∧ decode cX4_with 33 = .ok (.iconst 4, 1) ∧ decode cX4_with 34 = .ok (.iload 5, 2) ∧ decode cX4_with 36 = .ok (.iastore, 1) ∧ decode cX4_with 37 = .ok (.aload_n 0, 1) ∧ decode cX4_with 38 = .ok (.areturn, 1) := by decide +kernel
theorem dX4_with_22 : decode cX4_with 22 = .ok (.getfield 9, 3) := db_X4_with_22.1
theorem dX4_with_25 : decode cX4_with 25 = .ok (.iconst 3, 1) := db_X4_with_22.2.1
theorem dX4_with_26 : decode cX4_with 26 = .ok (.iload 4, 2) := db_X4_with_22.2.2.1
theorem dX4_with_28 : decode cX4_with 28 = .ok (.iastore, 1) := db_X4_with_22.2.2.2.1
theorem dX4_with_29 : decode cX4_with 29 = .ok (.aload_n 0, 1) := db_X4_with_22.2.2.2.2.1
theorem dX4_with_30 : decode cX4_with 30 = .ok (.getfield 9, 3) := db_X4_with_22.2.2.2.2.2.1
theorem dX4_with_33 : decode cX4_with 33 = .ok (.iconst 4, 1) := db_X4_with_22.2.2.2.2.2.2.1
theorem dX4_with_34 : decode cX4_with 34 = .ok (.iload 5, 2) := db_X4_with_22.2.2.2.2.2.2.2.1
theorem dX4_with_36 : decode cX4_with 36 = .ok (.iastore, 1) := db_X4_with_22.2.2.2.2.2.2.2.2.1
theorem dX4_with_37 : decode cX4_with 37 = .ok (.aload_n 0, 1) := db_X4_with_22.2.2.2.2.2.2.2.2.2.1
theorem dX4_with_38 : decode cX4_with 38 = .ok (.areturn, 1) := db_X4_with_22.2.2.2.2.2.2.2.2.2.2
theorem db_X5_init_0 : decode cX5_init 0 = .ok (.aload_n 0, 1) ∧ decode cX5_init 1 = .ok (.invokespecial 3, 3) ∧ decode cX5_init 4 = .ok (.aload_n 0, 1) ∧ decode cX5_init 5 = .ok (.iconst 4, 1) ∧ decode cX5_init 6 = .ok (.anewarray 9, 3) ∧ decode cX5_init 9 = .ok (.putfield 11, 3) ∧ decode cX5_init 12 = .ok (.aload_n 0, 1) ∧ decode cX5_init 13 = .ok (.bipush 8, 2) ∧ decode cX5_init 15 = .ok (.bipush 104, 2) ∧ decode cX5_init 17 = .ok (.multianewarray 17 2, 4) ∧ decode cX5_init 21 = .ok (.putfield 19, 3) ∧ decode cX5_init 24 = .ok (.aload_n 0, 1) ∧ decode cX5_init 25 = .ok (.aload_n 1, 1) ∧ decode cX5_init 26 = .ok (.putfield 22, 3) ∧ decode cX5_init 29 = .ok (.aload_n 0, 1) ∧ decode cX5_init 30 = .ok (.iload_n 2, 1) := by decide +kernel
theorem dX5_init_0 : decode cX5_init 0 = .ok (.aload_n 0, 1) := db_X5_init_0.1
theorem dX5_init_1 : decode cX5_init 1 = .ok (.invokespecial 3, 3) := db_X5_init_0.2.1
theorem dX5_init_4 : decode cX5_init 4 = .ok (.aload_n 0, 1) := db_X5_init_0.2.2.1
theorem dX5_init_5 : decode cX5_init 5 = .ok (.iconst 4, 1) := db_X5_init_0.2.2.2.1
theorem dX5_init_6 : decode cX5_init 6 = .ok (.anewarray 9, 3) := db_X5_init_0.2.2.2.2.1
theorem dX5_init_9 : decode cX5_init 9 = .ok (.putfield 11, 3) := db_X5_init_0.2.2.2.2.2.1
theorem dX5_init_12 : decode cX5_init 12 = .ok (.aload_n 0, 1) := db_X5_init_0.2.2.2.2.2.2.1
theorem dX5_init_13 : decode cX5_init 13 = .ok (.bipush 8, 2) := db_X5_init_0.2.2.2.2.2.2.2.1
theorem dX5_init_15 : decode cX5_init 15 = .ok (.bipush 104, 2) := db_X5_init_0.2.2.2.2.2.2.2.2.1
theorem dX5_init_17 : decode cX5_init 17 = .ok (.multianewarray 17 2, 4) := db_X5_init_0.2.2.2.2.2.2.2.2.2.1
theorem dX5_init_21 : decode cX5_init 21 = .ok (.putfield 19, 3) := db_X5_init_0.2.2.2.2.2.2.2.2.2.2.1
theorem dX5_init_24 : decode cX5_init 24 = .ok (.aload_n 0, 1) := db_X5_init_0.2.2.2.2.2.2.2.2.2.2.2.1
theorem dX5_init_25 : decode cX5_init 25 = .ok (.aload_n 1, 1) := db_X5_init_0.2.2.2.2.2.2.2.2.2.2.2.2.1
theorem dX5_init_26 : decode cX5_init 26 = .ok (.putfield 22, 3) := db_X5_init_0.2.2.2.2.2.2.2.2.2.2.2.2.2.1
theorem dX5_init_29 : decode cX5_init 29 = .ok (.aload_n 0, 1) := db_X5_init_0.2.2.2.2.2.2.2.2.2.2.2.2.2.2.1
theorem dX5_init_30 : decode cX5_init 30 = .ok (.iload_n 2, 1) := db_X5_init_0.2.2.2.2.2.2.2.2.2.2.2.2.2.2.2
theorem dX5_init_31 : decode cX5_init 31 = .ok (.putfield 26, 3) := by decide +kernel
theorem dX5_init_34 : decode cX5_init 34 = .ok (.return_, 1) := by decide +kernel
theorem db_X5_begin_0 : decode cX5_begin 0 = .ok (.iconst 0, 1) ∧ decode cX5_begin 1 = .ok (.istore_n 1, 1) ∧ decode cX5_begin 2 = .ok (.iload_n 1, 1) ∧ decode cX5_begin 3 = .ok (.iconst 4, 1) ∧ decode cX5_begin 4 = .ok (.if_icmp .ge 16, 3) ∧ decode cX5_begin 7 = .ok (.aload_n 0, 1) ∧ decode cX5_begin 8 = .ok (.getfield 11, 3) ∧ decode cX5_begin 11 = .ok (.iload_n 1, 1) ∧ decode cX5_begin 12 = .ok (.aconst_null, 1) ∧ decode cX5_begin 13 = .ok (.aastore, 1) ∧ decode cX5_begin 14 = .ok (.iinc 1 1, 3) ∧ decode cX5_begin 17 = .ok (.goto (-15), 3) ∧ decode cX5_begin 20 = .ok (.aload_n 0, 1) ∧ decode cX5_begin 21 = .ok (.invokevirtual 30, 3) ∧ decode cX5_begin 24 = .ok (.aload_n 0, 1) ∧ decode cX5_begin 25 = .ok (.iconst 1, 1) := by decide +kernel
theorem dX5_begin_0 : decode cX5_begin 0 = .ok (.iconst 0, 1) := db_X5_begin_0.1
theorem dX5_begin_1 : decode cX5_begin 1 = .ok (.istore_n 1, 1) := db_X5_begin_0.2.1
theorem dX5_begin_2 : decode cX5_begin 2 = .ok (.iload_n 1, 1) := db_X5_begin_0.2.2.1
theorem dX5_begin_3 : decode cX5_begin 3 = .ok (.iconst 4, 1) := db_X5_begin_0.2.2.2.1
theorem dX5_begin_4 : decode cX5_begin 4 = .ok (.if_icmp .ge 16, 3) := db_X5_begin_0.2.2.2.2.1
theorem dX5_begin_7 : decode cX5_begin 7 = .ok (.aload_n 0, 1) := db_X5_begin_0.2.2.2.2.2.1
theorem dX5_begin_8 : decode cX5_begin 8 = .ok (.getfield 11, 3) := db_X5_begin_0.2.2.2.2.2.2.1
theorem dX5_begin_11 : decode cX5_begin 11 = .ok (.iload_n 1, 1) := db_X5_begin_0.2.2.2.2.2.2.2.1
theorem dX5_begin_12 : decode cX5_begin 12 = .ok (.aconst_null, 1) := db_X5_begin_0.2.2.2.2.2.2.2.2.1
theorem dX5_begin_13 : decode cX5_begin 13 = .ok (.aastore, 1) := db_X5_begin_0.2.2.2.2.2.2.2.2.2.1
theorem dX5_begin_14 : decode cX5_begin 14 = .ok (.iinc 1 1, 3) := db_X5_begin_0.2.2.2.2.2.2.2.2.2.2.1
theorem dX5_begin_17 : decode cX5_begin 17 = .ok (.goto (-15), 3) := db_X5_begin_0.2.2.2.2.2.2.2.2.2.2.2.1
theorem dX5_begin_20 : decode cX5_begin 20 = .ok (.aload_n 0, 1) := db_X5_begin_0.2.2.2.2.2.2.2.2.2.2.2.2.1
theorem dX5_begin_21 : decode cX5_begin 21 = .ok (.invokevirtual 30, 3) := db_X5_begin_0.2.2.2.2.2.2.2.2.2.2.2.2.2.1
theorem dX5_begin_24 : decode cX5_begin 24 = .ok (.aload_n 0, 1) := db_X5_begin_0.2.2.2.2.2.2.2.2.2.2.2.2.2.2.1
theorem dX5_begin_25 : decode cX5_begin 25 = .ok (.iconst 1, 1) := db_X5_begin_0.2.2.2.2.2.2.2.2.2.2.2.2.2.2.2
theorem db_X5_begin_26 : decode cX5_begin 26 = .ok (.putfield 33, 3) ∧ decode cX5_begin 29 = .ok (.aload_n 0, 1) ∧ decode cX5_begin 30 = .ok (.iconst 0, 1) ∧ decode cX5_begin 31 = .ok (.putfield 37, 3) ∧ decode cX5_begin 34 = .ok (.aload_n 0, 1) ∧ decode cX5_begin 35 = .ok (.iconst 0, 1) ∧ decode cX5_begin 36 = .ok (.putfield 40, 3) ∧ decode cX5_begin 39 = .ok (.return_, 1) := by decide +kernel
theorem dX5_begin_26 : decode cX5_begin 26 = .ok (.putfield 33, 3) := db_X5_begin_26.1
theorem dX5_begin_29 : decode cX5_begin 29 = .ok (.aload_n 0, 1) := db_X5_begin_26.2.1
theorem dX5_begin_30 : decode cX5_begin 30 = .ok (.iconst 0, 1) := db_X5_begin_26.2.2.1
theorem dX5_begin_31 : decode cX5_begin 31 = .ok (.putfield 37, 3) := db_X5_begin_26.2.2.2.1
theorem dX5_begin_34 : decode cX5_begin 34 = .ok (.aload_n 0, 1) := db_X5_begin_26.2.2.2.2.1
theorem dX5_begin_35 : decode cX5_begin 35 = .ok (.iconst 0, 1) := db_X5_begin_26.2.2.2.2.2.1
theorem dX5_begin_36 : decode cX5_begin 36 = .ok (.putfield 40, 3) := db_X5_begin_26.2.2.2.2.2.2.1
theorem dX5_begin_39 : decode cX5_begin 39 = .ok (.return_, 1) := db_X5_begin_26.2.2.2.2.2.2.2
theorem db_X5_replicaOf_0 : decode cX5_replicaOf 0 = .ok (.iload_n 1, 1) ∧ decode cX5_replicaOf 1 = .ok (.ifCond .lt 8, 3) ∧ decode cX5_replicaOf 4 = .ok (.iload_n 1, 1) ∧ decode cX5_replicaOf 5 = .ok (.iconst 4, 1) ∧ decode cX5_replicaOf 6 = .ok (.if_icmp .lt 7, 3) ∧ decode cX5_replicaOf 9 = .ok (.aconst_null, 1) ∧ decode cX5_replicaOf 10 = .ok (.goto 9, 3) ∧ decode cX5_replicaOf 13 = .ok (.aload_n 0, 1) ∧ decode cX5_replicaOf 14 = .ok (.getfield 11, 3) ∧ decode cX5_replicaOf 17 = .ok (.iload_n 1, 1) ∧ decode cX5_replicaOf 18 = .ok (.aaload, 1) ∧ decode cX5_replicaOf 19 = .ok (.areturn, 1) := by decide +kernel
theorem dX5_replicaOf_0 : decode cX5_replicaOf 0 = .ok (.iload_n 1, 1) := db_X5_replicaOf_0.1
theorem dX5_replicaOf_1 : decode cX5_replicaOf 1 = .ok (.ifCond .lt 8, 3) := db_X5_replicaOf_0.2.1
theorem dX5_replicaOf_4 : decode cX5_replicaOf 4 = .ok (.iload_n 1, 1) := db_X5_replicaOf_0.2.2.1
theorem dX5_replicaOf_5 : decode cX5_replicaOf 5 = .ok (.iconst 4, 1) := db_X5_replicaOf_0.2.2.2.1
theorem dX5_replicaOf_6 : decode cX5_replicaOf 6 = .ok (.if_icmp .lt 7, 3) := db_X5_replicaOf_0.2.2.2.2.1
theorem dX5_replicaOf_9 : decode cX5_replicaOf 9 = .ok (.aconst_null, 1) := db_X5_replicaOf_0.2.2.2.2.2.1
theorem dX5_replicaOf_10 : decode cX5_replicaOf 10 = .ok (.goto 9, 3) := db_X5_replicaOf_0.2.2.2.2.2.2.1
theorem dX5_replicaOf_13 : decode cX5_replicaOf 13 = .ok (.aload_n 0, 1) := db_X5_replicaOf_0.2.2.2.2.2.2.2.1
theorem dX5_replicaOf_14 : decode cX5_replicaOf 14 = .ok (.getfield 11, 3) := db_X5_replicaOf_0.2.2.2.2.2.2.2.2.1
theorem dX5_replicaOf_17 : decode cX5_replicaOf 17 = .ok (.iload_n 1, 1) := db_X5_replicaOf_0.2.2.2.2.2.2.2.2.2.1
theorem dX5_replicaOf_18 : decode cX5_replicaOf 18 = .ok (.aaload, 1) := db_X5_replicaOf_0.2.2.2.2.2.2.2.2.2.2.1
theorem dX5_replicaOf_19 : decode cX5_replicaOf 19 = .ok (.areturn, 1) := db_X5_replicaOf_0.2.2.2.2.2.2.2.2.2.2.2
theorem db_X5_closeContexts_0 : decode cX5_closeContexts 0 = .ok (.iconst 0, 1) ∧ decode cX5_closeContexts 1 = .ok (.istore_n 1, 1) ∧ decode cX5_closeContexts 2 = .ok (.iload_n 1, 1) ∧ decode cX5_closeContexts 3 = .ok (.bipush 8, 2) ∧ decode cX5_closeContexts 5 = .ok (.if_icmp .ge 18, 3) ∧ decode cX5_closeContexts 8 = .ok (.aload_n 0, 1) ∧ decode cX5_closeContexts 9 = .ok (.getfield 19, 3) ∧ decode cX5_closeContexts 12 = .ok (.iload_n 1, 1) ∧ decode cX5_closeContexts 13 = .ok (.aaload, 1) ∧ decode cX5_closeContexts 14 = .ok (.iconst 0, 1) ∧ decode cX5_closeContexts 15 = .ok (.iconst (-1), 1) ∧ decode cX5_closeContexts 16 = .ok (.iastore, 1) ∧ decode cX5_closeContexts 17 = .ok (.iinc 1 1, 3) ∧ decode cX5_closeContexts 20 = .ok (.goto (-18), 3) ∧ decode cX5_closeContexts 23 = .ok (.return_, 1) := by decide +kernel
theorem dX5_closeContexts_0 : decode cX5_closeContexts 0 = .ok (.iconst 0, 1) := db_X5_closeContexts_0.1
theorem dX5_closeContexts_1 : decode cX5_closeContexts 1 = .ok (.istore_n 1, 1) := db_X5_closeContexts_0.2.1
theorem dX5_closeContexts_2 : decode cX5_closeContexts 2 = .ok (.iload_n 1, 1) := db_X5_closeContexts_0.2.2.1
theorem dX5_closeContexts_3 : decode cX5_closeContexts 3 = .ok (.bipush 8, 2) := db_X5_closeContexts_0.2.2.2.1
theorem dX5_closeContexts_5 : decode cX5_closeContexts 5 = .ok (.if_icmp .ge 18, 3) := db_X5_closeContexts_0.2.2.2.2.1
theorem dX5_closeContexts_8 : decode cX5_closeContexts 8 = .ok (.aload_n 0, 1) := db_X5_closeContexts_0.2.2.2.2.2.1
theorem dX5_closeContexts_9 : decode cX5_closeContexts 9 = .ok (.getfield 19, 3) := db_X5_closeContexts_0.2.2.2.2.2.2.1
theorem dX5_closeContexts_12 : decode cX5_closeContexts 12 = .ok (.iload_n 1, 1) := db_X5_closeContexts_0.2.2.2.2.2.2.2.1
theorem dX5_closeContexts_13 : decode cX5_closeContexts 13 = .ok (.aaload, 1) := db_X5_closeContexts_0.2.2.2.2.2.2.2.2.1
theorem dX5_closeContexts_14 : decode cX5_closeContexts 14 = .ok (.iconst 0, 1) := db_X5_closeContexts_0.2.2.2.2.2.2.2.2.2.1
theorem dX5_closeContexts_15 : decode cX5_closeContexts 15 = .ok (.iconst (-1), 1) := db_X5_closeContexts_0.2.2.2.2.2.2.2.2.2.2.1
theorem dX5_closeContexts_16 : decode cX5_closeContexts 16 = .ok (.iastore, 1) := db_X5_closeContexts_0.2.2.2.2.2.2.2.2.2.2.2.1
theorem dX5_closeContexts_17 : decode cX5_closeContexts 17 = .ok (.iinc 1 1, 3) := db_X5_closeContexts_0.2.2.2.2.2.2.2.2.2.2.2.2.1
theorem dX5_closeContexts_20 : decode cX5_closeContexts 20 = .ok (.goto (-18), 3) := db_X5_closeContexts_0.2.2.2.2.2.2.2.2.2.2.2.2.2.1
theorem dX5_closeContexts_23 : decode cX5_closeContexts 23 = .ok (.return_, 1) := db_X5_closeContexts_0.2.2.2.2.2.2.2.2.2.2.2.2.2.2
theorem db_X5_closeOldContexts_0 : decode cX5_closeOldContexts 0 = .ok (.iconst 0, 1) ∧ decode cX5_closeOldContexts 1 = .ok (.istore_n 1, 1) ∧ decode cX5_closeOldContexts 2 = .ok (.iload_n 1, 1) ∧ decode cX5_closeOldContexts 3 = .ok (.bipush 8, 2) ∧ decode cX5_closeOldContexts 5 = .ok (.if_icmp .ge 39, 3) ∧ decode cX5_closeOldContexts 8 = .ok (.aload_n 0, 1) ∧ decode cX5_closeOldContexts 9 = .ok (.getfield 22, 3) ∧ decode cX5_closeOldContexts 12 = .ok (.getfield 43, 3) ∧ decode cX5_closeOldContexts 15 = .ok (.aload_n 0, 1) ∧ decode cX5_closeOldContexts 16 = .ok (.getfield 19, 3) ∧ decode cX5_closeOldContexts 19 = .ok (.iload_n 1, 1) ∧ decode cX5_closeOldContexts 20 = .ok (.aaload, 1) ∧ decode cX5_closeOldContexts 21 = .ok (.iconst 3, 1) ∧ decode cX5_closeOldContexts 22 = .ok (.iaload, 1) ∧ decode cX5_closeOldContexts 23 = .ok (.isub, 1) ∧ decode cX5_closeOldContexts 24 = .ok (.bipush 12, 2) := by decide +kernel
theorem dX5_closeOldContexts_0 : decode cX5_closeOldContexts 0 = .ok (.iconst 0, 1) := db_X5_closeOldContexts_0.1
theorem dX5_closeOldContexts_1 : decode cX5_closeOldContexts 1 = .ok (.istore_n 1, 1) := db_X5_closeOldContexts_0.2.1
theorem dX5_closeOldContexts_2 : decode cX5_closeOldContexts 2 = .ok (.iload_n 1, 1) := db_X5_closeOldContexts_0.2.2.1
theorem dX5_closeOldContexts_3 : decode cX5_closeOldContexts 3 = .ok (.bipush 8, 2) := db_X5_closeOldContexts_0.2.2.2.1
theorem dX5_closeOldContexts_5 : decode cX5_closeOldContexts 5 = .ok (.if_icmp .ge 39, 3) := db_X5_closeOldContexts_0.2.2.2.2.1
theorem dX5_closeOldContexts_8 : decode cX5_closeOldContexts 8 = .ok (.aload_n 0, 1) := db_X5_closeOldContexts_0.2.2.2.2.2.1
theorem dX5_closeOldContexts_9 : decode cX5_closeOldContexts 9 = .ok (.getfield 22, 3) := db_X5_closeOldContexts_0.2.2.2.2.2.2.1
theorem dX5_closeOldContexts_12 : decode cX5_closeOldContexts 12 = .ok (.getfield 43, 3) := db_X5_closeOldContexts_0.2.2.2.2.2.2.2.1
theorem dX5_closeOldContexts_15 : decode cX5_closeOldContexts 15 = .ok (.aload_n 0, 1) := db_X5_closeOldContexts_0.2.2.2.2.2.2.2.2.1
theorem dX5_closeOldContexts_16 : decode cX5_closeOldContexts 16 = .ok (.getfield 19, 3) := db_X5_closeOldContexts_0.2.2.2.2.2.2.2.2.2.1
theorem dX5_closeOldContexts_19 : decode cX5_closeOldContexts 19 = .ok (.iload_n 1, 1) := db_X5_closeOldContexts_0.2.2.2.2.2.2.2.2.2.2.1
theorem dX5_closeOldContexts_20 : decode cX5_closeOldContexts 20 = .ok (.aaload, 1) := db_X5_closeOldContexts_0.2.2.2.2.2.2.2.2.2.2.2.1
theorem dX5_closeOldContexts_21 : decode cX5_closeOldContexts 21 = .ok (.iconst 3, 1) := db_X5_closeOldContexts_0.2.2.2.2.2.2.2.2.2.2.2.2.1
theorem dX5_closeOldContexts_22 : decode cX5_closeOldContexts 22 = .ok (.iaload, 1) := db_X5_closeOldContexts_0.2.2.2.2.2.2.2.2.2.2.2.2.2.1
theorem dX5_closeOldContexts_23 : decode cX5_closeOldContexts 23 = .ok (.isub, 1) := db_X5_closeOldContexts_0.2.2.2.2.2.2.2.2.2.2.2.2.2.2.1
theorem dX5_closeOldContexts_24 : decode cX5_closeOldContexts 24 = .ok (.bipush 12, 2) := db_X5_closeOldContexts_0.2.2.2.2.2.2.2.2.2.2.2.2.2.2.2
theorem db_X5_closeOldContexts_26 : decode cX5_closeOldContexts 26 = .ok (.if_icmp .lt 12, 3) ∧ decode cX5_closeOldContexts 29 = .ok (.aload_n 0, 1) ∧ decode cX5_closeOldContexts 30 = .ok (.getfield 19, 3) ∧ decode cX5_closeOldContexts 33 = .ok (.iload_n 1, 1) ∧ decode cX5_closeOldContexts 34 = .ok (.aaload, 1) ∧ decode cX5_closeOldContexts 35 = .ok (.iconst 0, 1) ∧ decode cX5_closeOldContexts 36 = .ok (.iconst (-1), 1) ∧ decode cX5_closeOldContexts 37 = .ok (.iastore, 1) ∧ decode cX5_closeOldContexts 38 = .ok (.iinc 1 1, 3) ∧ decode cX5_closeOldContexts 41 = .ok (.goto (-39), 3) ∧ decode cX5_closeOldContexts 44 = .ok (.return_, 1) := by decide +kernel
theorem dX5_closeOldContexts_26 : decode cX5_closeOldContexts 26 = .ok (.if_icmp .lt 12, 3) := db_X5_closeOldContexts_26.1
theorem dX5_closeOldContexts_29 : decode cX5_closeOldContexts 29 = .ok (.aload_n 0, 1) := db_X5_closeOldContexts_26.2.1
theorem dX5_closeOldContexts_30 : decode cX5_closeOldContexts 30 = .ok (.getfield 19, 3) := db_X5_closeOldContexts_26.2.2.1
theorem dX5_closeOldContexts_33 : decode cX5_closeOldContexts 33 = .ok (.iload_n 1, 1) := db_X5_closeOldContexts_26.2.2.2.1
theorem dX5_closeOldContexts_34 : decode cX5_closeOldContexts 34 = .ok (.aaload, 1) := db_X5_closeOldContexts_26.2.2.2.2.1
theorem dX5_closeOldContexts_35 : decode cX5_closeOldContexts 35 = .ok (.iconst 0, 1) := db_X5_closeOldContexts_26.2.2.2.2.2.1
theorem dX5_closeOldContexts_36 : decode cX5_closeOldContexts 36 = .ok (.iconst (-1), 1) := db_X5_closeOldContexts_26.2.2.2.2.2.2.1
theorem dX5_closeOldContexts_37 : decode cX5_closeOldContexts 37 = .ok (.iastore, 1) := db_X5_closeOldContexts_26.2.2.2.2.2.2.2.1
theorem dX5_closeOldContexts_38 : decode cX5_closeOldContexts 38 = .ok (.iinc 1 1, 3) := db_X5_closeOldContexts_26.2.2.2.2.2.2.2.2.1
theorem dX5_closeOldContexts_41 : decode cX5_closeOldContexts 41 = .ok (.goto (-39), 3) := db_X5_closeOldContexts_26.2.2.2.2.2.2.2.2.2.1
theorem dX5_closeOldContexts_44 : decode cX5_closeOldContexts 44 = .ok (.return_, 1) := db_X5_closeOldContexts_26.2.2.2.2.2.2.2.2.2.2
theorem db_X5_usedContexts_0 : decode cX5_usedContexts 0 = .ok (.iconst 0, 1) ∧ decode cX5_usedContexts 1 = .ok (.istore_n 1, 1) ∧ decode cX5_usedContexts 2 = .ok (.iconst 0, 1) ∧ decode cX5_usedContexts 3 = .ok (.istore_n 2, 1) ∧ decode cX5_usedContexts 4 = .ok (.iload_n 2, 1) ∧ decode cX5_usedContexts 5 = .ok (.bipush 8, 2) ∧ decode cX5_usedContexts 7 = .ok (.if_icmp .ge 24, 3) ∧ decode cX5_usedContexts 10 = .ok (.aload_n 0, 1) ∧ decode cX5_usedContexts 11 = .ok (.getfield 19, 3) ∧ decode cX5_usedContexts 14 = .ok (.iload_n 2, 1) ∧ decode cX5_usedContexts 15 = .ok (.aaload, 1) ∧ decode cX5_usedContexts 16 = .ok (.iconst 0, 1) ∧ decode cX5_usedContexts 17 = .ok (.iaload, 1) ∧ decode cX5_usedContexts 18 = .ok (.iconst (-1), 1) ∧ decode cX5_usedContexts 19 = .ok (.if_icmp .eq 6, 3) ∧ decode cX5_usedContexts 25 = .ok (.iinc 2 1, 3) := by decide +kernel
theorem dX5_usedContexts_0 : decode cX5_usedContexts 0 = .ok (.iconst 0, 1) := db_X5_usedContexts_0.1
theorem dX5_usedContexts_1 : decode cX5_usedContexts 1 = .ok (.istore_n 1, 1) := db_X5_usedContexts_0.2.1
theorem dX5_usedContexts_2 : decode cX5_usedContexts 2 = .ok (.iconst 0, 1) := db_X5_usedContexts_0.2.2.1
theorem dX5_usedContexts_3 : decode cX5_usedContexts 3 = .ok (.istore_n 2, 1) := db_X5_usedContexts_0.2.2.2.1
theorem dX5_usedContexts_4 : decode cX5_usedContexts 4 = .ok (.iload_n 2, 1) := db_X5_usedContexts_0.2.2.2.2.1
theorem dX5_usedContexts_5 : decode cX5_usedContexts 5 = .ok (.bipush 8, 2) := db_X5_usedContexts_0.2.2.2.2.2.1
theorem dX5_usedContexts_7 : decode cX5_usedContexts 7 = .ok (.if_icmp .ge 24, 3) := db_X5_usedContexts_0.2.2.2.2.2.2.1
theorem dX5_usedContexts_10 : decode cX5_usedContexts 10 = .ok (.aload_n 0, 1) := db_X5_usedContexts_0.2.2.2.2.2.2.2.1
theorem dX5_usedContexts_11 : decode cX5_usedContexts 11 = .ok (.getfield 19, 3) := db_X5_usedContexts_0.2.2.2.2.2.2.2.2.1
theorem dX5_usedContexts_14 : decode cX5_usedContexts 14 = .ok (.iload_n 2, 1) := db_X5_usedContexts_0.2.2.2.2.2.2.2.2.2.1
theorem dX5_usedContexts_15 : decode cX5_usedContexts 15 = .ok (.aaload, 1) := db_X5_usedContexts_0.2.2.2.2.2.2.2.2.2.2.1
theorem dX5_usedContexts_16 : decode cX5_usedContexts 16 = .ok (.iconst 0, 1) := db_X5_usedContexts_0.2.2.2.2.2.2.2.2.2.2.2.1
theorem dX5_usedContexts_17 : decode cX5_usedContexts 17 = .ok (.iaload, 1) := db_X5_usedContexts_0.2.2.2.2.2.2.2.2.2.2.2.2.1
theorem dX5_usedContexts_18 : decode cX5_usedContexts 18 = .ok (.iconst (-1), 1) := db_X5_usedContexts_0.2.2.2.2.2.2.2.2.2.2.2.2.2.1
theorem dX5_usedContexts_19 : decode cX5_usedContexts 19 = .ok (.if_icmp .eq 6, 3) := db_X5_usedContexts_0.2.2.2.2.2.2.2.2.2.2.2.2.2.2.1
theorem dX5_usedContexts_25 : decode cX5_usedContexts 25 = .ok (.iinc 2 1, 3) := db_X5_usedContexts_0.2.2.2.2.2.2.2.2.2.2.2.2.2.2.2
theorem db_X5_usedContexts_28 : decode cX5_usedContexts 28 = .ok (.goto (-24), 3) ∧ decode cX5_usedContexts 31 = .ok (.iload_n 1, 1) ∧ decode cX5_usedContexts 32 = .ok (.ireturn, 1) := by decide +kernel
theorem dX5_usedContexts_28 : decode cX5_usedContexts 28 = .ok (.goto (-24), 3) := db_X5_usedContexts_28.1
theorem dX5_usedContexts_31 : decode cX5_usedContexts 31 = .ok (.iload_n 1, 1) := db_X5_usedContexts_28.2.1
theorem dX5_usedContexts_32 : decode cX5_usedContexts 32 = .ok (.ireturn, 1) := db_X5_usedContexts_28.2.2
theorem db_X5_beat_0 : decode cX5_beat 0 = .ok (.aload_n 0, 1) ∧ decode cX5_beat 1 = .ok (.getfield 22, 3) ∧ decode cX5_beat 4 = .ok (.getfield 43, 3) ∧ decode cX5_beat 7 = .ok (.iconst 2, 1) ∧ decode cX5_beat 8 = .ok (.irem, 1) ∧ decode cX5_beat 9 = .ok (.ifCond .eq 4, 3) ∧ decode cX5_beat 12 = .ok (.return_, 1) ∧ decode cX5_beat 13 = .ok (.aload_n 0, 1) ∧ decode cX5_beat 14 = .ok (.getfield 22, 3) ∧ decode cX5_beat 17 = .ok (.aload_n 0, 1) ∧ decode cX5_beat 18 = .ok (.getfield 26, 3) ∧ decode cX5_beat 21 = .ok (.aload_n 0, 1) ∧ decode cX5_beat 22 = .ok (.getfield 22, 3) ∧ decode cX5_beat 25 = .ok (.getfield 48, 3) ∧ decode cX5_beat 28 = .ok (.bipush 16, 2) ∧ decode cX5_beat 30 = .ok (.invokevirtual 51, 3) := by decide +kernel
theorem dX5_beat_0 : decode cX5_beat 0 = .ok (.aload_n 0, 1) := db_X5_beat_0.1
theorem dX5_beat_1 : decode cX5_beat 1 = .ok (.getfield 22, 3) := db_X5_beat_0.2.1
theorem dX5_beat_4 : decode cX5_beat 4 = .ok (.getfield 43, 3) := db_X5_beat_0.2.2.1
theorem dX5_beat_7 : decode cX5_beat 7 = .ok (.iconst 2, 1) := db_X5_beat_0.2.2.2.1
theorem dX5_beat_8 : decode cX5_beat 8 = .ok (.irem, 1) := db_X5_beat_0.2.2.2.2.1
theorem dX5_beat_9 : decode cX5_beat 9 = .ok (.ifCond .eq 4, 3) := db_X5_beat_0.2.2.2.2.2.1
theorem dX5_beat_12 : decode cX5_beat 12 = .ok (.return_, 1) := db_X5_beat_0.2.2.2.2.2.2.1
theorem dX5_beat_13 : decode cX5_beat 13 = .ok (.aload_n 0, 1) := db_X5_beat_0.2.2.2.2.2.2.2.1
theorem dX5_beat_14 : decode cX5_beat 14 = .ok (.getfield 22, 3) := db_X5_beat_0.2.2.2.2.2.2.2.2.1
theorem dX5_beat_17 : decode cX5_beat 17 = .ok (.aload_n 0, 1) := db_X5_beat_0.2.2.2.2.2.2.2.2.2.1
theorem dX5_beat_18 : decode cX5_beat 18 = .ok (.getfield 26, 3) := db_X5_beat_0.2.2.2.2.2.2.2.2.2.2.1
theorem dX5_beat_21 : decode cX5_beat 21 = .ok (.aload_n 0, 1) := db_X5_beat_0.2.2.2.2.2.2.2.2.2.2.2.1
theorem dX5_beat_22 : decode cX5_beat 22 = .ok (.getfield 22, 3) := db_X5_beat_0.2.2.2.2.2.2.2.2.2.2.2.2.1
theorem dX5_beat_25 : decode cX5_beat 25 = .ok (.getfield 48, 3) := db_X5_beat_0.2.2.2.2.2.2.2.2.2.2.2.2.2.1
theorem dX5_beat_28 : decode cX5_beat 28 = .ok (.bipush 16, 2) := db_X5_beat_0.2.2.2.2.2.2.2.2.2.2.2.2.2.2.1
theorem dX5_beat_30 : decode cX5_beat 30 = .ok (.invokevirtual 51, 3) := db_X5_beat_0.2.2.2.2.2.2.2.2.2.2.2.2.2.2.2
theorem db_X5_beat_33 : decode cX5_beat 33 = .ok (.astore_n 1, 1) ∧ decode cX5_beat 34 = .ok (.iconst 0, 1) ∧ decode cX5_beat 35 = .ok (.istore_n 2, 1) ∧ decode cX5_beat 36 = .ok (.iload_n 2, 1) ∧ decode cX5_beat 37 = .ok (.iconst 4, 1) ∧ decode cX5_beat 38 = .ok (.if_icmp .ge 67, 3) ∧ decode cX5_beat 41 = .ok (.aload_n 0, 1) ∧ decode cX5_beat 42 = .ok (.getfield 11, 3) ∧ decode cX5_beat 45 = .ok (.iload_n 2, 1) ∧ decode cX5_beat 46 = .ok (.aaload, 1) ∧ decode cX5_beat 47 = .ok (.astore_n 3, 1) ∧ decode cX5_beat 48 = .ok (.aload_n 3, 1) ∧ decode cX5_beat 49 = .ok (.ifnull 50, 3) ∧ decode cX5_beat 52 = .ok (.aload_n 1, 1) ∧ decode cX5_beat 53 = .ok (.getfield 55, 3) ∧ decode cX5_beat 56 = .ok (.iconst 5, 1) := by decide +kernel
theorem dX5_beat_33 : decode cX5_beat 33 = .ok (.astore_n 1, 1) := db_X5_beat_33.1
theorem dX5_beat_34 : decode cX5_beat 34 = .ok (.iconst 0, 1) := db_X5_beat_33.2.1
theorem dX5_beat_35 : decode cX5_beat 35 = .ok (.istore_n 2, 1) := db_X5_beat_33.2.2.1
theorem dX5_beat_36 : decode cX5_beat 36 = .ok (.iload_n 2, 1) := db_X5_beat_33.2.2.2.1
theorem dX5_beat_37 : decode cX5_beat 37 = .ok (.iconst 4, 1) := db_X5_beat_33.2.2.2.2.1
theorem dX5_beat_38 : decode cX5_beat 38 = .ok (.if_icmp .ge 67, 3) := db_X5_beat_33.2.2.2.2.2.1
theorem dX5_beat_41 : decode cX5_beat 41 = .ok (.aload_n 0, 1) := db_X5_beat_33.2.2.2.2.2.2.1
theorem dX5_beat_42 : decode cX5_beat 42 = .ok (.getfield 11, 3) := db_X5_beat_33.2.2.2.2.2.2.2.1
theorem dX5_beat_45 : decode cX5_beat 45 = .ok (.iload_n 2, 1) := db_X5_beat_33.2.2.2.2.2.2.2.2.1
theorem dX5_beat_46 : decode cX5_beat 46 = .ok (.aaload, 1) := db_X5_beat_33.2.2.2.2.2.2.2.2.2.1
theorem dX5_beat_47 : decode cX5_beat 47 = .ok (.astore_n 3, 1) := db_X5_beat_33.2.2.2.2.2.2.2.2.2.2.1
theorem dX5_beat_48 : decode cX5_beat 48 = .ok (.aload_n 3, 1) := db_X5_beat_33.2.2.2.2.2.2.2.2.2.2.2.1
theorem dX5_beat_49 : decode cX5_beat 49 = .ok (.ifnull 50, 3) := db_X5_beat_33.2.2.2.2.2.2.2.2.2.2.2.2.1
theorem dX5_beat_52 : decode cX5_beat 52 = .ok (.aload_n 1, 1) := db_X5_beat_33.2.2.2.2.2.2.2.2.2.2.2.2.2.1
theorem dX5_beat_53 : decode cX5_beat 53 = .ok (.getfield 55, 3) := db_X5_beat_33.2.2.2.2.2.2.2.2.2.2.2.2.2.2.1
theorem dX5_beat_56 : decode cX5_beat 56 = .ok (.iconst 5, 1) := db_X5_beat_33.2.2.2.2.2.2.2.2.2.2.2.2.2.2.2
theorem db_X5_beat_57 : decode cX5_beat 57 = .ok (.iconst 2, 1) ∧ decode cX5_beat 58 = .ok (.iload_n 2, 1) ∧ decode cX5_beat 59 = .ok (.imul, 1) ∧ decode cX5_beat 60 = .ok (.iadd, 1) ∧ decode cX5_beat 61 = .ok (.aload_n 3, 1) ∧ decode cX5_beat 62 = .ok (.getfield 61, 3) ∧ decode cX5_beat 65 = .ok (.iconst 3, 1) ∧ decode cX5_beat 66 = .ok (.iaload, 1) ∧ decode cX5_beat 67 = .ok (.iastore, 1) ∧ decode cX5_beat 68 = .ok (.aload_n 1, 1) ∧ decode cX5_beat 69 = .ok (.getfield 55, 3) ∧ decode cX5_beat 72 = .ok (.iconst 5, 1) ∧ decode cX5_beat 73 = .ok (.iconst 2, 1) ∧ decode cX5_beat 74 = .ok (.iload_n 2, 1) ∧ decode cX5_beat 75 = .ok (.imul, 1) ∧ decode cX5_beat 76 = .ok (.iadd, 1) := by decide +kernel
theorem dX5_beat_57 : decode cX5_beat 57 = .ok (.iconst 2, 1) := db_X5_beat_57.1
theorem dX5_beat_58 : decode cX5_beat 58 = .ok (.iload_n 2, 1) := db_X5_beat_57.2.1
theorem dX5_beat_59 : decode cX5_beat 59 = .ok (.imul, 1) := db_X5_beat_57.2.2.1
theorem dX5_beat_60 : decode cX5_beat 60 = .ok (.iadd, 1) := db_X5_beat_57.2.2.2.1
theorem dX5_beat_61 : decode cX5_beat 61 = .ok (.aload_n 3, 1) := db_X5_beat_57.2.2.2.2.1
theorem dX5_beat_62 : decode cX5_beat 62 = .ok (.getfield 61, 3) := db_X5_beat_57.2.2.2.2.2.1
theorem dX5_beat_65 : decode cX5_beat 65 = .ok (.iconst 3, 1) := db_X5_beat_57.2.2.2.2.2.2.1
theorem dX5_beat_66 : decode cX5_beat 66 = .ok (.iaload, 1) := db_X5_beat_57.2.2.2.2.2.2.2.1
theorem dX5_beat_67 : decode cX5_beat 67 = .ok (.iastore, 1) := db_X5_beat_57.2.2.2.2.2.2.2.2.1
theorem dX5_beat_68 : decode cX5_beat 68 = .ok (.aload_n 1, 1) := db_X5_beat_57.2.2.2.2.2.2.2.2.2.1
theorem dX5_beat_69 : decode cX5_beat 69 = .ok (.getfield 55, 3) := db_X5_beat_57.2.2.2.2.2.2.2.2.2.2.1
theorem dX5_beat_72 : decode cX5_beat 72 = .ok (.iconst 5, 1) := db_X5_beat_57.2.2.2.2.2.2.2.2.2.2.2.1
theorem dX5_beat_73 : decode cX5_beat 73 = .ok (.iconst 2, 1) := db_X5_beat_57.2.2.2.2.2.2.2.2.2.2.2.2.1
theorem dX5_beat_74 : decode cX5_beat 74 = .ok (.iload_n 2, 1) := db_X5_beat_57.2.2.2.2.2.2.2.2.2.2.2.2.2.1
theorem dX5_beat_75 : decode cX5_beat 75 = .ok (.imul, 1) := db_X5_beat_57.2.2.2.2.2.2.2.2.2.2.2.2.2.2.1
theorem dX5_beat_76 : decode cX5_beat 76 = .ok (.iadd, 1) := db_X5_beat_57.2.2.2.2.2.2.2.2.2.2.2.2.2.2.2
theorem db_X5_beat_77 : decode cX5_beat 77 = .ok (.iconst 1, 1) ∧ decode cX5_beat 78 = .ok (.iadd, 1) ∧ decode cX5_beat 79 = .ok (.aload_n 3, 1) ∧ decode cX5_beat 80 = .ok (.getfield 64, 3) ∧ decode cX5_beat 83 = .ok (.iconst 2, 1) ∧ decode cX5_beat 84 = .ok (.if_icmp .ne 13, 3) ∧ decode cX5_beat 87 = .ok (.aload_n 3, 1) ∧ decode cX5_beat 88 = .ok (.getfield 67, 3) ∧ decode cX5_beat 91 = .ok (.getfield 71, 3) ∧ decode cX5_beat 94 = .ok (.goto 4, 3) ∧ decode cX5_beat 97 = .ok (.iconst 0, 1) ∧ decode cX5_beat 98 = .ok (.iastore, 1) ∧ decode cX5_beat 99 = .ok (.iinc 2 1, 3) ∧ decode cX5_beat 102 = .ok (.goto (-66), 3) ∧ decode cX5_beat 105 = .ok (.return_, 1) := by decide +kernel
theorem dX5_beat_77 : decode cX5_beat 77 = .ok (.iconst 1, 1) := db_X5_beat_77.1
theorem dX5_beat_78 : decode cX5_beat 78 = .ok (.iadd, 1) := db_X5_beat_77.2.1
theorem dX5_beat_79 : decode cX5_beat 79 = .ok (.aload_n 3, 1) := db_X5_beat_77.2.2.1
theorem dX5_beat_80 : decode cX5_beat 80 = .ok (.getfield 64, 3) := db_X5_beat_77.2.2.2.1
theorem dX5_beat_83 : decode cX5_beat 83 = .ok (.iconst 2, 1) := db_X5_beat_77.2.2.2.2.1
theorem dX5_beat_84 : decode cX5_beat 84 = .ok (.if_icmp .ne 13, 3) := db_X5_beat_77.2.2.2.2.2.1
theorem dX5_beat_87 : decode cX5_beat 87 = .ok (.aload_n 3, 1) := db_X5_beat_77.2.2.2.2.2.2.1
theorem dX5_beat_88 : decode cX5_beat 88 = .ok (.getfield 67, 3) := db_X5_beat_77.2.2.2.2.2.2.2.1
theorem dX5_beat_91 : decode cX5_beat 91 = .ok (.getfield 71, 3) := db_X5_beat_77.2.2.2.2.2.2.2.2.1
theorem dX5_beat_94 : decode cX5_beat 94 = .ok (.goto 4, 3) := db_X5_beat_77.2.2.2.2.2.2.2.2.2.1
theorem dX5_beat_97 : decode cX5_beat 97 = .ok (.iconst 0, 1) := db_X5_beat_77.2.2.2.2.2.2.2.2.2.2.1
theorem dX5_beat_98 : decode cX5_beat 98 = .ok (.iastore, 1) := db_X5_beat_77.2.2.2.2.2.2.2.2.2.2.2.1
theorem dX5_beat_99 : decode cX5_beat 99 = .ok (.iinc 2 1, 3) := db_X5_beat_77.2.2.2.2.2.2.2.2.2.2.2.2.1
theorem dX5_beat_102 : decode cX5_beat 102 = .ok (.goto (-66), 3) := db_X5_beat_77.2.2.2.2.2.2.2.2.2.2.2.2.2.1
theorem dX5_beat_105 : decode cX5_beat 105 = .ok (.return_, 1) := db_X5_beat_77.2.2.2.2.2.2.2.2.2.2.2.2.2.2
theorem db_X6_init_0 : decode cX6_init 0 = .ok (.aload_n 0, 1) ∧ decode cX6_init 1 = .ok (.invokespecial 3, 3) ∧ decode cX6_init 4 = .ok (.aload_n 0, 1) ∧ decode cX6_init 5 = .ok (.bipush 6, 2) ∧ decode cX6_init 7 = .ok (.newarray .int, 2) ∧ decode cX6_init 9 = .ok (.putfield 9, 3) ∧ decode cX6_init 12 = .ok (.aload_n 0, 1) ∧ decode cX6_init 13 = .ok (.bipush 6, 2) ∧ decode cX6_init 15 = .ok (.newarray .int, 2) ∧ decode cX6_init 17 = .ok (.putfield 15, 3) ∧ decode cX6_init 20 = .ok (.aload_n 0, 1) ∧ decode cX6_init 21 = .ok (.bipush 24, 2) ∧ decode cX6_init 23 = .ok (.newarray .long, 2) ∧ decode cX6_init 25 = .ok (.putfield 18, 3) ∧ decode cX6_init 28 = .ok (.return_, 1) := by decide +kernel
theorem dX6_init_0 : decode cX6_init 0 = .ok (.aload_n 0, 1) := db_X6_init_0.1
theorem dX6_init_1 : decode cX6_init 1 = .ok (.invokespecial 3, 3) := db_X6_init_0.2.1
theorem dX6_init_4 : decode cX6_init 4 = .ok (.aload_n 0, 1) := db_X6_init_0.2.2.1
theorem dX6_init_5 : decode cX6_init 5 = .ok (.bipush 6, 2) := db_X6_init_0.2.2.2.1
theorem dX6_init_7 : decode cX6_init 7 = .ok (.newarray .int, 2) := db_X6_init_0.2.2.2.2.1
theorem dX6_init_9 : decode cX6_init 9 = .ok (.putfield 9, 3) := db_X6_init_0.2.2.2.2.2.1
theorem dX6_init_12 : decode cX6_init 12 = .ok (.aload_n 0, 1) := db_X6_init_0.2.2.2.2.2.2.1
theorem dX6_init_13 : decode cX6_init 13 = .ok (.bipush 6, 2) := db_X6_init_0.2.2.2.2.2.2.2.1
theorem dX6_init_15 : decode cX6_init 15 = .ok (.newarray .int, 2) := db_X6_init_0.2.2.2.2.2.2.2.2.1
theorem dX6_init_17 : decode cX6_init 17 = .ok (.putfield 15, 3) := db_X6_init_0.2.2.2.2.2.2.2.2.2.1
theorem dX6_init_20 : decode cX6_init 20 = .ok (.aload_n 0, 1) := db_X6_init_0.2.2.2.2.2.2.2.2.2.2.1
theorem dX6_init_21 : decode cX6_init 21 = .ok (.bipush 24, 2) := db_X6_init_0.2.2.2.2.2.2.2.2.2.2.2.1
theorem dX6_init_23 : decode cX6_init 23 = .ok (.newarray .long, 2) := db_X6_init_0.2.2.2.2.2.2.2.2.2.2.2.2.1
theorem dX6_init_25 : decode cX6_init 25 = .ok (.putfield 18, 3) := db_X6_init_0.2.2.2.2.2.2.2.2.2.2.2.2.2.1
theorem dX6_init_28 : decode cX6_init 28 = .ok (.return_, 1) := db_X6_init_0.2.2.2.2.2.2.2.2.2.2.2.2.2.2
theorem db_X6_read_0 : decode cX6_read 0 = .ok (.iconst 0, 1) ∧ decode cX6_read 1 = .ok (.istore_n 3, 1) ∧ decode cX6_read 2 = .ok (.iconst 0, 1) ∧ decode cX6_read 3 = .ok (.istore 4, 2) ∧ decode cX6_read 5 = .ok (.iconst 0, 1) ∧ decode cX6_read 6 = .ok (.istore 5, 2) ∧ decode cX6_read 8 = .ok (.iload 5, 2) ∧ decode cX6_read 10 = .ok (.iload_n 2, 1) ∧ decode cX6_read 11 = .ok (.if_icmp .ge 61, 3) ∧ decode cX6_read 72 = .ok (.iload_n 3, 1) ∧ decode cX6_read 73 = .ok (.ifCond .ne 10, 3) ∧ decode cX6_read 76 = .ok (.iload_n 2, 1) ∧ decode cX6_read 77 = .ok (.invokestatic 22, 3) ∧ decode cX6_read 80 = .ok (.goto 4, 3) ∧ decode cX6_read 84 = .ok (.ireturn, 1) := by decide +kernel
theorem dX6_read_0 : decode cX6_read 0 = .ok (.iconst 0, 1) := db_X6_read_0.1
theorem dX6_read_1 : decode cX6_read 1 = .ok (.istore_n 3, 1) := db_X6_read_0.2.1
theorem dX6_read_2 : decode cX6_read 2 = .ok (.iconst 0, 1) := db_X6_read_0.2.2.1
theorem dX6_read_3 : decode cX6_read 3 = .ok (.istore 4, 2) := db_X6_read_0.2.2.2.1
theorem dX6_read_5 : decode cX6_read 5 = .ok (.iconst 0, 1) := db_X6_read_0.2.2.2.2.1
theorem dX6_read_6 : decode cX6_read 6 = .ok (.istore 5, 2) := db_X6_read_0.2.2.2.2.2.1
theorem dX6_read_8 : decode cX6_read 8 = .ok (.iload 5, 2) := db_X6_read_0.2.2.2.2.2.2.1
theorem dX6_read_10 : decode cX6_read 10 = .ok (.iload_n 2, 1) := db_X6_read_0.2.2.2.2.2.2.2.1
theorem dX6_read_11 : decode cX6_read 11 = .ok (.if_icmp .ge 61, 3) := db_X6_read_0.2.2.2.2.2.2.2.2.1
theorem dX6_read_72 : decode cX6_read 72 = .ok (.iload_n 3, 1) := db_X6_read_0.2.2.2.2.2.2.2.2.2.1
theorem dX6_read_73 : decode cX6_read 73 = .ok (.ifCond .ne 10, 3) := db_X6_read_0.2.2.2.2.2.2.2.2.2.2.1
theorem dX6_read_76 : decode cX6_read 76 = .ok (.iload_n 2, 1) := db_X6_read_0.2.2.2.2.2.2.2.2.2.2.2.1
theorem dX6_read_77 : decode cX6_read 77 = .ok (.invokestatic 22, 3) := db_X6_read_0.2.2.2.2.2.2.2.2.2.2.2.2.1
theorem dX6_read_80 : decode cX6_read 80 = .ok (.goto 4, 3) := db_X6_read_0.2.2.2.2.2.2.2.2.2.2.2.2.2.1
theorem dX6_read_84 : decode cX6_read 84 = .ok (.ireturn, 1) := db_X6_read_0.2.2.2.2.2.2.2.2.2.2.2.2.2.2
theorem db_X6_fault_0 : decode cX6_fault 0 = .ok (.bipush (-2), 2) ∧ decode cX6_fault 2 = .ok (.iload_n 0, 1) ∧ decode cX6_fault 3 = .ok (.isub, 1) ∧ decode cX6_fault 4 = .ok (.ireturn, 1) := by decide +kernel
theorem dX6_fault_0 : decode cX6_fault 0 = .ok (.bipush (-2), 2) := db_X6_fault_0.1
theorem dX6_fault_2 : decode cX6_fault 2 = .ok (.iload_n 0, 1) := db_X6_fault_0.2.1
theorem dX6_fault_3 : decode cX6_fault 3 = .ok (.isub, 1) := db_X6_fault_0.2.2.1
theorem dX6_fault_4 : decode cX6_fault 4 = .ok (.ireturn, 1) := db_X6_fault_0.2.2.2
theorem db_X7_init_0 : decode cX7_init 0 = .ok (.aload_n 0, 1) ∧ decode cX7_init 1 = .ok (.invokespecial 3, 3) ∧ decode cX7_init 4 = .ok (.aload_n 0, 1) ∧ decode cX7_init 5 = .ok (.iconst 4, 1) ∧ decode cX7_init 6 = .ok (.newarray .int, 2) ∧ decode cX7_init 8 = .ok (.putfield 9, 3) ∧ decode cX7_init 11 = .ok (.aload_n 0, 1) ∧ decode cX7_init 12 = .ok (.iconst 5, 1) ∧ decode cX7_init 13 = .ok (.newarray .int, 2) ∧ decode cX7_init 15 = .ok (.putfield 15, 3) ∧ decode cX7_init 18 = .ok (.aload_n 0, 1) ∧ decode cX7_init 19 = .ok (.iconst 5, 1) ∧ decode cX7_init 20 = .ok (.newarray .int, 2) ∧ decode cX7_init 22 = .ok (.putfield 18, 3) ∧ decode cX7_init 25 = .ok (.aload_n 0, 1) ∧ decode cX7_init 26 = .ok (.iconst 5, 1) := by decide +kernel
theorem dX7_init_0 : decode cX7_init 0 = .ok (.aload_n 0, 1) := db_X7_init_0.1
theorem dX7_init_1 : decode cX7_init 1 = .ok (.invokespecial 3, 3) := db_X7_init_0.2.1
theorem dX7_init_4 : decode cX7_init 4 = .ok (.aload_n 0, 1) := db_X7_init_0.2.2.1
theorem dX7_init_5 : decode cX7_init 5 = .ok (.iconst 4, 1) := db_X7_init_0.2.2.2.1
theorem dX7_init_6 : decode cX7_init 6 = .ok (.newarray .int, 2) := db_X7_init_0.2.2.2.2.1
theorem dX7_init_8 : decode cX7_init 8 = .ok (.putfield 9, 3) := db_X7_init_0.2.2.2.2.2.1
theorem dX7_init_11 : decode cX7_init 11 = .ok (.aload_n 0, 1) := db_X7_init_0.2.2.2.2.2.2.1
theorem dX7_init_12 : decode cX7_init 12 = .ok (.iconst 5, 1) := db_X7_init_0.2.2.2.2.2.2.2.1
theorem dX7_init_13 : decode cX7_init 13 = .ok (.newarray .int, 2) := db_X7_init_0.2.2.2.2.2.2.2.2.1
theorem dX7_init_15 : decode cX7_init 15 = .ok (.putfield 15, 3) := db_X7_init_0.2.2.2.2.2.2.2.2.2.1
theorem dX7_init_18 : decode cX7_init 18 = .ok (.aload_n 0, 1) := db_X7_init_0.2.2.2.2.2.2.2.2.2.2.1
theorem dX7_init_19 : decode cX7_init 19 = .ok (.iconst 5, 1) := db_X7_init_0.2.2.2.2.2.2.2.2.2.2.2.1
theorem dX7_init_20 : decode cX7_init 20 = .ok (.newarray .int, 2) := db_X7_init_0.2.2.2.2.2.2.2.2.2.2.2.2.1
theorem dX7_init_22 : decode cX7_init 22 = .ok (.putfield 18, 3) := db_X7_init_0.2.2.2.2.2.2.2.2.2.2.2.2.2.1
theorem dX7_init_25 : decode cX7_init 25 = .ok (.aload_n 0, 1) := db_X7_init_0.2.2.2.2.2.2.2.2.2.2.2.2.2.2.1
theorem dX7_init_26 : decode cX7_init 26 = .ok (.iconst 5, 1) := db_X7_init_0.2.2.2.2.2.2.2.2.2.2.2.2.2.2.2
theorem db_X7_init_27 : decode cX7_init 27 = .ok (.newarray .int, 2) ∧ decode cX7_init 29 = .ok (.putfield 21, 3) ∧ decode cX7_init 32 = .ok (.aload_n 0, 1) ∧ decode cX7_init 33 = .ok (.iconst 5, 1) ∧ decode cX7_init 34 = .ok (.newarray .int, 2) ∧ decode cX7_init 36 = .ok (.putfield 24, 3) ∧ decode cX7_init 39 = .ok (.aload_n 0, 1) ∧ decode cX7_init 40 = .ok (.iconst 5, 1) ∧ decode cX7_init 41 = .ok (.newarray .int, 2) ∧ decode cX7_init 43 = .ok (.putfield 27, 3) ∧ decode cX7_init 46 = .ok (.aload_n 0, 1) ∧ decode cX7_init 47 = .ok (.iconst 5, 1) ∧ decode cX7_init 48 = .ok (.newarray .int, 2) ∧ decode cX7_init 50 = .ok (.putfield 30, 3) ∧ decode cX7_init 53 = .ok (.aload_n 0, 1) ∧ decode cX7_init 54 = .ok (.bipush 20, 2) := by decide +kernel
theorem dX7_init_27 : decode cX7_init 27 = .ok (.newarray .int, 2) := db_X7_init_27.1
theorem dX7_init_29 : decode cX7_init 29 = .ok (.putfield 21, 3) := db_X7_init_27.2.1
theorem dX7_init_32 : decode cX7_init 32 = .ok (.aload_n 0, 1) := db_X7_init_27.2.2.1
theorem dX7_init_33 : decode cX7_init 33 = .ok (.iconst 5, 1) := db_X7_init_27.2.2.2.1
theorem dX7_init_34 : decode cX7_init 34 = .ok (.newarray .int, 2) := db_X7_init_27.2.2.2.2.1
theorem dX7_init_36 : decode cX7_init 36 = .ok (.putfield 24, 3) := db_X7_init_27.2.2.2.2.2.1
theorem dX7_init_39 : decode cX7_init 39 = .ok (.aload_n 0, 1) := db_X7_init_27.2.2.2.2.2.2.1
theorem dX7_init_40 : decode cX7_init 40 = .ok (.iconst 5, 1) := db_X7_init_27.2.2.2.2.2.2.2.1
theorem dX7_init_41 : decode cX7_init 41 = .ok (.newarray .int, 2) := db_X7_init_27.2.2.2.2.2.2.2.2.1
theorem dX7_init_43 : decode cX7_init 43 = .ok (.putfield 27, 3) := db_X7_init_27.2.2.2.2.2.2.2.2.2.1
theorem dX7_init_46 : decode cX7_init 46 = .ok (.aload_n 0, 1) := db_X7_init_27.2.2.2.2.2.2.2.2.2.2.1
theorem dX7_init_47 : decode cX7_init 47 = .ok (.iconst 5, 1) := db_X7_init_27.2.2.2.2.2.2.2.2.2.2.2.1
theorem dX7_init_48 : decode cX7_init 48 = .ok (.newarray .int, 2) := db_X7_init_27.2.2.2.2.2.2.2.2.2.2.2.2.1
theorem dX7_init_50 : decode cX7_init 50 = .ok (.putfield 30, 3) := db_X7_init_27.2.2.2.2.2.2.2.2.2.2.2.2.2.1
theorem dX7_init_53 : decode cX7_init 53 = .ok (.aload_n 0, 1) := db_X7_init_27.2.2.2.2.2.2.2.2.2.2.2.2.2.2.1
theorem dX7_init_54 : decode cX7_init 54 = .ok (.bipush 20, 2) := db_X7_init_27.2.2.2.2.2.2.2.2.2.2.2.2.2.2.2
theorem db_X7_init_56 : decode cX7_init 56 = .ok (.newarray .int, 2) ∧ decode cX7_init 58 = .ok (.putfield 33, 3) ∧ decode cX7_init 61 = .ok (.aload_n 0, 1) ∧ decode cX7_init 62 = .ok (.bipush 20, 2) ∧ decode cX7_init 64 = .ok (.newarray .int, 2) ∧ decode cX7_init 66 = .ok (.putfield 36, 3) ∧ decode cX7_init 69 = .ok (.aload_n 0, 1) ∧ decode cX7_init 70 = .ok (.aload_n 1, 1) ∧ decode cX7_init 71 = .ok (.putfield 39, 3) ∧ decode cX7_init 74 = .ok (.aload_n 0, 1) ∧ decode cX7_init 75 = .ok (.new 43, 3) ∧ decode cX7_init 78 = .ok (.dup, 1) ∧ decode cX7_init 79 = .ok (.aload_n 1, 1) ∧ decode cX7_init 80 = .ok (.invokespecial 45, 3) ∧ decode cX7_init 83 = .ok (.putfield 48, 3) ∧ decode cX7_init 86 = .ok (.return_, 1) := by decide +kernel
theorem dX7_init_56 : decode cX7_init 56 = .ok (.newarray .int, 2) := db_X7_init_56.1
theorem dX7_init_58 : decode cX7_init 58 = .ok (.putfield 33, 3) := db_X7_init_56.2.1
theorem dX7_init_61 : decode cX7_init 61 = .ok (.aload_n 0, 1) := db_X7_init_56.2.2.1
theorem dX7_init_62 : decode cX7_init 62 = .ok (.bipush 20, 2) := db_X7_init_56.2.2.2.1
theorem dX7_init_64 : decode cX7_init 64 = .ok (.newarray .int, 2) := db_X7_init_56.2.2.2.2.1
theorem dX7_init_66 : decode cX7_init 66 = .ok (.putfield 36, 3) := db_X7_init_56.2.2.2.2.2.1
theorem dX7_init_69 : decode cX7_init 69 = .ok (.aload_n 0, 1) := db_X7_init_56.2.2.2.2.2.2.1
theorem dX7_init_70 : decode cX7_init 70 = .ok (.aload_n 1, 1) := db_X7_init_56.2.2.2.2.2.2.2.1
theorem dX7_init_71 : decode cX7_init 71 = .ok (.putfield 39, 3) := db_X7_init_56.2.2.2.2.2.2.2.2.1
theorem dX7_init_74 : decode cX7_init 74 = .ok (.aload_n 0, 1) := db_X7_init_56.2.2.2.2.2.2.2.2.2.1
theorem dX7_init_75 : decode cX7_init 75 = .ok (.new 43, 3) := db_X7_init_56.2.2.2.2.2.2.2.2.2.2.1
theorem dX7_init_78 : decode cX7_init 78 = .ok (.dup, 1) := db_X7_init_56.2.2.2.2.2.2.2.2.2.2.2.1
theorem dX7_init_79 : decode cX7_init 79 = .ok (.aload_n 1, 1) := db_X7_init_56.2.2.2.2.2.2.2.2.2.2.2.2.1
theorem dX7_init_80 : decode cX7_init 80 = .ok (.invokespecial 45, 3) := db_X7_init_56.2.2.2.2.2.2.2.2.2.2.2.2.2.1
theorem dX7_init_83 : decode cX7_init 83 = .ok (.putfield 48, 3) := db_X7_init_56.2.2.2.2.2.2.2.2.2.2.2.2.2.2.1
theorem dX7_init_86 : decode cX7_init 86 = .ok (.return_, 1) := db_X7_init_56.2.2.2.2.2.2.2.2.2.2.2.2.2.2.2
theorem db_X7_begin_0 : decode cX7_begin 0 = .ok (.aload_n 0, 1) ∧ decode cX7_begin 1 = .ok (.aload_n 1, 1) ∧ decode cX7_begin 2 = .ok (.getfield 52, 3) ∧ decode cX7_begin 5 = .ok (.putfield 58, 3) ∧ decode cX7_begin 8 = .ok (.aload_n 0, 1) ∧ decode cX7_begin 9 = .ok (.getfield 48, 3) ∧ decode cX7_begin 12 = .ok (.aload_n 1, 1) ∧ decode cX7_begin 13 = .ok (.iload_n 2, 1) ∧ decode cX7_begin 14 = .ok (.invokevirtual 61, 3) ∧ decode cX7_begin 17 = .ok (.aload_n 0, 1) ∧ decode cX7_begin 18 = .ok (.getfield 9, 3) ∧ decode cX7_begin 21 = .ok (.iconst 0, 1) ∧ decode cX7_begin 22 = .ok (.iconst 1, 1) ∧ decode cX7_begin 23 = .ok (.iastore, 1) ∧ decode cX7_begin 24 = .ok (.aload_n 0, 1) ∧ decode cX7_begin 25 = .ok (.getfield 9, 3) := by decide +kernel
theorem dX7_begin_0 : decode cX7_begin 0 = .ok (.aload_n 0, 1) := db_X7_begin_0.1
theorem dX7_begin_1 : decode cX7_begin 1 = .ok (.aload_n 1, 1) := db_X7_begin_0.2.1
theorem dX7_begin_2 : decode cX7_begin 2 = .ok (.getfield 52, 3) := db_X7_begin_0.2.2.1
theorem dX7_begin_5 : decode cX7_begin 5 = .ok (.putfield 58, 3) := db_X7_begin_0.2.2.2.1
theorem dX7_begin_8 : decode cX7_begin 8 = .ok (.aload_n 0, 1) := db_X7_begin_0.2.2.2.2.1
theorem dX7_begin_9 : decode cX7_begin 9 = .ok (.getfield 48, 3) := db_X7_begin_0.2.2.2.2.2.1
theorem dX7_begin_12 : decode cX7_begin 12 = .ok (.aload_n 1, 1) := db_X7_begin_0.2.2.2.2.2.2.1
theorem dX7_begin_13 : decode cX7_begin 13 = .ok (.iload_n 2, 1) := db_X7_begin_0.2.2.2.2.2.2.2.1
theorem dX7_begin_14 : decode cX7_begin 14 = .ok (.invokevirtual 61, 3) := db_X7_begin_0.2.2.2.2.2.2.2.2.1
theorem dX7_begin_17 : decode cX7_begin 17 = .ok (.aload_n 0, 1) := db_X7_begin_0.2.2.2.2.2.2.2.2.2.1
theorem dX7_begin_18 : decode cX7_begin 18 = .ok (.getfield 9, 3) := db_X7_begin_0.2.2.2.2.2.2.2.2.2.2.1
theorem dX7_begin_21 : decode cX7_begin 21 = .ok (.iconst 0, 1) := db_X7_begin_0.2.2.2.2.2.2.2.2.2.2.2.1
theorem dX7_begin_22 : decode cX7_begin 22 = .ok (.iconst 1, 1) := db_X7_begin_0.2.2.2.2.2.2.2.2.2.2.2.2.1
theorem dX7_begin_23 : decode cX7_begin 23 = .ok (.iastore, 1) := db_X7_begin_0.2.2.2.2.2.2.2.2.2.2.2.2.2.1
theorem dX7_begin_24 : decode cX7_begin 24 = .ok (.aload_n 0, 1) := db_X7_begin_0.2.2.2.2.2.2.2.2.2.2.2.2.2.2.1
theorem dX7_begin_25 : decode cX7_begin 25 = .ok (.getfield 9, 3) := db_X7_begin_0.2.2.2.2.2.2.2.2.2.2.2.2.2.2.2
theorem db_X7_begin_28 : decode cX7_begin 28 = .ok (.iconst 1, 1) ∧ decode cX7_begin 29 = .ok (.aload_n 0, 1) ∧ decode cX7_begin 30 = .ok (.getfield 39, 3) ∧ decode cX7_begin 33 = .ok (.iload_n 2, 1) ∧ decode cX7_begin 34 = .ok (.invokevirtual 65, 3) ∧ decode cX7_begin 37 = .ok (.iastore, 1) ∧ decode cX7_begin 38 = .ok (.aload_n 0, 1) ∧ decode cX7_begin 39 = .ok (.getfield 9, 3) ∧ decode cX7_begin 42 = .ok (.iconst 2, 1) ∧ decode cX7_begin 43 = .ok (.aload_n 0, 1) ∧ decode cX7_begin 44 = .ok (.getfield 39, 3) ∧ decode cX7_begin 47 = .ok (.iload_n 2, 1) ∧ decode cX7_begin 48 = .ok (.invokevirtual 71, 3) ∧ decode cX7_begin 51 = .ok (.iastore, 1) ∧ decode cX7_begin 52 = .ok (.aload_n 0, 1) ∧ decode cX7_begin 53 = .ok (.getfield 9, 3) := by decide +kernel
theorem dX7_begin_28 : decode cX7_begin 28 = .ok (.iconst 1, 1) := db_X7_begin_28.1
theorem dX7_begin_29 : decode cX7_begin 29 = .ok (.aload_n 0, 1) := db_X7_begin_28.2.1
theorem dX7_begin_30 : decode cX7_begin 30 = .ok (.getfield 39, 3) := db_X7_begin_28.2.2.1
theorem dX7_begin_33 : decode cX7_begin 33 = .ok (.iload_n 2, 1) := db_X7_begin_28.2.2.2.1
theorem dX7_begin_34 : decode cX7_begin 34 = .ok (.invokevirtual 65, 3) := db_X7_begin_28.2.2.2.2.1
theorem dX7_begin_37 : decode cX7_begin 37 = .ok (.iastore, 1) := db_X7_begin_28.2.2.2.2.2.1
theorem dX7_begin_38 : decode cX7_begin 38 = .ok (.aload_n 0, 1) := db_X7_begin_28.2.2.2.2.2.2.1
theorem dX7_begin_39 : decode cX7_begin 39 = .ok (.getfield 9, 3) := db_X7_begin_28.2.2.2.2.2.2.2.1
theorem dX7_begin_42 : decode cX7_begin 42 = .ok (.iconst 2, 1) := db_X7_begin_28.2.2.2.2.2.2.2.2.1
theorem dX7_begin_43 : decode cX7_begin 43 = .ok (.aload_n 0, 1) := db_X7_begin_28.2.2.2.2.2.2.2.2.2.1
theorem dX7_begin_44 : decode cX7_begin 44 = .ok (.getfield 39, 3) := db_X7_begin_28.2.2.2.2.2.2.2.2.2.2.1
theorem dX7_begin_47 : decode cX7_begin 47 = .ok (.iload_n 2, 1) := db_X7_begin_28.2.2.2.2.2.2.2.2.2.2.2.1
theorem dX7_begin_48 : decode cX7_begin 48 = .ok (.invokevirtual 71, 3) := db_X7_begin_28.2.2.2.2.2.2.2.2.2.2.2.2.1
theorem dX7_begin_51 : decode cX7_begin 51 = .ok (.iastore, 1) := db_X7_begin_28.2.2.2.2.2.2.2.2.2.2.2.2.2.1
theorem dX7_begin_52 : decode cX7_begin 52 = .ok (.aload_n 0, 1) := db_X7_begin_28.2.2.2.2.2.2.2.2.2.2.2.2.2.2.1
theorem dX7_begin_53 : decode cX7_begin 53 = .ok (.getfield 9, 3) := db_X7_begin_28.2.2.2.2.2.2.2.2.2.2.2.2.2.2.2
theorem db_X7_begin_56 : decode cX7_begin 56 = .ok (.iconst 3, 1) ∧ decode cX7_begin 57 = .ok (.iconst 1, 1) ∧ decode cX7_begin 58 = .ok (.iastore, 1) ∧ decode cX7_begin 59 = .ok (.aload_n 0, 1) ∧ decode cX7_begin 60 = .ok (.aload_n 0, 1) ∧ decode cX7_begin 61 = .ok (.getfield 9, 3) ∧ decode cX7_begin 64 = .ok (.iconst 1, 1) ∧ decode cX7_begin 65 = .ok (.iaload, 1) ∧ decode cX7_begin 66 = .ok (.aload_n 0, 1) ∧ decode cX7_begin 67 = .ok (.getfield 58, 3) ∧ decode cX7_begin 70 = .ok (.if_icmp .ne 7, 3) ∧ decode cX7_begin 73 = .ok (.iconst 2, 1) ∧ decode cX7_begin 74 = .ok (.goto 4, 3) ∧ decode cX7_begin 77 = .ok (.iconst 1, 1) ∧ decode cX7_begin 78 = .ok (.putfield 74, 3) ∧ decode cX7_begin 81 = .ok (.aload_n 0, 1) := by decide +kernel
theorem dX7_begin_56 : decode cX7_begin 56 = .ok (.iconst 3, 1) := db_X7_begin_56.1
theorem dX7_begin_57 : decode cX7_begin 57 = .ok (.iconst 1, 1) := db_X7_begin_56.2.1
theorem dX7_begin_58 : decode cX7_begin 58 = .ok (.iastore, 1) := db_X7_begin_56.2.2.1
theorem dX7_begin_59 : decode cX7_begin 59 = .ok (.aload_n 0, 1) := db_X7_begin_56.2.2.2.1
theorem dX7_begin_60 : decode cX7_begin 60 = .ok (.aload_n 0, 1) := db_X7_begin_56.2.2.2.2.1
theorem dX7_begin_61 : decode cX7_begin 61 = .ok (.getfield 9, 3) := db_X7_begin_56.2.2.2.2.2.1
theorem dX7_begin_64 : decode cX7_begin 64 = .ok (.iconst 1, 1) := db_X7_begin_56.2.2.2.2.2.2.1
theorem dX7_begin_65 : decode cX7_begin 65 = .ok (.iaload, 1) := db_X7_begin_56.2.2.2.2.2.2.2.1
theorem dX7_begin_66 : decode cX7_begin 66 = .ok (.aload_n 0, 1) := db_X7_begin_56.2.2.2.2.2.2.2.2.1
theorem dX7_begin_67 : decode cX7_begin 67 = .ok (.getfield 58, 3) := db_X7_begin_56.2.2.2.2.2.2.2.2.2.1
theorem dX7_begin_70 : decode cX7_begin 70 = .ok (.if_icmp .ne 7, 3) := db_X7_begin_56.2.2.2.2.2.2.2.2.2.2.1
theorem dX7_begin_73 : decode cX7_begin 73 = .ok (.iconst 2, 1) := db_X7_begin_56.2.2.2.2.2.2.2.2.2.2.2.1
theorem dX7_begin_74 : decode cX7_begin 74 = .ok (.goto 4, 3) := db_X7_begin_56.2.2.2.2.2.2.2.2.2.2.2.2.1
theorem dX7_begin_77 : decode cX7_begin 77 = .ok (.iconst 1, 1) := db_X7_begin_56.2.2.2.2.2.2.2.2.2.2.2.2.2.1
theorem dX7_begin_78 : decode cX7_begin 78 = .ok (.putfield 74, 3) := db_X7_begin_56.2.2.2.2.2.2.2.2.2.2.2.2.2.2.1
theorem dX7_begin_81 : decode cX7_begin 81 = .ok (.aload_n 0, 1) := db_X7_begin_56.2.2.2.2.2.2.2.2.2.2.2.2.2.2.2
theorem db_X7_begin_82 : decode cX7_begin 82 = .ok (.iconst 0, 1) ∧ decode cX7_begin 83 = .ok (.putfield 77, 3) ∧ decode cX7_begin 86 = .ok (.aload_n 0, 1) ∧ decode cX7_begin 87 = .ok (.iconst 0, 1) ∧ decode cX7_begin 88 = .ok (.putfield 80, 3) ∧ decode cX7_begin 91 = .ok (.iconst 0, 1) ∧ decode cX7_begin 92 = .ok (.istore_n 3, 1) ∧ decode cX7_begin 93 = .ok (.iload_n 3, 1) ∧ decode cX7_begin 94 = .ok (.iconst 5, 1) ∧ decode cX7_begin 95 = .ok (.if_icmp .ge 43, 3) ∧ decode cX7_begin 98 = .ok (.aload_n 0, 1) ∧ decode cX7_begin 99 = .ok (.iload_n 3, 1) ∧ decode cX7_begin 100 = .ok (.aload_n 0, 1) ∧ decode cX7_begin 101 = .ok (.iload_n 3, 1) ∧ decode cX7_begin 102 = .ok (.invokevirtual 83, 3) ∧ decode cX7_begin 105 = .ok (.ifCond .eq 7, 3) := by decide +kernel
theorem dX7_begin_82 : decode cX7_begin 82 = .ok (.iconst 0, 1) := db_X7_begin_82.1
theorem dX7_begin_83 : decode cX7_begin 83 = .ok (.putfield 77, 3) := db_X7_begin_82.2.1
theorem dX7_begin_86 : decode cX7_begin 86 = .ok (.aload_n 0, 1) := db_X7_begin_82.2.2.1
theorem dX7_begin_87 : decode cX7_begin 87 = .ok (.iconst 0, 1) := db_X7_begin_82.2.2.2.1
theorem dX7_begin_88 : decode cX7_begin 88 = .ok (.putfield 80, 3) := db_X7_begin_82.2.2.2.2.1
theorem dX7_begin_91 : decode cX7_begin 91 = .ok (.iconst 0, 1) := db_X7_begin_82.2.2.2.2.2.1
theorem dX7_begin_92 : decode cX7_begin 92 = .ok (.istore_n 3, 1) := db_X7_begin_82.2.2.2.2.2.2.1
theorem dX7_begin_93 : decode cX7_begin 93 = .ok (.iload_n 3, 1) := db_X7_begin_82.2.2.2.2.2.2.2.1
theorem dX7_begin_94 : decode cX7_begin 94 = .ok (.iconst 5, 1) := db_X7_begin_82.2.2.2.2.2.2.2.2.1
theorem dX7_begin_95 : decode cX7_begin 95 = .ok (.if_icmp .ge 43, 3) := db_X7_begin_82.2.2.2.2.2.2.2.2.2.1
theorem dX7_begin_98 : decode cX7_begin 98 = .ok (.aload_n 0, 1) := db_X7_begin_82.2.2.2.2.2.2.2.2.2.2.1
theorem dX7_begin_99 : decode cX7_begin 99 = .ok (.iload_n 3, 1) := db_X7_begin_82.2.2.2.2.2.2.2.2.2.2.2.1
theorem dX7_begin_100 : decode cX7_begin 100 = .ok (.aload_n 0, 1) := db_X7_begin_82.2.2.2.2.2.2.2.2.2.2.2.2.1
theorem dX7_begin_101 : decode cX7_begin 101 = .ok (.iload_n 3, 1) := db_X7_begin_82.2.2.2.2.2.2.2.2.2.2.2.2.2.1
theorem dX7_begin_102 : decode cX7_begin 102 = .ok (.invokevirtual 83, 3) := db_X7_begin_82.2.2.2.2.2.2.2.2.2.2.2.2.2.2.1
theorem dX7_begin_105 : decode cX7_begin 105 = .ok (.ifCond .eq 7, 3) := db_X7_begin_82.2.2.2.2.2.2.2.2.2.2.2.2.2.2.2
theorem db_X7_begin_108 : decode cX7_begin 108 = .ok (.iconst 3, 1) ∧ decode cX7_begin 109 = .ok (.goto 4, 3) ∧ decode cX7_begin 112 = .ok (.iconst 0, 1) ∧ decode cX7_begin 113 = .ok (.iconst 0, 1) ∧ decode cX7_begin 114 = .ok (.iconst 0, 1) ∧ decode cX7_begin 115 = .ok (.invokevirtual 87, 3) ∧ decode cX7_begin 118 = .ok (.aload_n 0, 1) ∧ decode cX7_begin 119 = .ok (.getfield 27, 3) ∧ decode cX7_begin 122 = .ok (.iload_n 3, 1) ∧ decode cX7_begin 123 = .ok (.iconst 0, 1) ∧ decode cX7_begin 124 = .ok (.iastore, 1) ∧ decode cX7_begin 125 = .ok (.aload_n 0, 1) ∧ decode cX7_begin 126 = .ok (.getfield 30, 3) ∧ decode cX7_begin 129 = .ok (.iload_n 3, 1) ∧ decode cX7_begin 130 = .ok (.iconst 0, 1) ∧ decode cX7_begin 131 = .ok (.iastore, 1) := by decide +kernel
theorem dX7_begin_108 : decode cX7_begin 108 = .ok (.iconst 3, 1) := db_X7_begin_108.1
theorem dX7_begin_109 : decode cX7_begin 109 = .ok (.goto 4, 3) := db_X7_begin_108.2.1
theorem dX7_begin_112 : decode cX7_begin 112 = .ok (.iconst 0, 1) := db_X7_begin_108.2.2.1
theorem dX7_begin_113 : decode cX7_begin 113 = .ok (.iconst 0, 1) := db_X7_begin_108.2.2.2.1
theorem dX7_begin_114 : decode cX7_begin 114 = .ok (.iconst 0, 1) := db_X7_begin_108.2.2.2.2.1
theorem dX7_begin_115 : decode cX7_begin 115 = .ok (.invokevirtual 87, 3) := db_X7_begin_108.2.2.2.2.2.1
theorem dX7_begin_118 : decode cX7_begin 118 = .ok (.aload_n 0, 1) := db_X7_begin_108.2.2.2.2.2.2.1
theorem dX7_begin_119 : decode cX7_begin 119 = .ok (.getfield 27, 3) := db_X7_begin_108.2.2.2.2.2.2.2.1
theorem dX7_begin_122 : decode cX7_begin 122 = .ok (.iload_n 3, 1) := db_X7_begin_108.2.2.2.2.2.2.2.2.1
theorem dX7_begin_123 : decode cX7_begin 123 = .ok (.iconst 0, 1) := db_X7_begin_108.2.2.2.2.2.2.2.2.2.1
theorem dX7_begin_124 : decode cX7_begin 124 = .ok (.iastore, 1) := db_X7_begin_108.2.2.2.2.2.2.2.2.2.2.1
theorem dX7_begin_125 : decode cX7_begin 125 = .ok (.aload_n 0, 1) := db_X7_begin_108.2.2.2.2.2.2.2.2.2.2.2.1
theorem dX7_begin_126 : decode cX7_begin 126 = .ok (.getfield 30, 3) := db_X7_begin_108.2.2.2.2.2.2.2.2.2.2.2.2.1
theorem dX7_begin_129 : decode cX7_begin 129 = .ok (.iload_n 3, 1) := db_X7_begin_108.2.2.2.2.2.2.2.2.2.2.2.2.2.1
theorem dX7_begin_130 : decode cX7_begin 130 = .ok (.iconst 0, 1) := db_X7_begin_108.2.2.2.2.2.2.2.2.2.2.2.2.2.2.1
theorem dX7_begin_131 : decode cX7_begin 131 = .ok (.iastore, 1) := db_X7_begin_108.2.2.2.2.2.2.2.2.2.2.2.2.2.2.2
theorem db_X7_begin_132 : decode cX7_begin 132 = .ok (.iinc 3 1, 3) ∧ decode cX7_begin 135 = .ok (.goto (-42), 3) ∧ decode cX7_begin 138 = .ok (.return_, 1) := by decide +kernel
theorem dX7_begin_132 : decode cX7_begin 132 = .ok (.iinc 3 1, 3) := db_X7_begin_132.1
theorem dX7_begin_135 : decode cX7_begin 135 = .ok (.goto (-42), 3) := db_X7_begin_132.2.1
theorem dX7_begin_138 : decode cX7_begin 138 = .ok (.return_, 1) := db_X7_begin_132.2.2
theorem db_X7_isOther_0 : decode cX7_isOther 0 = .ok (.iload_n 1, 1) ∧ decode cX7_isOther 1 = .ok (.aload_n 0, 1) ∧ decode cX7_isOther 2 = .ok (.getfield 58, 3) ∧ decode cX7_isOther 5 = .ok (.if_icmp .eq 25, 3) ∧ decode cX7_isOther 8 = .ok (.aload_n 0, 1) ∧ decode cX7_isOther 9 = .ok (.getfield 39, 3) ∧ decode cX7_isOther 12 = .ok (.iload_n 1, 1) ∧ decode cX7_isOther 13 = .ok (.aload_n 0, 1) ∧ decode cX7_isOther 14 = .ok (.getfield 48, 3) ∧ decode cX7_isOther 17 = .ok (.getfield 94, 3) ∧ decode cX7_isOther 20 = .ok (.invokevirtual 97, 3) ∧ decode cX7_isOther 23 = .ok (.ifCond .eq 7, 3) ∧ decode cX7_isOther 26 = .ok (.iconst 1, 1) ∧ decode cX7_isOther 27 = .ok (.goto 4, 3) ∧ decode cX7_isOther 30 = .ok (.iconst 0, 1) ∧ decode cX7_isOther 31 = .ok (.ireturn, 1) := by decide +kernel
theorem dX7_isOther_0 : decode cX7_isOther 0 = .ok (.iload_n 1, 1) := db_X7_isOther_0.1
theorem dX7_isOther_1 : decode cX7_isOther 1 = .ok (.aload_n 0, 1) := db_X7_isOther_0.2.1
theorem dX7_isOther_2 : decode cX7_isOther 2 = .ok (.getfield 58, 3) := db_X7_isOther_0.2.2.1
theorem dX7_isOther_5 : decode cX7_isOther 5 = .ok (.if_icmp .eq 25, 3) := db_X7_isOther_0.2.2.2.1
theorem dX7_isOther_8 : decode cX7_isOther 8 = .ok (.aload_n 0, 1) := db_X7_isOther_0.2.2.2.2.1
theorem dX7_isOther_9 : decode cX7_isOther 9 = .ok (.getfield 39, 3) := db_X7_isOther_0.2.2.2.2.2.1
theorem dX7_isOther_12 : decode cX7_isOther 12 = .ok (.iload_n 1, 1) := db_X7_isOther_0.2.2.2.2.2.2.1
theorem dX7_isOther_13 : decode cX7_isOther 13 = .ok (.aload_n 0, 1) := db_X7_isOther_0.2.2.2.2.2.2.2.1
theorem dX7_isOther_14 : decode cX7_isOther 14 = .ok (.getfield 48, 3) := db_X7_isOther_0.2.2.2.2.2.2.2.2.1
theorem dX7_isOther_17 : decode cX7_isOther 17 = .ok (.getfield 94, 3) := db_X7_isOther_0.2.2.2.2.2.2.2.2.2.1
theorem dX7_isOther_20 : decode cX7_isOther 20 = .ok (.invokevirtual 97, 3) := db_X7_isOther_0.2.2.2.2.2.2.2.2.2.2.1
theorem dX7_isOther_23 : decode cX7_isOther 23 = .ok (.ifCond .eq 7, 3) := db_X7_isOther_0.2.2.2.2.2.2.2.2.2.2.2.1
theorem dX7_isOther_26 : decode cX7_isOther 26 = .ok (.iconst 1, 1) := db_X7_isOther_0.2.2.2.2.2.2.2.2.2.2.2.2.1
theorem dX7_isOther_27 : decode cX7_isOther 27 = .ok (.goto 4, 3) := db_X7_isOther_0.2.2.2.2.2.2.2.2.2.2.2.2.2.1
theorem dX7_isOther_30 : decode cX7_isOther 30 = .ok (.iconst 0, 1) := db_X7_isOther_0.2.2.2.2.2.2.2.2.2.2.2.2.2.2.1
theorem dX7_isOther_31 : decode cX7_isOther 31 = .ok (.ireturn, 1) := db_X7_isOther_0.2.2.2.2.2.2.2.2.2.2.2.2.2.2.2
theorem db_X7_leads_0 : decode cX7_leads 0 = .ok (.aload_n 0, 1) ∧ decode cX7_leads 1 = .ok (.getfield 74, 3) ∧ decode cX7_leads 4 = .ok (.iconst 2, 1) ∧ decode cX7_leads 5 = .ok (.if_icmp .ne 24, 3) ∧ decode cX7_leads 8 = .ok (.aload_n 0, 1) ∧ decode cX7_leads 9 = .ok (.iload_n 1, 1) ∧ decode cX7_leads 10 = .ok (.invokevirtual 83, 3) ∧ decode cX7_leads 13 = .ok (.ifCond .eq 16, 3) ∧ decode cX7_leads 16 = .ok (.aload_n 0, 1) ∧ decode cX7_leads 17 = .ok (.getfield 15, 3) ∧ decode cX7_leads 20 = .ok (.iload_n 1, 1) ∧ decode cX7_leads 21 = .ok (.iaload, 1) ∧ decode cX7_leads 22 = .ok (.ifCond .le 7, 3) ∧ decode cX7_leads 25 = .ok (.iconst 1, 1) ∧ decode cX7_leads 26 = .ok (.goto 4, 3) ∧ decode cX7_leads 29 = .ok (.iconst 0, 1) := by decide +kernel
theorem dX7_leads_0 : decode cX7_leads 0 = .ok (.aload_n 0, 1) := db_X7_leads_0.1
theorem dX7_leads_1 : decode cX7_leads 1 = .ok (.getfield 74, 3) := db_X7_leads_0.2.1
theorem dX7_leads_4 : decode cX7_leads 4 = .ok (.iconst 2, 1) := db_X7_leads_0.2.2.1
theorem dX7_leads_5 : decode cX7_leads 5 = .ok (.if_icmp .ne 24, 3) := db_X7_leads_0.2.2.2.1
theorem dX7_leads_8 : decode cX7_leads 8 = .ok (.aload_n 0, 1) := db_X7_leads_0.2.2.2.2.1
theorem dX7_leads_9 : decode cX7_leads 9 = .ok (.iload_n 1, 1) := db_X7_leads_0.2.2.2.2.2.1
theorem dX7_leads_10 : decode cX7_leads 10 = .ok (.invokevirtual 83, 3) := db_X7_leads_0.2.2.2.2.2.2.1
theorem dX7_leads_13 : decode cX7_leads 13 = .ok (.ifCond .eq 16, 3) := db_X7_leads_0.2.2.2.2.2.2.2.1
theorem dX7_leads_16 : decode cX7_leads 16 = .ok (.aload_n 0, 1) := db_X7_leads_0.2.2.2.2.2.2.2.2.1
theorem dX7_leads_17 : decode cX7_leads 17 = .ok (.getfield 15, 3) := db_X7_leads_0.2.2.2.2.2.2.2.2.2.1
theorem dX7_leads_20 : decode cX7_leads 20 = .ok (.iload_n 1, 1) := db_X7_leads_0.2.2.2.2.2.2.2.2.2.2.1
theorem dX7_leads_21 : decode cX7_leads 21 = .ok (.iaload, 1) := db_X7_leads_0.2.2.2.2.2.2.2.2.2.2.2.1
theorem dX7_leads_22 : decode cX7_leads 22 = .ok (.ifCond .le 7, 3) := db_X7_leads_0.2.2.2.2.2.2.2.2.2.2.2.2.1
theorem dX7_leads_25 : decode cX7_leads 25 = .ok (.iconst 1, 1) := db_X7_leads_0.2.2.2.2.2.2.2.2.2.2.2.2.2.1
theorem dX7_leads_26 : decode cX7_leads 26 = .ok (.goto 4, 3) := db_X7_leads_0.2.2.2.2.2.2.2.2.2.2.2.2.2.2.1
theorem dX7_leads_29 : decode cX7_leads 29 = .ok (.iconst 0, 1) := db_X7_leads_0.2.2.2.2.2.2.2.2.2.2.2.2.2.2.2
theorem dX7_leads_30 : decode cX7_leads 30 = .ok (.ireturn, 1) := by decide +kernel
theorem db_X7_setOther_0 : decode cX7_setOther 0 = .ok (.aload_n 0, 1) ∧ decode cX7_setOther 1 = .ok (.getfield 15, 3) ∧ decode cX7_setOther 4 = .ok (.iload_n 1, 1) ∧ decode cX7_setOther 5 = .ok (.iload_n 2, 1) ∧ decode cX7_setOther 6 = .ok (.iastore, 1) ∧ decode cX7_setOther 7 = .ok (.aload_n 0, 1) ∧ decode cX7_setOther 8 = .ok (.getfield 18, 3) ∧ decode cX7_setOther 11 = .ok (.iload_n 1, 1) ∧ decode cX7_setOther 12 = .ok (.iload_n 3, 1) ∧ decode cX7_setOther 13 = .ok (.iastore, 1) ∧ decode cX7_setOther 14 = .ok (.aload_n 0, 1) ∧ decode cX7_setOther 15 = .ok (.getfield 21, 3) ∧ decode cX7_setOther 18 = .ok (.iload_n 1, 1) ∧ decode cX7_setOther 19 = .ok (.iconst 0, 1) ∧ decode cX7_setOther 20 = .ok (.iastore, 1) ∧ decode cX7_setOther 21 = .ok (.aload_n 0, 1) := by decide +kernel
theorem dX7_setOther_0 : decode cX7_setOther 0 = .ok (.aload_n 0, 1) := db_X7_setOther_0.1
theorem dX7_setOther_1 : decode cX7_setOther 1 = .ok (.getfield 15, 3) := db_X7_setOther_0.2.1
theorem dX7_setOther_4 : decode cX7_setOther 4 = .ok (.iload_n 1, 1) := db_X7_setOther_0.2.2.1
theorem dX7_setOther_5 : decode cX7_setOther 5 = .ok (.iload_n 2, 1) := db_X7_setOther_0.2.2.2.1
theorem dX7_setOther_6 : decode cX7_setOther 6 = .ok (.iastore, 1) := db_X7_setOther_0.2.2.2.2.1
theorem dX7_setOther_7 : decode cX7_setOther 7 = .ok (.aload_n 0, 1) := db_X7_setOther_0.2.2.2.2.2.1
theorem dX7_setOther_8 : decode cX7_setOther 8 = .ok (.getfield 18, 3) := db_X7_setOther_0.2.2.2.2.2.2.1
theorem dX7_setOther_11 : decode cX7_setOther 11 = .ok (.iload_n 1, 1) := db_X7_setOther_0.2.2.2.2.2.2.2.1
theorem dX7_setOther_12 : decode cX7_setOther 12 = .ok (.iload_n 3, 1) := db_X7_setOther_0.2.2.2.2.2.2.2.2.1
theorem dX7_setOther_13 : decode cX7_setOther 13 = .ok (.iastore, 1) := db_X7_setOther_0.2.2.2.2.2.2.2.2.2.1
theorem dX7_setOther_14 : decode cX7_setOther 14 = .ok (.aload_n 0, 1) := db_X7_setOther_0.2.2.2.2.2.2.2.2.2.2.1
theorem dX7_setOther_15 : decode cX7_setOther 15 = .ok (.getfield 21, 3) := db_X7_setOther_0.2.2.2.2.2.2.2.2.2.2.2.1
theorem dX7_setOther_18 : decode cX7_setOther 18 = .ok (.iload_n 1, 1) := db_X7_setOther_0.2.2.2.2.2.2.2.2.2.2.2.2.1
theorem dX7_setOther_19 : decode cX7_setOther 19 = .ok (.iconst 0, 1) := db_X7_setOther_0.2.2.2.2.2.2.2.2.2.2.2.2.2.1
theorem dX7_setOther_20 : decode cX7_setOther 20 = .ok (.iastore, 1) := db_X7_setOther_0.2.2.2.2.2.2.2.2.2.2.2.2.2.2.1
theorem dX7_setOther_21 : decode cX7_setOther 21 = .ok (.aload_n 0, 1) := db_X7_setOther_0.2.2.2.2.2.2.2.2.2.2.2.2.2.2.2
theorem db_X7_setOther_22 : decode cX7_setOther 22 = .ok (.getfield 24, 3) ∧ decode cX7_setOther 25 = .ok (.iload_n 1, 1) ∧ decode cX7_setOther 26 = .ok (.iload 4, 2) ∧ decode cX7_setOther 28 = .ok (.iastore, 1) ∧ decode cX7_setOther 29 = .ok (.return_, 1) := by decide +kernel
theorem dX7_setOther_22 : decode cX7_setOther 22 = .ok (.getfield 24, 3) := db_X7_setOther_22.1
theorem dX7_setOther_25 : decode cX7_setOther 25 = .ok (.iload_n 1, 1) := db_X7_setOther_22.2.1
theorem dX7_setOther_26 : decode cX7_setOther 26 = .ok (.iload 4, 2) := db_X7_setOther_22.2.2.1
theorem dX7_setOther_28 : decode cX7_setOther 28 = .ok (.iastore, 1) := db_X7_setOther_22.2.2.2.1
theorem dX7_setOther_29 : decode cX7_setOther 29 = .ok (.return_, 1) := db_X7_setOther_22.2.2.2.2
theorem db_X7_pulse_0 : decode cX7_pulse 0 = .ok (.aload_n 0, 1) ∧ decode cX7_pulse 1 = .ok (.getfield 74, 3) ∧ decode cX7_pulse 4 = .ok (.ifCond .ne 32, 3) ∧ decode cX7_pulse 36 = .ok (.iconst 0, 1) ∧ decode cX7_pulse 37 = .ok (.istore_n 1, 1) ∧ decode cX7_pulse 38 = .ok (.iload_n 1, 1) ∧ decode cX7_pulse 39 = .ok (.aload_n 0, 1) ∧ decode cX7_pulse 40 = .ok (.getfield 39, 3) ∧ decode cX7_pulse 43 = .ok (.getfield 171, 3) ∧ decode cX7_pulse 46 = .ok (.if_icmp .ge 22, 3) ∧ decode cX7_pulse 49 = .ok (.aload_n 0, 1) ∧ decode cX7_pulse 50 = .ok (.iload_n 1, 1) ∧ decode cX7_pulse 51 = .ok (.invokevirtual 212, 3) ∧ decode cX7_pulse 54 = .ok (.ifCond .eq 8, 3) ∧ decode cX7_pulse 57 = .ok (.aload_n 0, 1) ∧ decode cX7_pulse 58 = .ok (.iload_n 1, 1) := by decide +kernel
theorem dX7_pulse_0 : decode cX7_pulse 0 = .ok (.aload_n 0, 1) := db_X7_pulse_0.1
theorem dX7_pulse_1 : decode cX7_pulse 1 = .ok (.getfield 74, 3) := db_X7_pulse_0.2.1
theorem dX7_pulse_4 : decode cX7_pulse 4 = .ok (.ifCond .ne 32, 3) := db_X7_pulse_0.2.2.1
theorem dX7_pulse_36 : decode cX7_pulse 36 = .ok (.iconst 0, 1) := db_X7_pulse_0.2.2.2.1
theorem dX7_pulse_37 : decode cX7_pulse 37 = .ok (.istore_n 1, 1) := db_X7_pulse_0.2.2.2.2.1
theorem dX7_pulse_38 : decode cX7_pulse 38 = .ok (.iload_n 1, 1) := db_X7_pulse_0.2.2.2.2.2.1
theorem dX7_pulse_39 : decode cX7_pulse 39 = .ok (.aload_n 0, 1) := db_X7_pulse_0.2.2.2.2.2.2.1
theorem dX7_pulse_40 : decode cX7_pulse 40 = .ok (.getfield 39, 3) := db_X7_pulse_0.2.2.2.2.2.2.2.1
theorem dX7_pulse_43 : decode cX7_pulse 43 = .ok (.getfield 171, 3) := db_X7_pulse_0.2.2.2.2.2.2.2.2.1
theorem dX7_pulse_46 : decode cX7_pulse 46 = .ok (.if_icmp .ge 22, 3) := db_X7_pulse_0.2.2.2.2.2.2.2.2.2.1
theorem dX7_pulse_49 : decode cX7_pulse 49 = .ok (.aload_n 0, 1) := db_X7_pulse_0.2.2.2.2.2.2.2.2.2.2.1
theorem dX7_pulse_50 : decode cX7_pulse 50 = .ok (.iload_n 1, 1) := db_X7_pulse_0.2.2.2.2.2.2.2.2.2.2.2.1
theorem dX7_pulse_51 : decode cX7_pulse 51 = .ok (.invokevirtual 212, 3) := db_X7_pulse_0.2.2.2.2.2.2.2.2.2.2.2.2.1
theorem dX7_pulse_54 : decode cX7_pulse 54 = .ok (.ifCond .eq 8, 3) := db_X7_pulse_0.2.2.2.2.2.2.2.2.2.2.2.2.2.1
theorem dX7_pulse_57 : decode cX7_pulse 57 = .ok (.aload_n 0, 1) := db_X7_pulse_0.2.2.2.2.2.2.2.2.2.2.2.2.2.2.1
theorem dX7_pulse_58 : decode cX7_pulse 58 = .ok (.iload_n 1, 1) := db_X7_pulse_0.2.2.2.2.2.2.2.2.2.2.2.2.2.2.2
theorem db_X7_pulse_59 : decode cX7_pulse 59 = .ok (.invokevirtual 227, 3) ∧ decode cX7_pulse 62 = .ok (.iinc 1 1, 3) ∧ decode cX7_pulse 65 = .ok (.goto (-27), 3) ∧ decode cX7_pulse 68 = .ok (.return_, 1) := by decide +kernel
theorem dX7_pulse_59 : decode cX7_pulse 59 = .ok (.invokevirtual 227, 3) := db_X7_pulse_59.1
theorem dX7_pulse_62 : decode cX7_pulse 62 = .ok (.iinc 1 1, 3) := db_X7_pulse_59.2.1
theorem dX7_pulse_65 : decode cX7_pulse 65 = .ok (.goto (-27), 3) := db_X7_pulse_59.2.2.1
theorem dX7_pulse_68 : decode cX7_pulse 68 = .ok (.return_, 1) := db_X7_pulse_59.2.2.2
theorem db_X7_tend_0 : decode cX7_tend 0 = .ok (.aload_n 0, 1) ∧ decode cX7_tend 1 = .ok (.getfield 39, 3) ∧ decode cX7_tend 4 = .ok (.getfield 120, 3) ∧ decode cX7_tend 7 = .ok (.aload_n 0, 1) ∧ decode cX7_tend 8 = .ok (.getfield 24, 3) ∧ decode cX7_tend 11 = .ok (.iload_n 1, 1) ∧ decode cX7_tend 12 = .ok (.iaload, 1) ∧ decode cX7_tend 13 = .ok (.isub, 1) ∧ decode cX7_tend 14 = .ok (.bipush 9, 2) ∧ decode cX7_tend 16 = .ok (.if_icmp .lt 7, 3) ∧ decode cX7_tend 23 = .ok (.iconst 0, 1) ∧ decode cX7_tend 24 = .ok (.istore_n 2, 1) ∧ decode cX7_tend 25 = .ok (.aload_n 0, 1) ∧ decode cX7_tend 26 = .ok (.getfield 39, 3) ∧ decode cX7_tend 29 = .ok (.getfield 120, 3) ∧ decode cX7_tend 32 = .ok (.aload_n 0, 1) := by decide +kernel
theorem dX7_tend_0 : decode cX7_tend 0 = .ok (.aload_n 0, 1) := db_X7_tend_0.1
theorem dX7_tend_1 : decode cX7_tend 1 = .ok (.getfield 39, 3) := db_X7_tend_0.2.1
theorem dX7_tend_4 : decode cX7_tend 4 = .ok (.getfield 120, 3) := db_X7_tend_0.2.2.1
theorem dX7_tend_7 : decode cX7_tend 7 = .ok (.aload_n 0, 1) := db_X7_tend_0.2.2.2.1
theorem dX7_tend_8 : decode cX7_tend 8 = .ok (.getfield 24, 3) := db_X7_tend_0.2.2.2.2.1
theorem dX7_tend_11 : decode cX7_tend 11 = .ok (.iload_n 1, 1) := db_X7_tend_0.2.2.2.2.2.1
theorem dX7_tend_12 : decode cX7_tend 12 = .ok (.iaload, 1) := db_X7_tend_0.2.2.2.2.2.2.1
theorem dX7_tend_13 : decode cX7_tend 13 = .ok (.isub, 1) := db_X7_tend_0.2.2.2.2.2.2.2.1
theorem dX7_tend_14 : decode cX7_tend 14 = .ok (.bipush 9, 2) := db_X7_tend_0.2.2.2.2.2.2.2.2.1
theorem dX7_tend_16 : decode cX7_tend 16 = .ok (.if_icmp .lt 7, 3) := db_X7_tend_0.2.2.2.2.2.2.2.2.2.1
theorem dX7_tend_23 : decode cX7_tend 23 = .ok (.iconst 0, 1) := db_X7_tend_0.2.2.2.2.2.2.2.2.2.2.1
theorem dX7_tend_24 : decode cX7_tend 24 = .ok (.istore_n 2, 1) := db_X7_tend_0.2.2.2.2.2.2.2.2.2.2.2.1
theorem dX7_tend_25 : decode cX7_tend 25 = .ok (.aload_n 0, 1) := db_X7_tend_0.2.2.2.2.2.2.2.2.2.2.2.2.1
theorem dX7_tend_26 : decode cX7_tend 26 = .ok (.getfield 39, 3) := db_X7_tend_0.2.2.2.2.2.2.2.2.2.2.2.2.2.1
theorem dX7_tend_29 : decode cX7_tend 29 = .ok (.getfield 120, 3) := db_X7_tend_0.2.2.2.2.2.2.2.2.2.2.2.2.2.2.1
theorem dX7_tend_32 : decode cX7_tend 32 = .ok (.aload_n 0, 1) := db_X7_tend_0.2.2.2.2.2.2.2.2.2.2.2.2.2.2.2
theorem db_X7_tend_33 : decode cX7_tend 33 = .ok (.getfield 27, 3) ∧ decode cX7_tend 36 = .ok (.iload_n 1, 1) ∧ decode cX7_tend 37 = .ok (.iaload, 1) ∧ decode cX7_tend 38 = .ok (.isub, 1) ∧ decode cX7_tend 39 = .ok (.iconst 3, 1) ∧ decode cX7_tend 40 = .ok (.if_icmp .lt 7, 3) ∧ decode cX7_tend 43 = .ok (.iconst 1, 1) ∧ decode cX7_tend 44 = .ok (.goto 4, 3) ∧ decode cX7_tend 47 = .ok (.iconst 0, 1) ∧ decode cX7_tend 48 = .ok (.istore_n 3, 1) ∧ decode cX7_tend 49 = .ok (.aload_n 0, 1) ∧ decode cX7_tend 50 = .ok (.getfield 15, 3) ∧ decode cX7_tend 53 = .ok (.iload_n 1, 1) ∧ decode cX7_tend 54 = .ok (.iaload, 1) ∧ decode cX7_tend 55 = .ok (.iconst 4, 1) ∧ decode cX7_tend 56 = .ok (.if_icmp .ne 15, 3) := by decide +kernel
theorem dX7_tend_33 : decode cX7_tend 33 = .ok (.getfield 27, 3) := db_X7_tend_33.1
theorem dX7_tend_36 : decode cX7_tend 36 = .ok (.iload_n 1, 1) := db_X7_tend_33.2.1
theorem dX7_tend_37 : decode cX7_tend 37 = .ok (.iaload, 1) := db_X7_tend_33.2.2.1
theorem dX7_tend_38 : decode cX7_tend 38 = .ok (.isub, 1) := db_X7_tend_33.2.2.2.1
theorem dX7_tend_39 : decode cX7_tend 39 = .ok (.iconst 3, 1) := db_X7_tend_33.2.2.2.2.1
theorem dX7_tend_40 : decode cX7_tend 40 = .ok (.if_icmp .lt 7, 3) := db_X7_tend_33.2.2.2.2.2.1
theorem dX7_tend_43 : decode cX7_tend 43 = .ok (.iconst 1, 1) := db_X7_tend_33.2.2.2.2.2.2.1
theorem dX7_tend_44 : decode cX7_tend 44 = .ok (.goto 4, 3) := db_X7_tend_33.2.2.2.2.2.2.2.1
theorem dX7_tend_47 : decode cX7_tend 47 = .ok (.iconst 0, 1) := db_X7_tend_33.2.2.2.2.2.2.2.2.1
theorem dX7_tend_48 : decode cX7_tend 48 = .ok (.istore_n 3, 1) := db_X7_tend_33.2.2.2.2.2.2.2.2.2.1
theorem dX7_tend_49 : decode cX7_tend 49 = .ok (.aload_n 0, 1) := db_X7_tend_33.2.2.2.2.2.2.2.2.2.2.1
theorem dX7_tend_50 : decode cX7_tend 50 = .ok (.getfield 15, 3) := db_X7_tend_33.2.2.2.2.2.2.2.2.2.2.2.1
theorem dX7_tend_53 : decode cX7_tend 53 = .ok (.iload_n 1, 1) := db_X7_tend_33.2.2.2.2.2.2.2.2.2.2.2.2.1
theorem dX7_tend_54 : decode cX7_tend 54 = .ok (.iaload, 1) := db_X7_tend_33.2.2.2.2.2.2.2.2.2.2.2.2.2.1
theorem dX7_tend_55 : decode cX7_tend 55 = .ok (.iconst 4, 1) := db_X7_tend_33.2.2.2.2.2.2.2.2.2.2.2.2.2.2.1
theorem dX7_tend_56 : decode cX7_tend 56 = .ok (.if_icmp .ne 15, 3) := db_X7_tend_33.2.2.2.2.2.2.2.2.2.2.2.2.2.2.2
theorem db_X7_tend_71 : decode cX7_tend 71 = .ok (.aload_n 0, 1) ∧ decode cX7_tend 72 = .ok (.getfield 18, 3) ∧ decode cX7_tend 75 = .ok (.iload_n 1, 1) ∧ decode cX7_tend 76 = .ok (.iaload, 1) ∧ decode cX7_tend 77 = .ok (.aload_n 0, 1) ∧ decode cX7_tend 78 = .ok (.getfield 48, 3) ∧ decode cX7_tend 81 = .ok (.getfield 108, 3) ∧ decode cX7_tend 84 = .ok (.if_icmp .ne 54, 3) ∧ decode cX7_tend 87 = .ok (.aload_n 0, 1) ∧ decode cX7_tend 88 = .ok (.getfield 21, 3) ∧ decode cX7_tend 91 = .ok (.iload_n 1, 1) ∧ decode cX7_tend 92 = .ok (.iaload, 1) ∧ decode cX7_tend 93 = .ok (.aload_n 0, 1) ∧ decode cX7_tend 94 = .ok (.getfield 48, 3) ∧ decode cX7_tend 97 = .ok (.getfield 111, 3) ∧ decode cX7_tend 100 = .ok (.if_icmp .lt 38, 3) := by decide +kernel
theorem dX7_tend_71 : decode cX7_tend 71 = .ok (.aload_n 0, 1) := db_X7_tend_71.1
theorem dX7_tend_72 : decode cX7_tend 72 = .ok (.getfield 18, 3) := db_X7_tend_71.2.1
theorem dX7_tend_75 : decode cX7_tend 75 = .ok (.iload_n 1, 1) := db_X7_tend_71.2.2.1
theorem dX7_tend_76 : decode cX7_tend 76 = .ok (.iaload, 1) := db_X7_tend_71.2.2.2.1
theorem dX7_tend_77 : decode cX7_tend 77 = .ok (.aload_n 0, 1) := db_X7_tend_71.2.2.2.2.1
theorem dX7_tend_78 : decode cX7_tend 78 = .ok (.getfield 48, 3) := db_X7_tend_71.2.2.2.2.2.1
theorem dX7_tend_81 : decode cX7_tend 81 = .ok (.getfield 108, 3) := db_X7_tend_71.2.2.2.2.2.2.1
theorem dX7_tend_84 : decode cX7_tend 84 = .ok (.if_icmp .ne 54, 3) := db_X7_tend_71.2.2.2.2.2.2.2.1
theorem dX7_tend_87 : decode cX7_tend 87 = .ok (.aload_n 0, 1) := db_X7_tend_71.2.2.2.2.2.2.2.2.1
theorem dX7_tend_88 : decode cX7_tend 88 = .ok (.getfield 21, 3) := db_X7_tend_71.2.2.2.2.2.2.2.2.2.1
theorem dX7_tend_91 : decode cX7_tend 91 = .ok (.iload_n 1, 1) := db_X7_tend_71.2.2.2.2.2.2.2.2.2.2.1
theorem dX7_tend_92 : decode cX7_tend 92 = .ok (.iaload, 1) := db_X7_tend_71.2.2.2.2.2.2.2.2.2.2.2.1
theorem dX7_tend_93 : decode cX7_tend 93 = .ok (.aload_n 0, 1) := db_X7_tend_71.2.2.2.2.2.2.2.2.2.2.2.2.1
theorem dX7_tend_94 : decode cX7_tend 94 = .ok (.getfield 48, 3) := db_X7_tend_71.2.2.2.2.2.2.2.2.2.2.2.2.2.1
theorem dX7_tend_97 : decode cX7_tend 97 = .ok (.getfield 111, 3) := db_X7_tend_71.2.2.2.2.2.2.2.2.2.2.2.2.2.2.1
theorem dX7_tend_100 : decode cX7_tend 100 = .ok (.if_icmp .lt 38, 3) := db_X7_tend_71.2.2.2.2.2.2.2.2.2.2.2.2.2.2.2
theorem db_X7_tend_103 : decode cX7_tend 103 = .ok (.aload_n 0, 1) ∧ decode cX7_tend 104 = .ok (.getfield 24, 3) ∧ decode cX7_tend 107 = .ok (.iload_n 1, 1) ∧ decode cX7_tend 108 = .ok (.aload_n 0, 1) ∧ decode cX7_tend 109 = .ok (.getfield 39, 3) ∧ decode cX7_tend 112 = .ok (.getfield 120, 3) ∧ decode cX7_tend 115 = .ok (.iastore, 1) ∧ decode cX7_tend 116 = .ok (.aload_n 0, 1) ∧ decode cX7_tend 117 = .ok (.getfield 15, 3) ∧ decode cX7_tend 120 = .ok (.iload_n 1, 1) ∧ decode cX7_tend 121 = .ok (.iaload, 1) ∧ decode cX7_tend 122 = .ok (.iconst 2, 1) ∧ decode cX7_tend 123 = .ok (.if_icmp .ne 53, 3) ∧ decode cX7_tend 176 = .ok (.return_, 1) := by decide +kernel
theorem dX7_tend_103 : decode cX7_tend 103 = .ok (.aload_n 0, 1) := db_X7_tend_103.1
theorem dX7_tend_104 : decode cX7_tend 104 = .ok (.getfield 24, 3) := db_X7_tend_103.2.1
theorem dX7_tend_107 : decode cX7_tend 107 = .ok (.iload_n 1, 1) := db_X7_tend_103.2.2.1
theorem dX7_tend_108 : decode cX7_tend 108 = .ok (.aload_n 0, 1) := db_X7_tend_103.2.2.2.1
theorem dX7_tend_109 : decode cX7_tend 109 = .ok (.getfield 39, 3) := db_X7_tend_103.2.2.2.2.1
theorem dX7_tend_112 : decode cX7_tend 112 = .ok (.getfield 120, 3) := db_X7_tend_103.2.2.2.2.2.1
theorem dX7_tend_115 : decode cX7_tend 115 = .ok (.iastore, 1) := db_X7_tend_103.2.2.2.2.2.2.1
theorem dX7_tend_116 : decode cX7_tend 116 = .ok (.aload_n 0, 1) := db_X7_tend_103.2.2.2.2.2.2.2.1
theorem dX7_tend_117 : decode cX7_tend 117 = .ok (.getfield 15, 3) := db_X7_tend_103.2.2.2.2.2.2.2.2.1
theorem dX7_tend_120 : decode cX7_tend 120 = .ok (.iload_n 1, 1) := db_X7_tend_103.2.2.2.2.2.2.2.2.2.1
theorem dX7_tend_121 : decode cX7_tend 121 = .ok (.iaload, 1) := db_X7_tend_103.2.2.2.2.2.2.2.2.2.2.1
theorem dX7_tend_122 : decode cX7_tend 122 = .ok (.iconst 2, 1) := db_X7_tend_103.2.2.2.2.2.2.2.2.2.2.2.1
theorem dX7_tend_123 : decode cX7_tend 123 = .ok (.if_icmp .ne 53, 3) := db_X7_tend_103.2.2.2.2.2.2.2.2.2.2.2.2.1
theorem dX7_tend_176 : decode cX7_tend 176 = .ok (.return_, 1) := db_X7_tend_103.2.2.2.2.2.2.2.2.2.2.2.2.2
