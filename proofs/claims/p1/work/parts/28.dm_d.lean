theorem db_X12_start_0 : decode cX12_start 0 = .ok (.aload_n 0, 1) ∧ decode cX12_start 1 = .ok (.aload_n 0, 1) ∧ decode cX12_start 2 = .ok (.iload_n 1, 1) ∧ decode cX12_start 3 = .ok (.invokevirtual 789, 3) ∧ decode cX12_start 6 = .ok (.ifCond .ne 7, 3) ∧ decode cX12_start 9 = .ok (.iconst 1, 1) ∧ decode cX12_start 10 = .ok (.goto 17, 3) ∧ decode cX12_start 13 = .ok (.aload_n 0, 1) ∧ decode cX12_start 14 = .ok (.getfield 77, 3) ∧ decode cX12_start 17 = .ok (.iload_n 1, 1) ∧ decode cX12_start 18 = .ok (.baload, 1) ∧ decode cX12_start 19 = .ok (.ifCond .eq 7, 3) ∧ decode cX12_start 22 = .ok (.iconst 2, 1) ∧ decode cX12_start 23 = .ok (.goto 4, 3) ∧ decode cX12_start 27 = .ok (.putfield 317, 3) ∧ decode cX12_start 30 = .ok (.aload_n 0, 1) := by decide +kernel
theorem dX12_start_0 : decode cX12_start 0 = .ok (.aload_n 0, 1) := db_X12_start_0.1
theorem dX12_start_1 : decode cX12_start 1 = .ok (.aload_n 0, 1) := db_X12_start_0.2.1
theorem dX12_start_2 : decode cX12_start 2 = .ok (.iload_n 1, 1) := db_X12_start_0.2.2.1
theorem dX12_start_3 : decode cX12_start 3 = .ok (.invokevirtual 789, 3) := db_X12_start_0.2.2.2.1
theorem dX12_start_6 : decode cX12_start 6 = .ok (.ifCond .ne 7, 3) := db_X12_start_0.2.2.2.2.1
theorem dX12_start_9 : decode cX12_start 9 = .ok (.iconst 1, 1) := db_X12_start_0.2.2.2.2.2.1
theorem dX12_start_10 : decode cX12_start 10 = .ok (.goto 17, 3) := db_X12_start_0.2.2.2.2.2.2.1
theorem dX12_start_13 : decode cX12_start 13 = .ok (.aload_n 0, 1) := db_X12_start_0.2.2.2.2.2.2.2.1
theorem dX12_start_14 : decode cX12_start 14 = .ok (.getfield 77, 3) := db_X12_start_0.2.2.2.2.2.2.2.2.1
theorem dX12_start_17 : decode cX12_start 17 = .ok (.iload_n 1, 1) := db_X12_start_0.2.2.2.2.2.2.2.2.2.1
theorem dX12_start_18 : decode cX12_start 18 = .ok (.baload, 1) := db_X12_start_0.2.2.2.2.2.2.2.2.2.2.1
theorem dX12_start_19 : decode cX12_start 19 = .ok (.ifCond .eq 7, 3) := db_X12_start_0.2.2.2.2.2.2.2.2.2.2.2.1
theorem dX12_start_22 : decode cX12_start 22 = .ok (.iconst 2, 1) := db_X12_start_0.2.2.2.2.2.2.2.2.2.2.2.2.1
theorem dX12_start_23 : decode cX12_start 23 = .ok (.goto 4, 3) := db_X12_start_0.2.2.2.2.2.2.2.2.2.2.2.2.2.1
theorem dX12_start_27 : decode cX12_start 27 = .ok (.putfield 317, 3) := db_X12_start_0.2.2.2.2.2.2.2.2.2.2.2.2.2.2.1
theorem dX12_start_30 : decode cX12_start 30 = .ok (.aload_n 0, 1) := db_X12_start_0.2.2.2.2.2.2.2.2.2.2.2.2.2.2.2
theorem db_X12_start_31 : decode cX12_start 31 = .ok (.getfield 317, 3) ∧ decode cX12_start 34 = .ok (.ifCond .ne 15, 3) ∧ decode cX12_start 49 = .ok (.iconst 0, 1) ∧ decode cX12_start 50 = .ok (.ireturn, 1) := by decide +kernel
theorem dX12_start_31 : decode cX12_start 31 = .ok (.getfield 317, 3) := db_X12_start_31.1
theorem dX12_start_34 : decode cX12_start 34 = .ok (.ifCond .ne 15, 3) := db_X12_start_31.2.1
theorem dX12_start_49 : decode cX12_start 49 = .ok (.iconst 0, 1) := db_X12_start_31.2.2.1
theorem dX12_start_50 : decode cX12_start 50 = .ok (.ireturn, 1) := db_X12_start_31.2.2.2
theorem db_X12_fail_0 : decode cX12_fail 0 = .ok (.aload_n 0, 1) ∧ decode cX12_fail 1 = .ok (.aload_n 0, 1) ∧ decode cX12_fail 2 = .ok (.iload_n 1, 1) ∧ decode cX12_fail 3 = .ok (.invokevirtual 789, 3) ∧ decode cX12_fail 6 = .ok (.ifCond .ne 7, 3) ∧ decode cX12_fail 9 = .ok (.iconst 1, 1) ∧ decode cX12_fail 10 = .ok (.goto 29, 3) ∧ decode cX12_fail 13 = .ok (.iload_n 2, 1) ∧ decode cX12_fail 14 = .ok (.ifCond .lt 20, 3) ∧ decode cX12_fail 17 = .ok (.iload_n 2, 1) ∧ decode cX12_fail 18 = .ok (.sipush 1000, 3) ∧ decode cX12_fail 21 = .ok (.if_icmp .gt 13, 3) ∧ decode cX12_fail 24 = .ok (.iload_n 3, 1) ∧ decode cX12_fail 25 = .ok (.ifCond .lt 9, 3) ∧ decode cX12_fail 28 = .ok (.iload_n 3, 1) ∧ decode cX12_fail 29 = .ok (.bipush 63, 2) := by decide +kernel
theorem dX12_fail_0 : decode cX12_fail 0 = .ok (.aload_n 0, 1) := db_X12_fail_0.1
theorem dX12_fail_1 : decode cX12_fail 1 = .ok (.aload_n 0, 1) := db_X12_fail_0.2.1
theorem dX12_fail_2 : decode cX12_fail 2 = .ok (.iload_n 1, 1) := db_X12_fail_0.2.2.1
theorem dX12_fail_3 : decode cX12_fail 3 = .ok (.invokevirtual 789, 3) := db_X12_fail_0.2.2.2.1
theorem dX12_fail_6 : decode cX12_fail 6 = .ok (.ifCond .ne 7, 3) := db_X12_fail_0.2.2.2.2.1
theorem dX12_fail_9 : decode cX12_fail 9 = .ok (.iconst 1, 1) := db_X12_fail_0.2.2.2.2.2.1
theorem dX12_fail_10 : decode cX12_fail 10 = .ok (.goto 29, 3) := db_X12_fail_0.2.2.2.2.2.2.1
theorem dX12_fail_13 : decode cX12_fail 13 = .ok (.iload_n 2, 1) := db_X12_fail_0.2.2.2.2.2.2.2.1
theorem dX12_fail_14 : decode cX12_fail 14 = .ok (.ifCond .lt 20, 3) := db_X12_fail_0.2.2.2.2.2.2.2.2.1
theorem dX12_fail_17 : decode cX12_fail 17 = .ok (.iload_n 2, 1) := db_X12_fail_0.2.2.2.2.2.2.2.2.2.1
theorem dX12_fail_18 : decode cX12_fail 18 = .ok (.sipush 1000, 3) := db_X12_fail_0.2.2.2.2.2.2.2.2.2.2.1
theorem dX12_fail_21 : decode cX12_fail 21 = .ok (.if_icmp .gt 13, 3) := db_X12_fail_0.2.2.2.2.2.2.2.2.2.2.2.1
theorem dX12_fail_24 : decode cX12_fail 24 = .ok (.iload_n 3, 1) := db_X12_fail_0.2.2.2.2.2.2.2.2.2.2.2.2.1
theorem dX12_fail_25 : decode cX12_fail 25 = .ok (.ifCond .lt 9, 3) := db_X12_fail_0.2.2.2.2.2.2.2.2.2.2.2.2.2.1
theorem dX12_fail_28 : decode cX12_fail 28 = .ok (.iload_n 3, 1) := db_X12_fail_0.2.2.2.2.2.2.2.2.2.2.2.2.2.2.1
theorem dX12_fail_29 : decode cX12_fail 29 = .ok (.bipush 63, 2) := db_X12_fail_0.2.2.2.2.2.2.2.2.2.2.2.2.2.2.2
theorem db_X12_fail_31 : decode cX12_fail 31 = .ok (.if_icmp .le 7, 3) ∧ decode cX12_fail 34 = .ok (.iconst 2, 1) ∧ decode cX12_fail 35 = .ok (.goto 4, 3) ∧ decode cX12_fail 38 = .ok (.iconst 0, 1) ∧ decode cX12_fail 39 = .ok (.putfield 317, 3) ∧ decode cX12_fail 42 = .ok (.aload_n 0, 1) ∧ decode cX12_fail 43 = .ok (.getfield 317, 3) ∧ decode cX12_fail 46 = .ok (.ifCond .ne 17, 3) ∧ decode cX12_fail 49 = .ok (.aload_n 0, 1) ∧ decode cX12_fail 50 = .ok (.getfield 80, 3) ∧ decode cX12_fail 53 = .ok (.iload_n 1, 1) ∧ decode cX12_fail 54 = .ok (.iload_n 2, 1) ∧ decode cX12_fail 55 = .ok (.iastore, 1) ∧ decode cX12_fail 56 = .ok (.aload_n 0, 1) ∧ decode cX12_fail 57 = .ok (.getfield 83, 3) ∧ decode cX12_fail 60 = .ok (.iload_n 1, 1) := by decide +kernel
theorem dX12_fail_31 : decode cX12_fail 31 = .ok (.if_icmp .le 7, 3) := db_X12_fail_31.1
theorem dX12_fail_34 : decode cX12_fail 34 = .ok (.iconst 2, 1) := db_X12_fail_31.2.1
theorem dX12_fail_35 : decode cX12_fail 35 = .ok (.goto 4, 3) := db_X12_fail_31.2.2.1
theorem dX12_fail_38 : decode cX12_fail 38 = .ok (.iconst 0, 1) := db_X12_fail_31.2.2.2.1
theorem dX12_fail_39 : decode cX12_fail 39 = .ok (.putfield 317, 3) := db_X12_fail_31.2.2.2.2.1
theorem dX12_fail_42 : decode cX12_fail 42 = .ok (.aload_n 0, 1) := db_X12_fail_31.2.2.2.2.2.1
theorem dX12_fail_43 : decode cX12_fail 43 = .ok (.getfield 317, 3) := db_X12_fail_31.2.2.2.2.2.2.1
theorem dX12_fail_46 : decode cX12_fail 46 = .ok (.ifCond .ne 17, 3) := db_X12_fail_31.2.2.2.2.2.2.2.1
theorem dX12_fail_49 : decode cX12_fail 49 = .ok (.aload_n 0, 1) := db_X12_fail_31.2.2.2.2.2.2.2.2.1
theorem dX12_fail_50 : decode cX12_fail 50 = .ok (.getfield 80, 3) := db_X12_fail_31.2.2.2.2.2.2.2.2.2.1
theorem dX12_fail_53 : decode cX12_fail 53 = .ok (.iload_n 1, 1) := db_X12_fail_31.2.2.2.2.2.2.2.2.2.2.1
theorem dX12_fail_54 : decode cX12_fail 54 = .ok (.iload_n 2, 1) := db_X12_fail_31.2.2.2.2.2.2.2.2.2.2.2.1
theorem dX12_fail_55 : decode cX12_fail 55 = .ok (.iastore, 1) := db_X12_fail_31.2.2.2.2.2.2.2.2.2.2.2.2.1
theorem dX12_fail_56 : decode cX12_fail 56 = .ok (.aload_n 0, 1) := db_X12_fail_31.2.2.2.2.2.2.2.2.2.2.2.2.2.1
theorem dX12_fail_57 : decode cX12_fail 57 = .ok (.getfield 83, 3) := db_X12_fail_31.2.2.2.2.2.2.2.2.2.2.2.2.2.2.1
theorem dX12_fail_60 : decode cX12_fail 60 = .ok (.iload_n 1, 1) := db_X12_fail_31.2.2.2.2.2.2.2.2.2.2.2.2.2.2.2
theorem db_X12_fail_61 : decode cX12_fail 61 = .ok (.iload_n 3, 1) ∧ decode cX12_fail 62 = .ok (.iastore, 1) ∧ decode cX12_fail 63 = .ok (.return_, 1) := by decide +kernel
theorem dX12_fail_61 : decode cX12_fail 61 = .ok (.iload_n 3, 1) := db_X12_fail_61.1
theorem dX12_fail_62 : decode cX12_fail 62 = .ok (.iastore, 1) := db_X12_fail_61.2.1
theorem dX12_fail_63 : decode cX12_fail 63 = .ok (.return_, 1) := db_X12_fail_61.2.2
theorem db_X12_isCopy_0 : decode cX12_isCopy 0 = .ok (.aload_n 0, 1) ∧ decode cX12_isCopy 1 = .ok (.iload_n 1, 1) ∧ decode cX12_isCopy 2 = .ok (.invokevirtual 777, 3) ∧ decode cX12_isCopy 5 = .ok (.ifCond .eq 28, 3) ∧ decode cX12_isCopy 8 = .ok (.iload_n 2, 1) ∧ decode cX12_isCopy 9 = .ok (.ifCond .lt 24, 3) ∧ decode cX12_isCopy 12 = .ok (.iload_n 2, 1) ∧ decode cX12_isCopy 13 = .ok (.aload_n 0, 1) ∧ decode cX12_isCopy 14 = .ok (.getfield 327, 3) ∧ decode cX12_isCopy 17 = .ok (.if_icmp .ge 16, 3) ∧ decode cX12_isCopy 20 = .ok (.aload_n 0, 1) ∧ decode cX12_isCopy 21 = .ok (.iload_n 1, 1) ∧ decode cX12_isCopy 22 = .ok (.iload_n 2, 1) ∧ decode cX12_isCopy 23 = .ok (.invokevirtual 352, 3) ∧ decode cX12_isCopy 26 = .ok (.ifCond .eq 7, 3) ∧ decode cX12_isCopy 29 = .ok (.iconst 1, 1) := by decide +kernel
theorem dX12_isCopy_0 : decode cX12_isCopy 0 = .ok (.aload_n 0, 1) := db_X12_isCopy_0.1
theorem dX12_isCopy_1 : decode cX12_isCopy 1 = .ok (.iload_n 1, 1) := db_X12_isCopy_0.2.1
theorem dX12_isCopy_2 : decode cX12_isCopy 2 = .ok (.invokevirtual 777, 3) := db_X12_isCopy_0.2.2.1
theorem dX12_isCopy_5 : decode cX12_isCopy 5 = .ok (.ifCond .eq 28, 3) := db_X12_isCopy_0.2.2.2.1
theorem dX12_isCopy_8 : decode cX12_isCopy 8 = .ok (.iload_n 2, 1) := db_X12_isCopy_0.2.2.2.2.1
theorem dX12_isCopy_9 : decode cX12_isCopy 9 = .ok (.ifCond .lt 24, 3) := db_X12_isCopy_0.2.2.2.2.2.1
theorem dX12_isCopy_12 : decode cX12_isCopy 12 = .ok (.iload_n 2, 1) := db_X12_isCopy_0.2.2.2.2.2.2.1
theorem dX12_isCopy_13 : decode cX12_isCopy 13 = .ok (.aload_n 0, 1) := db_X12_isCopy_0.2.2.2.2.2.2.2.1
theorem dX12_isCopy_14 : decode cX12_isCopy 14 = .ok (.getfield 327, 3) := db_X12_isCopy_0.2.2.2.2.2.2.2.2.1
theorem dX12_isCopy_17 : decode cX12_isCopy 17 = .ok (.if_icmp .ge 16, 3) := db_X12_isCopy_0.2.2.2.2.2.2.2.2.2.1
theorem dX12_isCopy_20 : decode cX12_isCopy 20 = .ok (.aload_n 0, 1) := db_X12_isCopy_0.2.2.2.2.2.2.2.2.2.2.1
theorem dX12_isCopy_21 : decode cX12_isCopy 21 = .ok (.iload_n 1, 1) := db_X12_isCopy_0.2.2.2.2.2.2.2.2.2.2.2.1
theorem dX12_isCopy_22 : decode cX12_isCopy 22 = .ok (.iload_n 2, 1) := db_X12_isCopy_0.2.2.2.2.2.2.2.2.2.2.2.2.1
theorem dX12_isCopy_23 : decode cX12_isCopy 23 = .ok (.invokevirtual 352, 3) := db_X12_isCopy_0.2.2.2.2.2.2.2.2.2.2.2.2.2.1
theorem dX12_isCopy_26 : decode cX12_isCopy 26 = .ok (.ifCond .eq 7, 3) := db_X12_isCopy_0.2.2.2.2.2.2.2.2.2.2.2.2.2.2.1
theorem dX12_isCopy_29 : decode cX12_isCopy 29 = .ok (.iconst 1, 1) := db_X12_isCopy_0.2.2.2.2.2.2.2.2.2.2.2.2.2.2.2
theorem db_X12_isCopy_30 : decode cX12_isCopy 30 = .ok (.goto 4, 3) ∧ decode cX12_isCopy 33 = .ok (.iconst 0, 1) ∧ decode cX12_isCopy 34 = .ok (.ireturn, 1) := by decide +kernel
theorem dX12_isCopy_30 : decode cX12_isCopy 30 = .ok (.goto 4, 3) := db_X12_isCopy_30.1
theorem dX12_isCopy_33 : decode cX12_isCopy 33 = .ok (.iconst 0, 1) := db_X12_isCopy_30.2.1
theorem dX12_isCopy_34 : decode cX12_isCopy 34 = .ok (.ireturn, 1) := db_X12_isCopy_30.2.2
theorem db_X12_copy_0 : decode cX12_copy 0 = .ok (.aload_n 0, 1) ∧ decode cX12_copy 1 = .ok (.aload_n 0, 1) ∧ decode cX12_copy 2 = .ok (.iload_n 1, 1) ∧ decode cX12_copy 3 = .ok (.iload_n 2, 1) ∧ decode cX12_copy 4 = .ok (.invokevirtual 801, 3) ∧ decode cX12_copy 7 = .ok (.ifCond .eq 17, 3) ∧ decode cX12_copy 10 = .ok (.iload_n 3, 1) ∧ decode cX12_copy 11 = .ok (.ifCond .lt 13, 3) ∧ decode cX12_copy 14 = .ok (.iload_n 3, 1) ∧ decode cX12_copy 15 = .ok (.bipush 8, 2) ∧ decode cX12_copy 17 = .ok (.if_icmp .gt 7, 3) ∧ decode cX12_copy 20 = .ok (.iconst 0, 1) ∧ decode cX12_copy 21 = .ok (.goto 4, 3) ∧ decode cX12_copy 24 = .ok (.iconst 1, 1) ∧ decode cX12_copy 25 = .ok (.putfield 317, 3) ∧ decode cX12_copy 28 = .ok (.aload_n 0, 1) := by decide +kernel
theorem dX12_copy_0 : decode cX12_copy 0 = .ok (.aload_n 0, 1) := db_X12_copy_0.1
theorem dX12_copy_1 : decode cX12_copy 1 = .ok (.aload_n 0, 1) := db_X12_copy_0.2.1
theorem dX12_copy_2 : decode cX12_copy 2 = .ok (.iload_n 1, 1) := db_X12_copy_0.2.2.1
theorem dX12_copy_3 : decode cX12_copy 3 = .ok (.iload_n 2, 1) := db_X12_copy_0.2.2.2.1
theorem dX12_copy_4 : decode cX12_copy 4 = .ok (.invokevirtual 801, 3) := db_X12_copy_0.2.2.2.2.1
theorem dX12_copy_7 : decode cX12_copy 7 = .ok (.ifCond .eq 17, 3) := db_X12_copy_0.2.2.2.2.2.1
theorem dX12_copy_10 : decode cX12_copy 10 = .ok (.iload_n 3, 1) := db_X12_copy_0.2.2.2.2.2.2.1
theorem dX12_copy_11 : decode cX12_copy 11 = .ok (.ifCond .lt 13, 3) := db_X12_copy_0.2.2.2.2.2.2.2.1
theorem dX12_copy_14 : decode cX12_copy 14 = .ok (.iload_n 3, 1) := db_X12_copy_0.2.2.2.2.2.2.2.2.1
theorem dX12_copy_15 : decode cX12_copy 15 = .ok (.bipush 8, 2) := db_X12_copy_0.2.2.2.2.2.2.2.2.2.1
theorem dX12_copy_17 : decode cX12_copy 17 = .ok (.if_icmp .gt 7, 3) := db_X12_copy_0.2.2.2.2.2.2.2.2.2.2.1
theorem dX12_copy_20 : decode cX12_copy 20 = .ok (.iconst 0, 1) := db_X12_copy_0.2.2.2.2.2.2.2.2.2.2.2.1
theorem dX12_copy_21 : decode cX12_copy 21 = .ok (.goto 4, 3) := db_X12_copy_0.2.2.2.2.2.2.2.2.2.2.2.2.1
theorem dX12_copy_24 : decode cX12_copy 24 = .ok (.iconst 1, 1) := db_X12_copy_0.2.2.2.2.2.2.2.2.2.2.2.2.2.1
theorem dX12_copy_25 : decode cX12_copy 25 = .ok (.putfield 317, 3) := db_X12_copy_0.2.2.2.2.2.2.2.2.2.2.2.2.2.2.1
theorem dX12_copy_28 : decode cX12_copy 28 = .ok (.aload_n 0, 1) := db_X12_copy_0.2.2.2.2.2.2.2.2.2.2.2.2.2.2.2
theorem db_X12_copy_29 : decode cX12_copy 29 = .ok (.getfield 317, 3) ∧ decode cX12_copy 32 = .ok (.ifCond .gt 12, 3) ∧ decode cX12_copy 35 = .ok (.aload_n 0, 1) ∧ decode cX12_copy 36 = .ok (.getfield 77, 3) ∧ decode cX12_copy 39 = .ok (.iload_n 1, 1) ∧ decode cX12_copy 40 = .ok (.baload, 1) ∧ decode cX12_copy 41 = .ok (.ifCond .ne 16, 3) ∧ decode cX12_copy 44 = .ok (.aload_n 0, 1) ∧ decode cX12_copy 45 = .ok (.getfield 317, 3) ∧ decode cX12_copy 48 = .ok (.ifCond .le 7, 3) ∧ decode cX12_copy 51 = .ok (.iconst 0, 1) ∧ decode cX12_copy 52 = .ok (.goto 4, 3) ∧ decode cX12_copy 56 = .ok (.ireturn, 1) ∧ decode cX12_copy 57 = .ok (.aload_n 0, 1) ∧ decode cX12_copy 58 = .ok (.iload_n 1, 1) ∧ decode cX12_copy 59 = .ok (.iload_n 2, 1) := by decide +kernel
theorem dX12_copy_29 : decode cX12_copy 29 = .ok (.getfield 317, 3) := db_X12_copy_29.1
theorem dX12_copy_32 : decode cX12_copy 32 = .ok (.ifCond .gt 12, 3) := db_X12_copy_29.2.1
theorem dX12_copy_35 : decode cX12_copy 35 = .ok (.aload_n 0, 1) := db_X12_copy_29.2.2.1
theorem dX12_copy_36 : decode cX12_copy 36 = .ok (.getfield 77, 3) := db_X12_copy_29.2.2.2.1
theorem dX12_copy_39 : decode cX12_copy 39 = .ok (.iload_n 1, 1) := db_X12_copy_29.2.2.2.2.1
theorem dX12_copy_40 : decode cX12_copy 40 = .ok (.baload, 1) := db_X12_copy_29.2.2.2.2.2.1
theorem dX12_copy_41 : decode cX12_copy 41 = .ok (.ifCond .ne 16, 3) := db_X12_copy_29.2.2.2.2.2.2.1
theorem dX12_copy_44 : decode cX12_copy 44 = .ok (.aload_n 0, 1) := db_X12_copy_29.2.2.2.2.2.2.2.1
theorem dX12_copy_45 : decode cX12_copy 45 = .ok (.getfield 317, 3) := db_X12_copy_29.2.2.2.2.2.2.2.2.1
theorem dX12_copy_48 : decode cX12_copy 48 = .ok (.ifCond .le 7, 3) := db_X12_copy_29.2.2.2.2.2.2.2.2.2.1
theorem dX12_copy_51 : decode cX12_copy 51 = .ok (.iconst 0, 1) := db_X12_copy_29.2.2.2.2.2.2.2.2.2.2.1
theorem dX12_copy_52 : decode cX12_copy 52 = .ok (.goto 4, 3) := db_X12_copy_29.2.2.2.2.2.2.2.2.2.2.2.1
theorem dX12_copy_56 : decode cX12_copy 56 = .ok (.ireturn, 1) := db_X12_copy_29.2.2.2.2.2.2.2.2.2.2.2.2.1
theorem dX12_copy_57 : decode cX12_copy 57 = .ok (.aload_n 0, 1) := db_X12_copy_29.2.2.2.2.2.2.2.2.2.2.2.2.2.1
theorem dX12_copy_58 : decode cX12_copy 58 = .ok (.iload_n 1, 1) := db_X12_copy_29.2.2.2.2.2.2.2.2.2.2.2.2.2.2.1
theorem dX12_copy_59 : decode cX12_copy 59 = .ok (.iload_n 2, 1) := db_X12_copy_29.2.2.2.2.2.2.2.2.2.2.2.2.2.2.2
theorem db_X12_copy_60 : decode cX12_copy 60 = .ok (.invokevirtual 364, 3) ∧ decode cX12_copy 63 = .ok (.istore 4, 2) ∧ decode cX12_copy 65 = .ok (.iload_n 3, 1) ∧ decode cX12_copy 66 = .ok (.tableswitch 110 0 7 #[46, 54, 62, 70, 78, 86, 94, 102], 46) ∧ decode cX12_copy 112 = .ok (.aload_n 0, 1) ∧ decode cX12_copy 113 = .ok (.getfield 125, 3) ∧ decode cX12_copy 116 = .ok (.iload 4, 2) ∧ decode cX12_copy 118 = .ok (.iaload, 1) ∧ decode cX12_copy 119 = .ok (.ireturn, 1) ∧ decode cX12_copy 120 = .ok (.aload_n 0, 1) ∧ decode cX12_copy 121 = .ok (.getfield 128, 3) ∧ decode cX12_copy 124 = .ok (.iload 4, 2) ∧ decode cX12_copy 126 = .ok (.iaload, 1) ∧ decode cX12_copy 127 = .ok (.ireturn, 1) ∧ decode cX12_copy 128 = .ok (.aload_n 0, 1) ∧ decode cX12_copy 129 = .ok (.getfield 131, 3) := by decide +kernel
theorem dX12_copy_60 : decode cX12_copy 60 = .ok (.invokevirtual 364, 3) := db_X12_copy_60.1
theorem dX12_copy_63 : decode cX12_copy 63 = .ok (.istore 4, 2) := db_X12_copy_60.2.1
theorem dX12_copy_65 : decode cX12_copy 65 = .ok (.iload_n 3, 1) := db_X12_copy_60.2.2.1
theorem dX12_copy_66 : decode cX12_copy 66 = .ok (.tableswitch 110 0 7 #[46, 54, 62, 70, 78, 86, 94, 102], 46) := db_X12_copy_60.2.2.2.1
theorem dX12_copy_112 : decode cX12_copy 112 = .ok (.aload_n 0, 1) := db_X12_copy_60.2.2.2.2.1
theorem dX12_copy_113 : decode cX12_copy 113 = .ok (.getfield 125, 3) := db_X12_copy_60.2.2.2.2.2.1
theorem dX12_copy_116 : decode cX12_copy 116 = .ok (.iload 4, 2) := db_X12_copy_60.2.2.2.2.2.2.1
theorem dX12_copy_118 : decode cX12_copy 118 = .ok (.iaload, 1) := db_X12_copy_60.2.2.2.2.2.2.2.1
theorem dX12_copy_119 : decode cX12_copy 119 = .ok (.ireturn, 1) := db_X12_copy_60.2.2.2.2.2.2.2.2.1
theorem dX12_copy_120 : decode cX12_copy 120 = .ok (.aload_n 0, 1) := db_X12_copy_60.2.2.2.2.2.2.2.2.2.1
theorem dX12_copy_121 : decode cX12_copy 121 = .ok (.getfield 128, 3) := db_X12_copy_60.2.2.2.2.2.2.2.2.2.2.1
theorem dX12_copy_124 : decode cX12_copy 124 = .ok (.iload 4, 2) := db_X12_copy_60.2.2.2.2.2.2.2.2.2.2.2.1
theorem dX12_copy_126 : decode cX12_copy 126 = .ok (.iaload, 1) := db_X12_copy_60.2.2.2.2.2.2.2.2.2.2.2.2.1
theorem dX12_copy_127 : decode cX12_copy 127 = .ok (.ireturn, 1) := db_X12_copy_60.2.2.2.2.2.2.2.2.2.2.2.2.2.1
theorem dX12_copy_128 : decode cX12_copy 128 = .ok (.aload_n 0, 1) := db_X12_copy_60.2.2.2.2.2.2.2.2.2.2.2.2.2.2.1
theorem dX12_copy_129 : decode cX12_copy 129 = .ok (.getfield 131, 3) := db_X12_copy_60.2.2.2.2.2.2.2.2.2.2.2.2.2.2.2
theorem db_X12_copy_132 : decode cX12_copy 132 = .ok (.iload 4, 2) ∧ decode cX12_copy 134 = .ok (.iaload, 1) ∧ decode cX12_copy 135 = .ok (.ireturn, 1) ∧ decode cX12_copy 136 = .ok (.aload_n 0, 1) ∧ decode cX12_copy 137 = .ok (.getfield 134, 3) ∧ decode cX12_copy 140 = .ok (.iload 4, 2) ∧ decode cX12_copy 142 = .ok (.iaload, 1) ∧ decode cX12_copy 143 = .ok (.ireturn, 1) ∧ decode cX12_copy 144 = .ok (.aload_n 0, 1) ∧ decode cX12_copy 145 = .ok (.getfield 137, 3) ∧ decode cX12_copy 148 = .ok (.iload 4, 2) ∧ decode cX12_copy 150 = .ok (.iaload, 1) ∧ decode cX12_copy 151 = .ok (.ireturn, 1) ∧ decode cX12_copy 152 = .ok (.aload_n 0, 1) ∧ decode cX12_copy 153 = .ok (.getfield 140, 3) ∧ decode cX12_copy 156 = .ok (.iload 4, 2) := by decide +kernel
theorem dX12_copy_132 : decode cX12_copy 132 = .ok (.iload 4, 2) := db_X12_copy_132.1
theorem dX12_copy_134 : decode cX12_copy 134 = .ok (.iaload, 1) := db_X12_copy_132.2.1
theorem dX12_copy_135 : decode cX12_copy 135 = .ok (.ireturn, 1) := db_X12_copy_132.2.2.1
theorem dX12_copy_136 : decode cX12_copy 136 = .ok (.aload_n 0, 1) := db_X12_copy_132.2.2.2.1
theorem dX12_copy_137 : decode cX12_copy 137 = .ok (.getfield 134, 3) := db_X12_copy_132.2.2.2.2.1
theorem dX12_copy_140 : decode cX12_copy 140 = .ok (.iload 4, 2) := db_X12_copy_132.2.2.2.2.2.1
theorem dX12_copy_142 : decode cX12_copy 142 = .ok (.iaload, 1) := db_X12_copy_132.2.2.2.2.2.2.1
theorem dX12_copy_143 : decode cX12_copy 143 = .ok (.ireturn, 1) := db_X12_copy_132.2.2.2.2.2.2.2.1
theorem dX12_copy_144 : decode cX12_copy 144 = .ok (.aload_n 0, 1) := db_X12_copy_132.2.2.2.2.2.2.2.2.1
theorem dX12_copy_145 : decode cX12_copy 145 = .ok (.getfield 137, 3) := db_X12_copy_132.2.2.2.2.2.2.2.2.2.1
theorem dX12_copy_148 : decode cX12_copy 148 = .ok (.iload 4, 2) := db_X12_copy_132.2.2.2.2.2.2.2.2.2.2.1
theorem dX12_copy_150 : decode cX12_copy 150 = .ok (.iaload, 1) := db_X12_copy_132.2.2.2.2.2.2.2.2.2.2.2.1
theorem dX12_copy_151 : decode cX12_copy 151 = .ok (.ireturn, 1) := db_X12_copy_132.2.2.2.2.2.2.2.2.2.2.2.2.1
theorem dX12_copy_152 : decode cX12_copy 152 = .ok (.aload_n 0, 1) := db_X12_copy_132.2.2.2.2.2.2.2.2.2.2.2.2.2.1
theorem dX12_copy_153 : decode cX12_copy 153 = .ok (.getfield 140, 3) := db_X12_copy_132.2.2.2.2.2.2.2.2.2.2.2.2.2.2.1
theorem dX12_copy_156 : decode cX12_copy 156 = .ok (.iload 4, 2) := db_X12_copy_132.2.2.2.2.2.2.2.2.2.2.2.2.2.2.2
theorem db_X12_copy_158 : decode cX12_copy 158 = .ok (.iaload, 1) ∧ decode cX12_copy 159 = .ok (.ireturn, 1) ∧ decode cX12_copy 160 = .ok (.aload_n 0, 1) ∧ decode cX12_copy 161 = .ok (.getfield 194, 3) ∧ decode cX12_copy 164 = .ok (.iload 4, 2) ∧ decode cX12_copy 166 = .ok (.iaload, 1) ∧ decode cX12_copy 167 = .ok (.ireturn, 1) ∧ decode cX12_copy 168 = .ok (.aload_n 0, 1) ∧ decode cX12_copy 169 = .ok (.getfield 94, 3) ∧ decode cX12_copy 172 = .ok (.iload 4, 2) ∧ decode cX12_copy 174 = .ok (.iaload, 1) ∧ decode cX12_copy 175 = .ok (.ireturn, 1) ∧ decode cX12_copy 176 = .ok (.iconst 0, 1) ∧ decode cX12_copy 177 = .ok (.istore 5, 2) ∧ decode cX12_copy 179 = .ok (.iload_n 2, 1) ∧ decode cX12_copy 180 = .ok (.istore 6, 2) := by decide +kernel
theorem dX12_copy_158 : decode cX12_copy 158 = .ok (.iaload, 1) := db_X12_copy_158.1
theorem dX12_copy_159 : decode cX12_copy 159 = .ok (.ireturn, 1) := db_X12_copy_158.2.1
theorem dX12_copy_160 : decode cX12_copy 160 = .ok (.aload_n 0, 1) := db_X12_copy_158.2.2.1
theorem dX12_copy_161 : decode cX12_copy 161 = .ok (.getfield 194, 3) := db_X12_copy_158.2.2.2.1
theorem dX12_copy_164 : decode cX12_copy 164 = .ok (.iload 4, 2) := db_X12_copy_158.2.2.2.2.1
theorem dX12_copy_166 : decode cX12_copy 166 = .ok (.iaload, 1) := db_X12_copy_158.2.2.2.2.2.1
theorem dX12_copy_167 : decode cX12_copy 167 = .ok (.ireturn, 1) := db_X12_copy_158.2.2.2.2.2.2.1
theorem dX12_copy_168 : decode cX12_copy 168 = .ok (.aload_n 0, 1) := db_X12_copy_158.2.2.2.2.2.2.2.1
theorem dX12_copy_169 : decode cX12_copy 169 = .ok (.getfield 94, 3) := db_X12_copy_158.2.2.2.2.2.2.2.2.1
theorem dX12_copy_172 : decode cX12_copy 172 = .ok (.iload 4, 2) := db_X12_copy_158.2.2.2.2.2.2.2.2.2.1
theorem dX12_copy_174 : decode cX12_copy 174 = .ok (.iaload, 1) := db_X12_copy_158.2.2.2.2.2.2.2.2.2.2.1
theorem dX12_copy_175 : decode cX12_copy 175 = .ok (.ireturn, 1) := db_X12_copy_158.2.2.2.2.2.2.2.2.2.2.2.1
theorem dX12_copy_176 : decode cX12_copy 176 = .ok (.iconst 0, 1) := db_X12_copy_158.2.2.2.2.2.2.2.2.2.2.2.2.1
theorem dX12_copy_177 : decode cX12_copy 177 = .ok (.istore 5, 2) := db_X12_copy_158.2.2.2.2.2.2.2.2.2.2.2.2.2.1
theorem dX12_copy_179 : decode cX12_copy 179 = .ok (.iload_n 2, 1) := db_X12_copy_158.2.2.2.2.2.2.2.2.2.2.2.2.2.2.1
theorem dX12_copy_180 : decode cX12_copy 180 = .ok (.istore 6, 2) := db_X12_copy_158.2.2.2.2.2.2.2.2.2.2.2.2.2.2.2
theorem db_X12_copy_182 : decode cX12_copy 182 = .ok (.iload 6, 2) ∧ decode cX12_copy 184 = .ok (.bipush 100, 2) ∧ decode cX12_copy 186 = .ok (.if_icmp .ge 48, 3) ∧ decode cX12_copy 189 = .ok (.iload 5, 2) ∧ decode cX12_copy 191 = .ok (.aload_n 0, 1) ∧ decode cX12_copy 192 = .ok (.aload_n 0, 1) ∧ decode cX12_copy 193 = .ok (.iload 4, 2) ∧ decode cX12_copy 195 = .ok (.aload_n 0, 1) ∧ decode cX12_copy 196 = .ok (.getfield 131, 3) ∧ decode cX12_copy 199 = .ok (.iload 4, 2) ∧ decode cX12_copy 201 = .ok (.iaload, 1) ∧ decode cX12_copy 202 = .ok (.invokevirtual 389, 3) ∧ decode cX12_copy 205 = .ok (.iload 6, 2) ∧ decode cX12_copy 207 = .ok (.invokevirtual 392, 3) ∧ decode cX12_copy 210 = .ok (.iconst (-1), 1) ∧ decode cX12_copy 211 = .ok (.if_icmp .eq 7, 3) := by decide +kernel
theorem dX12_copy_182 : decode cX12_copy 182 = .ok (.iload 6, 2) := db_X12_copy_182.1
theorem dX12_copy_184 : decode cX12_copy 184 = .ok (.bipush 100, 2) := db_X12_copy_182.2.1
theorem dX12_copy_186 : decode cX12_copy 186 = .ok (.if_icmp .ge 48, 3) := db_X12_copy_182.2.2.1
theorem dX12_copy_189 : decode cX12_copy 189 = .ok (.iload 5, 2) := db_X12_copy_182.2.2.2.1
theorem dX12_copy_191 : decode cX12_copy 191 = .ok (.aload_n 0, 1) := db_X12_copy_182.2.2.2.2.1
theorem dX12_copy_192 : decode cX12_copy 192 = .ok (.aload_n 0, 1) := db_X12_copy_182.2.2.2.2.2.1
theorem dX12_copy_193 : decode cX12_copy 193 = .ok (.iload 4, 2) := db_X12_copy_182.2.2.2.2.2.2.1
theorem dX12_copy_195 : decode cX12_copy 195 = .ok (.aload_n 0, 1) := db_X12_copy_182.2.2.2.2.2.2.2.1
theorem dX12_copy_196 : decode cX12_copy 196 = .ok (.getfield 131, 3) := db_X12_copy_182.2.2.2.2.2.2.2.2.1
theorem dX12_copy_199 : decode cX12_copy 199 = .ok (.iload 4, 2) := db_X12_copy_182.2.2.2.2.2.2.2.2.2.1
theorem dX12_copy_201 : decode cX12_copy 201 = .ok (.iaload, 1) := db_X12_copy_182.2.2.2.2.2.2.2.2.2.2.1
theorem dX12_copy_202 : decode cX12_copy 202 = .ok (.invokevirtual 389, 3) := db_X12_copy_182.2.2.2.2.2.2.2.2.2.2.2.1
theorem dX12_copy_205 : decode cX12_copy 205 = .ok (.iload 6, 2) := db_X12_copy_182.2.2.2.2.2.2.2.2.2.2.2.2.1
theorem dX12_copy_207 : decode cX12_copy 207 = .ok (.invokevirtual 392, 3) := db_X12_copy_182.2.2.2.2.2.2.2.2.2.2.2.2.2.1
theorem dX12_copy_210 : decode cX12_copy 210 = .ok (.iconst (-1), 1) := db_X12_copy_182.2.2.2.2.2.2.2.2.2.2.2.2.2.2.1
theorem dX12_copy_211 : decode cX12_copy 211 = .ok (.if_icmp .eq 7, 3) := db_X12_copy_182.2.2.2.2.2.2.2.2.2.2.2.2.2.2.2
theorem db_X12_copy_218 : decode cX12_copy 218 = .ok (.iconst 0, 1) ∧ decode cX12_copy 219 = .ok (.iadd, 1) ∧ decode cX12_copy 220 = .ok (.istore 5, 2) ∧ decode cX12_copy 222 = .ok (.iload 6, 2) ∧ decode cX12_copy 224 = .ok (.aload_n 0, 1) ∧ decode cX12_copy 225 = .ok (.getfield 327, 3) ∧ decode cX12_copy 228 = .ok (.iadd, 1) ∧ decode cX12_copy 229 = .ok (.istore 6, 2) ∧ decode cX12_copy 231 = .ok (.goto (-49), 3) ∧ decode cX12_copy 234 = .ok (.iload 5, 2) ∧ decode cX12_copy 236 = .ok (.ireturn, 1) := by decide +kernel
theorem dX12_copy_218 : decode cX12_copy 218 = .ok (.iconst 0, 1) := db_X12_copy_218.1
theorem dX12_copy_219 : decode cX12_copy 219 = .ok (.iadd, 1) := db_X12_copy_218.2.1
theorem dX12_copy_220 : decode cX12_copy 220 = .ok (.istore 5, 2) := db_X12_copy_218.2.2.1
theorem dX12_copy_222 : decode cX12_copy 222 = .ok (.iload 6, 2) := db_X12_copy_218.2.2.2.1
theorem dX12_copy_224 : decode cX12_copy 224 = .ok (.aload_n 0, 1) := db_X12_copy_218.2.2.2.2.1
theorem dX12_copy_225 : decode cX12_copy 225 = .ok (.getfield 327, 3) := db_X12_copy_218.2.2.2.2.2.1
theorem dX12_copy_228 : decode cX12_copy 228 = .ok (.iadd, 1) := db_X12_copy_218.2.2.2.2.2.2.1
theorem dX12_copy_229 : decode cX12_copy 229 = .ok (.istore 6, 2) := db_X12_copy_218.2.2.2.2.2.2.2.1
theorem dX12_copy_231 : decode cX12_copy 231 = .ok (.goto (-49), 3) := db_X12_copy_218.2.2.2.2.2.2.2.2.1
theorem dX12_copy_234 : decode cX12_copy 234 = .ok (.iload 5, 2) := db_X12_copy_218.2.2.2.2.2.2.2.2.2.1
theorem dX12_copy_236 : decode cX12_copy 236 = .ok (.ireturn, 1) := db_X12_copy_218.2.2.2.2.2.2.2.2.2.2
theorem db_X12_other_0 : decode cX12_other 0 = .ok (.aload_n 0, 1) ∧ decode cX12_other 1 = .ok (.aload_n 0, 1) ∧ decode cX12_other 2 = .ok (.iload_n 1, 1) ∧ decode cX12_other 3 = .ok (.iload_n 2, 1) ∧ decode cX12_other 4 = .ok (.invokevirtual 801, 3) ∧ decode cX12_other 7 = .ok (.ifCond .eq 32, 3) ∧ decode cX12_other 10 = .ok (.aload_n 0, 1) ∧ decode cX12_other 11 = .ok (.iload_n 3, 1) ∧ decode cX12_other 12 = .ok (.iload_n 2, 1) ∧ decode cX12_other 13 = .ok (.invokevirtual 801, 3) ∧ decode cX12_other 16 = .ok (.ifCond .eq 23, 3) ∧ decode cX12_other 19 = .ok (.iload_n 3, 1) ∧ decode cX12_other 20 = .ok (.iload_n 1, 1) ∧ decode cX12_other 21 = .ok (.if_icmp .eq 18, 3) ∧ decode cX12_other 24 = .ok (.iload 4, 2) ∧ decode cX12_other 26 = .ok (.ifCond .lt 13, 3) := by decide +kernel
theorem dX12_other_0 : decode cX12_other 0 = .ok (.aload_n 0, 1) := db_X12_other_0.1
theorem dX12_other_1 : decode cX12_other 1 = .ok (.aload_n 0, 1) := db_X12_other_0.2.1
theorem dX12_other_2 : decode cX12_other 2 = .ok (.iload_n 1, 1) := db_X12_other_0.2.2.1
theorem dX12_other_3 : decode cX12_other 3 = .ok (.iload_n 2, 1) := db_X12_other_0.2.2.2.1
theorem dX12_other_4 : decode cX12_other 4 = .ok (.invokevirtual 801, 3) := db_X12_other_0.2.2.2.2.1
theorem dX12_other_7 : decode cX12_other 7 = .ok (.ifCond .eq 32, 3) := db_X12_other_0.2.2.2.2.2.1
theorem dX12_other_10 : decode cX12_other 10 = .ok (.aload_n 0, 1) := db_X12_other_0.2.2.2.2.2.2.1
theorem dX12_other_11 : decode cX12_other 11 = .ok (.iload_n 3, 1) := db_X12_other_0.2.2.2.2.2.2.2.1
theorem dX12_other_12 : decode cX12_other 12 = .ok (.iload_n 2, 1) := db_X12_other_0.2.2.2.2.2.2.2.2.1
theorem dX12_other_13 : decode cX12_other 13 = .ok (.invokevirtual 801, 3) := db_X12_other_0.2.2.2.2.2.2.2.2.2.1
theorem dX12_other_16 : decode cX12_other 16 = .ok (.ifCond .eq 23, 3) := db_X12_other_0.2.2.2.2.2.2.2.2.2.2.1
theorem dX12_other_19 : decode cX12_other 19 = .ok (.iload_n 3, 1) := db_X12_other_0.2.2.2.2.2.2.2.2.2.2.2.1
theorem dX12_other_20 : decode cX12_other 20 = .ok (.iload_n 1, 1) := db_X12_other_0.2.2.2.2.2.2.2.2.2.2.2.2.1
theorem dX12_other_21 : decode cX12_other 21 = .ok (.if_icmp .eq 18, 3) := db_X12_other_0.2.2.2.2.2.2.2.2.2.2.2.2.2.1
theorem dX12_other_24 : decode cX12_other 24 = .ok (.iload 4, 2) := db_X12_other_0.2.2.2.2.2.2.2.2.2.2.2.2.2.2.1
theorem dX12_other_26 : decode cX12_other 26 = .ok (.ifCond .lt 13, 3) := db_X12_other_0.2.2.2.2.2.2.2.2.2.2.2.2.2.2.2
theorem db_X12_other_29 : decode cX12_other 29 = .ok (.iload 4, 2) ∧ decode cX12_other 31 = .ok (.iconst 3, 1) ∧ decode cX12_other 32 = .ok (.if_icmp .gt 7, 3) ∧ decode cX12_other 35 = .ok (.iconst 0, 1) ∧ decode cX12_other 36 = .ok (.goto 4, 3) ∧ decode cX12_other 39 = .ok (.iconst 1, 1) ∧ decode cX12_other 40 = .ok (.putfield 317, 3) ∧ decode cX12_other 43 = .ok (.aload_n 0, 1) ∧ decode cX12_other 44 = .ok (.getfield 317, 3) ∧ decode cX12_other 47 = .ok (.ifCond .le 5, 3) ∧ decode cX12_other 50 = .ok (.iconst 0, 1) ∧ decode cX12_other 51 = .ok (.ireturn, 1) ∧ decode cX12_other 52 = .ok (.aload_n 0, 1) ∧ decode cX12_other 53 = .ok (.iload_n 1, 1) ∧ decode cX12_other 54 = .ok (.iload_n 2, 1) ∧ decode cX12_other 55 = .ok (.invokevirtual 364, 3) := by decide +kernel
theorem dX12_other_29 : decode cX12_other 29 = .ok (.iload 4, 2) := db_X12_other_29.1
theorem dX12_other_31 : decode cX12_other 31 = .ok (.iconst 3, 1) := db_X12_other_29.2.1
theorem dX12_other_32 : decode cX12_other 32 = .ok (.if_icmp .gt 7, 3) := db_X12_other_29.2.2.1
theorem dX12_other_35 : decode cX12_other 35 = .ok (.iconst 0, 1) := db_X12_other_29.2.2.2.1
theorem dX12_other_36 : decode cX12_other 36 = .ok (.goto 4, 3) := db_X12_other_29.2.2.2.2.1
theorem dX12_other_39 : decode cX12_other 39 = .ok (.iconst 1, 1) := db_X12_other_29.2.2.2.2.2.1
theorem dX12_other_40 : decode cX12_other 40 = .ok (.putfield 317, 3) := db_X12_other_29.2.2.2.2.2.2.1
theorem dX12_other_43 : decode cX12_other 43 = .ok (.aload_n 0, 1) := db_X12_other_29.2.2.2.2.2.2.2.1
theorem dX12_other_44 : decode cX12_other 44 = .ok (.getfield 317, 3) := db_X12_other_29.2.2.2.2.2.2.2.2.1
theorem dX12_other_47 : decode cX12_other 47 = .ok (.ifCond .le 5, 3) := db_X12_other_29.2.2.2.2.2.2.2.2.2.1
theorem dX12_other_50 : decode cX12_other 50 = .ok (.iconst 0, 1) := db_X12_other_29.2.2.2.2.2.2.2.2.2.2.1
theorem dX12_other_51 : decode cX12_other 51 = .ok (.ireturn, 1) := db_X12_other_29.2.2.2.2.2.2.2.2.2.2.2.1
theorem dX12_other_52 : decode cX12_other 52 = .ok (.aload_n 0, 1) := db_X12_other_29.2.2.2.2.2.2.2.2.2.2.2.2.1
theorem dX12_other_53 : decode cX12_other 53 = .ok (.iload_n 1, 1) := db_X12_other_29.2.2.2.2.2.2.2.2.2.2.2.2.2.1
theorem dX12_other_54 : decode cX12_other 54 = .ok (.iload_n 2, 1) := db_X12_other_29.2.2.2.2.2.2.2.2.2.2.2.2.2.2.1
theorem dX12_other_55 : decode cX12_other 55 = .ok (.invokevirtual 364, 3) := db_X12_other_29.2.2.2.2.2.2.2.2.2.2.2.2.2.2.2
theorem db_X12_other_58 : decode cX12_other 58 = .ok (.istore 5, 2) ∧ decode cX12_other 60 = .ok (.aload_n 0, 1) ∧ decode cX12_other 61 = .ok (.getfield 77, 3) ∧ decode cX12_other 64 = .ok (.iload_n 1, 1) ∧ decode cX12_other 65 = .ok (.baload, 1) ∧ decode cX12_other 66 = .ok (.ifCond .eq 14, 3) ∧ decode cX12_other 69 = .ok (.aload_n 0, 1) ∧ decode cX12_other 70 = .ok (.getfield 140, 3) ∧ decode cX12_other 73 = .ok (.iload 5, 2) ∧ decode cX12_other 75 = .ok (.iaload, 1) ∧ decode cX12_other 76 = .ok (.iconst 2, 1) ∧ decode cX12_other 77 = .ok (.if_icmp .eq 5, 3) ∧ decode cX12_other 80 = .ok (.iconst (-1), 1) ∧ decode cX12_other 81 = .ok (.ireturn, 1) ∧ decode cX12_other 82 = .ok (.iconst 5, 1) ∧ decode cX12_other 83 = .ok (.iload 5, 2) := by decide +kernel
theorem dX12_other_58 : decode cX12_other 58 = .ok (.istore 5, 2) := db_X12_other_58.1
theorem dX12_other_60 : decode cX12_other 60 = .ok (.aload_n 0, 1) := db_X12_other_58.2.1
theorem dX12_other_61 : decode cX12_other 61 = .ok (.getfield 77, 3) := db_X12_other_58.2.2.1
theorem dX12_other_64 : decode cX12_other 64 = .ok (.iload_n 1, 1) := db_X12_other_58.2.2.2.1
theorem dX12_other_65 : decode cX12_other 65 = .ok (.baload, 1) := db_X12_other_58.2.2.2.2.1
theorem dX12_other_66 : decode cX12_other 66 = .ok (.ifCond .eq 14, 3) := db_X12_other_58.2.2.2.2.2.1
theorem dX12_other_69 : decode cX12_other 69 = .ok (.aload_n 0, 1) := db_X12_other_58.2.2.2.2.2.2.1
theorem dX12_other_70 : decode cX12_other 70 = .ok (.getfield 140, 3) := db_X12_other_58.2.2.2.2.2.2.2.1
theorem dX12_other_73 : decode cX12_other 73 = .ok (.iload 5, 2) := db_X12_other_58.2.2.2.2.2.2.2.2.1
theorem dX12_other_75 : decode cX12_other 75 = .ok (.iaload, 1) := db_X12_other_58.2.2.2.2.2.2.2.2.2.1
theorem dX12_other_76 : decode cX12_other 76 = .ok (.iconst 2, 1) := db_X12_other_58.2.2.2.2.2.2.2.2.2.2.1
theorem dX12_other_77 : decode cX12_other 77 = .ok (.if_icmp .eq 5, 3) := db_X12_other_58.2.2.2.2.2.2.2.2.2.2.2.1
theorem dX12_other_80 : decode cX12_other 80 = .ok (.iconst (-1), 1) := db_X12_other_58.2.2.2.2.2.2.2.2.2.2.2.2.1
theorem dX12_other_81 : decode cX12_other 81 = .ok (.ireturn, 1) := db_X12_other_58.2.2.2.2.2.2.2.2.2.2.2.2.2.1
theorem dX12_other_82 : decode cX12_other 82 = .ok (.iconst 5, 1) := db_X12_other_58.2.2.2.2.2.2.2.2.2.2.2.2.2.2.1
theorem dX12_other_83 : decode cX12_other 83 = .ok (.iload 5, 2) := db_X12_other_58.2.2.2.2.2.2.2.2.2.2.2.2.2.2.2
theorem db_X12_other_85 : decode cX12_other 85 = .ok (.imul, 1) ∧ decode cX12_other 86 = .ok (.iload_n 3, 1) ∧ decode cX12_other 87 = .ok (.iadd, 1) ∧ decode cX12_other 88 = .ok (.istore 6, 2) ∧ decode cX12_other 90 = .ok (.iload 4, 2) ∧ decode cX12_other 92 = .ok (.ifCond .ne 13, 3) ∧ decode cX12_other 95 = .ok (.aload_n 0, 1) ∧ decode cX12_other 96 = .ok (.getfield 158, 3) ∧ decode cX12_other 99 = .ok (.iload 6, 2) ∧ decode cX12_other 101 = .ok (.iaload, 1) ∧ decode cX12_other 102 = .ok (.goto 42, 3) ∧ decode cX12_other 105 = .ok (.iload 4, 2) ∧ decode cX12_other 107 = .ok (.iconst 1, 1) ∧ decode cX12_other 108 = .ok (.if_icmp .ne 13, 3) ∧ decode cX12_other 111 = .ok (.aload_n 0, 1) ∧ decode cX12_other 112 = .ok (.getfield 161, 3) := by decide +kernel
theorem dX12_other_85 : decode cX12_other 85 = .ok (.imul, 1) := db_X12_other_85.1
theorem dX12_other_86 : decode cX12_other 86 = .ok (.iload_n 3, 1) := db_X12_other_85.2.1
theorem dX12_other_87 : decode cX12_other 87 = .ok (.iadd, 1) := db_X12_other_85.2.2.1
theorem dX12_other_88 : decode cX12_other 88 = .ok (.istore 6, 2) := db_X12_other_85.2.2.2.1
theorem dX12_other_90 : decode cX12_other 90 = .ok (.iload 4, 2) := db_X12_other_85.2.2.2.2.1
theorem dX12_other_92 : decode cX12_other 92 = .ok (.ifCond .ne 13, 3) := db_X12_other_85.2.2.2.2.2.1
theorem dX12_other_95 : decode cX12_other 95 = .ok (.aload_n 0, 1) := db_X12_other_85.2.2.2.2.2.2.1
theorem dX12_other_96 : decode cX12_other 96 = .ok (.getfield 158, 3) := db_X12_other_85.2.2.2.2.2.2.2.1
theorem dX12_other_99 : decode cX12_other 99 = .ok (.iload 6, 2) := db_X12_other_85.2.2.2.2.2.2.2.2.1
theorem dX12_other_101 : decode cX12_other 101 = .ok (.iaload, 1) := db_X12_other_85.2.2.2.2.2.2.2.2.2.1
theorem dX12_other_102 : decode cX12_other 102 = .ok (.goto 42, 3) := db_X12_other_85.2.2.2.2.2.2.2.2.2.2.1
theorem dX12_other_105 : decode cX12_other 105 = .ok (.iload 4, 2) := db_X12_other_85.2.2.2.2.2.2.2.2.2.2.2.1
theorem dX12_other_107 : decode cX12_other 107 = .ok (.iconst 1, 1) := db_X12_other_85.2.2.2.2.2.2.2.2.2.2.2.2.1
theorem dX12_other_108 : decode cX12_other 108 = .ok (.if_icmp .ne 13, 3) := db_X12_other_85.2.2.2.2.2.2.2.2.2.2.2.2.2.1
theorem dX12_other_111 : decode cX12_other 111 = .ok (.aload_n 0, 1) := db_X12_other_85.2.2.2.2.2.2.2.2.2.2.2.2.2.2.1
theorem dX12_other_112 : decode cX12_other 112 = .ok (.getfield 161, 3) := db_X12_other_85.2.2.2.2.2.2.2.2.2.2.2.2.2.2.2
theorem db_X12_other_115 : decode cX12_other 115 = .ok (.iload 6, 2) ∧ decode cX12_other 117 = .ok (.iaload, 1) ∧ decode cX12_other 118 = .ok (.goto 26, 3) ∧ decode cX12_other 121 = .ok (.iload 4, 2) ∧ decode cX12_other 123 = .ok (.iconst 2, 1) ∧ decode cX12_other 124 = .ok (.if_icmp .ne 13, 3) ∧ decode cX12_other 127 = .ok (.aload_n 0, 1) ∧ decode cX12_other 128 = .ok (.getfield 164, 3) ∧ decode cX12_other 131 = .ok (.iload 6, 2) ∧ decode cX12_other 133 = .ok (.iaload, 1) ∧ decode cX12_other 134 = .ok (.goto 10, 3) ∧ decode cX12_other 137 = .ok (.aload_n 0, 1) ∧ decode cX12_other 138 = .ok (.getfield 173, 3) ∧ decode cX12_other 141 = .ok (.iload 6, 2) ∧ decode cX12_other 143 = .ok (.iaload, 1) ∧ decode cX12_other 144 = .ok (.ireturn, 1) := by decide +kernel
theorem dX12_other_115 : decode cX12_other 115 = .ok (.iload 6, 2) := db_X12_other_115.1
theorem dX12_other_117 : decode cX12_other 117 = .ok (.iaload, 1) := db_X12_other_115.2.1
theorem dX12_other_118 : decode cX12_other 118 = .ok (.goto 26, 3) := db_X12_other_115.2.2.1
theorem dX12_other_121 : decode cX12_other 121 = .ok (.iload 4, 2) := db_X12_other_115.2.2.2.1
theorem dX12_other_123 : decode cX12_other 123 = .ok (.iconst 2, 1) := db_X12_other_115.2.2.2.2.1
theorem dX12_other_124 : decode cX12_other 124 = .ok (.if_icmp .ne 13, 3) := db_X12_other_115.2.2.2.2.2.1
theorem dX12_other_127 : decode cX12_other 127 = .ok (.aload_n 0, 1) := db_X12_other_115.2.2.2.2.2.2.1
theorem dX12_other_128 : decode cX12_other 128 = .ok (.getfield 164, 3) := db_X12_other_115.2.2.2.2.2.2.2.1
theorem dX12_other_131 : decode cX12_other 131 = .ok (.iload 6, 2) := db_X12_other_115.2.2.2.2.2.2.2.2.1
theorem dX12_other_133 : decode cX12_other 133 = .ok (.iaload, 1) := db_X12_other_115.2.2.2.2.2.2.2.2.2.1
theorem dX12_other_134 : decode cX12_other 134 = .ok (.goto 10, 3) := db_X12_other_115.2.2.2.2.2.2.2.2.2.2.1
theorem dX12_other_137 : decode cX12_other 137 = .ok (.aload_n 0, 1) := db_X12_other_115.2.2.2.2.2.2.2.2.2.2.2.1
theorem dX12_other_138 : decode cX12_other 138 = .ok (.getfield 173, 3) := db_X12_other_115.2.2.2.2.2.2.2.2.2.2.2.2.1
theorem dX12_other_141 : decode cX12_other 141 = .ok (.iload 6, 2) := db_X12_other_115.2.2.2.2.2.2.2.2.2.2.2.2.2.1
theorem dX12_other_143 : decode cX12_other 143 = .ok (.iaload, 1) := db_X12_other_115.2.2.2.2.2.2.2.2.2.2.2.2.2.2.1
theorem dX12_other_144 : decode cX12_other 144 = .ok (.ireturn, 1) := db_X12_other_115.2.2.2.2.2.2.2.2.2.2.2.2.2.2.2
theorem db_X12_view_0 : decode cX12_view 0 = .ok (.aload_n 0, 1) ∧ decode cX12_view 1 = .ok (.iload_n 1, 1) ∧ decode cX12_view 2 = .ok (.invokevirtual 789, 3) ∧ decode cX12_view 5 = .ok (.ifCond .eq 45, 3) ∧ decode cX12_view 8 = .ok (.iload_n 2, 1) ∧ decode cX12_view 9 = .ok (.ifCond .lt 41, 3) ∧ decode cX12_view 12 = .ok (.iload_n 2, 1) ∧ decode cX12_view 13 = .ok (.aload_n 0, 1) ∧ decode cX12_view 14 = .ok (.getfield 327, 3) ∧ decode cX12_view 17 = .ok (.if_icmp .ge 33, 3) ∧ decode cX12_view 20 = .ok (.iload_n 3, 1) ∧ decode cX12_view 21 = .ok (.ifCond .lt 29, 3) ∧ decode cX12_view 24 = .ok (.iload_n 3, 1) ∧ decode cX12_view 25 = .ok (.iconst 3, 1) ∧ decode cX12_view 26 = .ok (.if_icmp .gt 24, 3) ∧ decode cX12_view 29 = .ok (.iload_n 1, 1) := by decide +kernel
theorem dX12_view_0 : decode cX12_view 0 = .ok (.aload_n 0, 1) := db_X12_view_0.1
theorem dX12_view_1 : decode cX12_view 1 = .ok (.iload_n 1, 1) := db_X12_view_0.2.1
theorem dX12_view_2 : decode cX12_view 2 = .ok (.invokevirtual 789, 3) := db_X12_view_0.2.2.1
theorem dX12_view_5 : decode cX12_view 5 = .ok (.ifCond .eq 45, 3) := db_X12_view_0.2.2.2.1
theorem dX12_view_8 : decode cX12_view 8 = .ok (.iload_n 2, 1) := db_X12_view_0.2.2.2.2.1
theorem dX12_view_9 : decode cX12_view 9 = .ok (.ifCond .lt 41, 3) := db_X12_view_0.2.2.2.2.2.1
theorem dX12_view_12 : decode cX12_view 12 = .ok (.iload_n 2, 1) := db_X12_view_0.2.2.2.2.2.2.1
theorem dX12_view_13 : decode cX12_view 13 = .ok (.aload_n 0, 1) := db_X12_view_0.2.2.2.2.2.2.2.1
theorem dX12_view_14 : decode cX12_view 14 = .ok (.getfield 327, 3) := db_X12_view_0.2.2.2.2.2.2.2.2.1
theorem dX12_view_17 : decode cX12_view 17 = .ok (.if_icmp .ge 33, 3) := db_X12_view_0.2.2.2.2.2.2.2.2.2.1
theorem dX12_view_20 : decode cX12_view 20 = .ok (.iload_n 3, 1) := db_X12_view_0.2.2.2.2.2.2.2.2.2.2.1
theorem dX12_view_21 : decode cX12_view 21 = .ok (.ifCond .lt 29, 3) := db_X12_view_0.2.2.2.2.2.2.2.2.2.2.2.1
theorem dX12_view_24 : decode cX12_view 24 = .ok (.iload_n 3, 1) := db_X12_view_0.2.2.2.2.2.2.2.2.2.2.2.2.1
theorem dX12_view_25 : decode cX12_view 25 = .ok (.iconst 3, 1) := db_X12_view_0.2.2.2.2.2.2.2.2.2.2.2.2.2.1
theorem dX12_view_26 : decode cX12_view 26 = .ok (.if_icmp .gt 24, 3) := db_X12_view_0.2.2.2.2.2.2.2.2.2.2.2.2.2.2.1
theorem dX12_view_29 : decode cX12_view 29 = .ok (.iload_n 1, 1) := db_X12_view_0.2.2.2.2.2.2.2.2.2.2.2.2.2.2.2
theorem db_X12_view_30 : decode cX12_view 30 = .ok (.aload_n 0, 1) ∧ decode cX12_view 31 = .ok (.getfield 321, 3) ∧ decode cX12_view 34 = .ok (.if_icmp .eq 12, 3) ∧ decode cX12_view 37 = .ok (.aload_n 0, 1) ∧ decode cX12_view 38 = .ok (.iload_n 1, 1) ∧ decode cX12_view 39 = .ok (.iload_n 2, 1) ∧ decode cX12_view 40 = .ok (.invokevirtual 352, 3) ∧ decode cX12_view 43 = .ok (.ifCond .eq 7, 3) ∧ decode cX12_view 46 = .ok (.iconst 1, 1) ∧ decode cX12_view 47 = .ok (.goto 4, 3) ∧ decode cX12_view 50 = .ok (.iconst 0, 1) ∧ decode cX12_view 51 = .ok (.istore 4, 2) ∧ decode cX12_view 53 = .ok (.aload_n 0, 1) ∧ decode cX12_view 54 = .ok (.iload 4, 2) ∧ decode cX12_view 56 = .ok (.ifCond .eq 7, 3) ∧ decode cX12_view 59 = .ok (.iconst 0, 1) := by decide +kernel
theorem dX12_view_30 : decode cX12_view 30 = .ok (.aload_n 0, 1) := db_X12_view_30.1
theorem dX12_view_31 : decode cX12_view 31 = .ok (.getfield 321, 3) := db_X12_view_30.2.1
theorem dX12_view_34 : decode cX12_view 34 = .ok (.if_icmp .eq 12, 3) := db_X12_view_30.2.2.1
theorem dX12_view_37 : decode cX12_view 37 = .ok (.aload_n 0, 1) := db_X12_view_30.2.2.2.1
theorem dX12_view_38 : decode cX12_view 38 = .ok (.iload_n 1, 1) := db_X12_view_30.2.2.2.2.1
theorem dX12_view_39 : decode cX12_view 39 = .ok (.iload_n 2, 1) := db_X12_view_30.2.2.2.2.2.1
theorem dX12_view_40 : decode cX12_view 40 = .ok (.invokevirtual 352, 3) := db_X12_view_30.2.2.2.2.2.2.1
theorem dX12_view_43 : decode cX12_view 43 = .ok (.ifCond .eq 7, 3) := db_X12_view_30.2.2.2.2.2.2.2.1
theorem dX12_view_46 : decode cX12_view 46 = .ok (.iconst 1, 1) := db_X12_view_30.2.2.2.2.2.2.2.2.1
theorem dX12_view_47 : decode cX12_view 47 = .ok (.goto 4, 3) := db_X12_view_30.2.2.2.2.2.2.2.2.2.1
theorem dX12_view_50 : decode cX12_view 50 = .ok (.iconst 0, 1) := db_X12_view_30.2.2.2.2.2.2.2.2.2.2.1
theorem dX12_view_51 : decode cX12_view 51 = .ok (.istore 4, 2) := db_X12_view_30.2.2.2.2.2.2.2.2.2.2.2.1
theorem dX12_view_53 : decode cX12_view 53 = .ok (.aload_n 0, 1) := db_X12_view_30.2.2.2.2.2.2.2.2.2.2.2.2.1
theorem dX12_view_54 : decode cX12_view 54 = .ok (.iload 4, 2) := db_X12_view_30.2.2.2.2.2.2.2.2.2.2.2.2.2.1
theorem dX12_view_56 : decode cX12_view 56 = .ok (.ifCond .eq 7, 3) := db_X12_view_30.2.2.2.2.2.2.2.2.2.2.2.2.2.2.1
theorem dX12_view_59 : decode cX12_view 59 = .ok (.iconst 0, 1) := db_X12_view_30.2.2.2.2.2.2.2.2.2.2.2.2.2.2.2
theorem db_X12_view_60 : decode cX12_view 60 = .ok (.goto 4, 3) ∧ decode cX12_view 63 = .ok (.iconst 1, 1) ∧ decode cX12_view 64 = .ok (.putfield 317, 3) ∧ decode cX12_view 67 = .ok (.iload 4, 2) ∧ decode cX12_view 69 = .ok (.ifCond .ne 5, 3) ∧ decode cX12_view 72 = .ok (.iconst 0, 1) ∧ decode cX12_view 73 = .ok (.ireturn, 1) ∧ decode cX12_view 74 = .ok (.aload_n 0, 1) ∧ decode cX12_view 75 = .ok (.getfield 77, 3) ∧ decode cX12_view 78 = .ok (.iload_n 1, 1) ∧ decode cX12_view 79 = .ok (.baload, 1) ∧ decode cX12_view 80 = .ok (.ifCond .ne 5, 3) ∧ decode cX12_view 85 = .ok (.iload_n 1, 1) ∧ decode cX12_view 86 = .ok (.aload_n 0, 1) ∧ decode cX12_view 87 = .ok (.getfield 321, 3) ∧ decode cX12_view 90 = .ok (.if_icmp .ne 10, 3) := by decide +kernel
theorem dX12_view_60 : decode cX12_view 60 = .ok (.goto 4, 3) := db_X12_view_60.1
theorem dX12_view_63 : decode cX12_view 63 = .ok (.iconst 1, 1) := db_X12_view_60.2.1
theorem dX12_view_64 : decode cX12_view 64 = .ok (.putfield 317, 3) := db_X12_view_60.2.2.1
theorem dX12_view_67 : decode cX12_view 67 = .ok (.iload 4, 2) := db_X12_view_60.2.2.2.1
theorem dX12_view_69 : decode cX12_view 69 = .ok (.ifCond .ne 5, 3) := db_X12_view_60.2.2.2.2.1
theorem dX12_view_72 : decode cX12_view 72 = .ok (.iconst 0, 1) := db_X12_view_60.2.2.2.2.2.1
theorem dX12_view_73 : decode cX12_view 73 = .ok (.ireturn, 1) := db_X12_view_60.2.2.2.2.2.2.1
theorem dX12_view_74 : decode cX12_view 74 = .ok (.aload_n 0, 1) := db_X12_view_60.2.2.2.2.2.2.2.1
theorem dX12_view_75 : decode cX12_view 75 = .ok (.getfield 77, 3) := db_X12_view_60.2.2.2.2.2.2.2.2.1
theorem dX12_view_78 : decode cX12_view 78 = .ok (.iload_n 1, 1) := db_X12_view_60.2.2.2.2.2.2.2.2.2.1
theorem dX12_view_79 : decode cX12_view 79 = .ok (.baload, 1) := db_X12_view_60.2.2.2.2.2.2.2.2.2.2.1
theorem dX12_view_80 : decode cX12_view 80 = .ok (.ifCond .ne 5, 3) := db_X12_view_60.2.2.2.2.2.2.2.2.2.2.2.1
theorem dX12_view_85 : decode cX12_view 85 = .ok (.iload_n 1, 1) := db_X12_view_60.2.2.2.2.2.2.2.2.2.2.2.2.1
theorem dX12_view_86 : decode cX12_view 86 = .ok (.aload_n 0, 1) := db_X12_view_60.2.2.2.2.2.2.2.2.2.2.2.2.2.1
theorem dX12_view_87 : decode cX12_view 87 = .ok (.getfield 321, 3) := db_X12_view_60.2.2.2.2.2.2.2.2.2.2.2.2.2.2.1
theorem dX12_view_90 : decode cX12_view 90 = .ok (.if_icmp .ne 10, 3) := db_X12_view_60.2.2.2.2.2.2.2.2.2.2.2.2.2.2.2
theorem db_X12_view_93 : decode cX12_view 93 = .ok (.bipush 20, 2) ∧ decode cX12_view 95 = .ok (.iload_n 2, 1) ∧ decode cX12_view 96 = .ok (.iadd, 1) ∧ decode cX12_view 97 = .ok (.goto 9, 3) ∧ decode cX12_view 100 = .ok (.aload_n 0, 1) ∧ decode cX12_view 101 = .ok (.iload_n 1, 1) ∧ decode cX12_view 102 = .ok (.iload_n 2, 1) ∧ decode cX12_view 103 = .ok (.invokevirtual 364, 3) ∧ decode cX12_view 106 = .ok (.istore 5, 2) ∧ decode cX12_view 108 = .ok (.iload_n 3, 1) ∧ decode cX12_view 109 = .ok (.ifCond .ne 13, 3) ∧ decode cX12_view 112 = .ok (.aload_n 0, 1) ∧ decode cX12_view 113 = .ok (.getfield 176, 3) ∧ decode cX12_view 116 = .ok (.iload 5, 2) ∧ decode cX12_view 118 = .ok (.iaload, 1) ∧ decode cX12_view 119 = .ok (.goto 40, 3) := by decide +kernel
theorem dX12_view_93 : decode cX12_view 93 = .ok (.bipush 20, 2) := db_X12_view_93.1
theorem dX12_view_95 : decode cX12_view 95 = .ok (.iload_n 2, 1) := db_X12_view_93.2.1
theorem dX12_view_96 : decode cX12_view 96 = .ok (.iadd, 1) := db_X12_view_93.2.2.1
theorem dX12_view_97 : decode cX12_view 97 = .ok (.goto 9, 3) := db_X12_view_93.2.2.2.1
theorem dX12_view_100 : decode cX12_view 100 = .ok (.aload_n 0, 1) := db_X12_view_93.2.2.2.2.1
theorem dX12_view_101 : decode cX12_view 101 = .ok (.iload_n 1, 1) := db_X12_view_93.2.2.2.2.2.1
theorem dX12_view_102 : decode cX12_view 102 = .ok (.iload_n 2, 1) := db_X12_view_93.2.2.2.2.2.2.1
theorem dX12_view_103 : decode cX12_view 103 = .ok (.invokevirtual 364, 3) := db_X12_view_93.2.2.2.2.2.2.2.1
theorem dX12_view_106 : decode cX12_view 106 = .ok (.istore 5, 2) := db_X12_view_93.2.2.2.2.2.2.2.2.1
theorem dX12_view_108 : decode cX12_view 108 = .ok (.iload_n 3, 1) := db_X12_view_93.2.2.2.2.2.2.2.2.2.1
theorem dX12_view_109 : decode cX12_view 109 = .ok (.ifCond .ne 13, 3) := db_X12_view_93.2.2.2.2.2.2.2.2.2.2.1
theorem dX12_view_112 : decode cX12_view 112 = .ok (.aload_n 0, 1) := db_X12_view_93.2.2.2.2.2.2.2.2.2.2.2.1
theorem dX12_view_113 : decode cX12_view 113 = .ok (.getfield 176, 3) := db_X12_view_93.2.2.2.2.2.2.2.2.2.2.2.2.1
theorem dX12_view_116 : decode cX12_view 116 = .ok (.iload 5, 2) := db_X12_view_93.2.2.2.2.2.2.2.2.2.2.2.2.2.1
theorem dX12_view_118 : decode cX12_view 118 = .ok (.iaload, 1) := db_X12_view_93.2.2.2.2.2.2.2.2.2.2.2.2.2.2.1
theorem dX12_view_119 : decode cX12_view 119 = .ok (.goto 40, 3) := db_X12_view_93.2.2.2.2.2.2.2.2.2.2.2.2.2.2.2
theorem db_X12_view_122 : decode cX12_view 122 = .ok (.iload_n 3, 1) ∧ decode cX12_view 123 = .ok (.iconst 1, 1) ∧ decode cX12_view 124 = .ok (.if_icmp .ne 13, 3) ∧ decode cX12_view 127 = .ok (.aload_n 0, 1) ∧ decode cX12_view 128 = .ok (.getfield 179, 3) ∧ decode cX12_view 131 = .ok (.iload 5, 2) ∧ decode cX12_view 133 = .ok (.iaload, 1) ∧ decode cX12_view 134 = .ok (.goto 25, 3) ∧ decode cX12_view 137 = .ok (.iload_n 3, 1) ∧ decode cX12_view 138 = .ok (.iconst 2, 1) ∧ decode cX12_view 139 = .ok (.if_icmp .ne 13, 3) ∧ decode cX12_view 142 = .ok (.aload_n 0, 1) ∧ decode cX12_view 143 = .ok (.getfield 182, 3) ∧ decode cX12_view 146 = .ok (.iload 5, 2) ∧ decode cX12_view 148 = .ok (.iaload, 1) ∧ decode cX12_view 149 = .ok (.goto 10, 3) := by decide +kernel
theorem dX12_view_122 : decode cX12_view 122 = .ok (.iload_n 3, 1) := db_X12_view_122.1
theorem dX12_view_123 : decode cX12_view 123 = .ok (.iconst 1, 1) := db_X12_view_122.2.1
theorem dX12_view_124 : decode cX12_view 124 = .ok (.if_icmp .ne 13, 3) := db_X12_view_122.2.2.1
theorem dX12_view_127 : decode cX12_view 127 = .ok (.aload_n 0, 1) := db_X12_view_122.2.2.2.1
theorem dX12_view_128 : decode cX12_view 128 = .ok (.getfield 179, 3) := db_X12_view_122.2.2.2.2.1
theorem dX12_view_131 : decode cX12_view 131 = .ok (.iload 5, 2) := db_X12_view_122.2.2.2.2.2.1
theorem dX12_view_133 : decode cX12_view 133 = .ok (.iaload, 1) := db_X12_view_122.2.2.2.2.2.2.1
theorem dX12_view_134 : decode cX12_view 134 = .ok (.goto 25, 3) := db_X12_view_122.2.2.2.2.2.2.2.1
theorem dX12_view_137 : decode cX12_view 137 = .ok (.iload_n 3, 1) := db_X12_view_122.2.2.2.2.2.2.2.2.1
theorem dX12_view_138 : decode cX12_view 138 = .ok (.iconst 2, 1) := db_X12_view_122.2.2.2.2.2.2.2.2.2.1
theorem dX12_view_139 : decode cX12_view 139 = .ok (.if_icmp .ne 13, 3) := db_X12_view_122.2.2.2.2.2.2.2.2.2.2.1
theorem dX12_view_142 : decode cX12_view 142 = .ok (.aload_n 0, 1) := db_X12_view_122.2.2.2.2.2.2.2.2.2.2.2.1
theorem dX12_view_143 : decode cX12_view 143 = .ok (.getfield 182, 3) := db_X12_view_122.2.2.2.2.2.2.2.2.2.2.2.2.1
theorem dX12_view_146 : decode cX12_view 146 = .ok (.iload 5, 2) := db_X12_view_122.2.2.2.2.2.2.2.2.2.2.2.2.2.1
theorem dX12_view_148 : decode cX12_view 148 = .ok (.iaload, 1) := db_X12_view_122.2.2.2.2.2.2.2.2.2.2.2.2.2.2.1
theorem dX12_view_149 : decode cX12_view 149 = .ok (.goto 10, 3) := db_X12_view_122.2.2.2.2.2.2.2.2.2.2.2.2.2.2.2
theorem db_X12_view_152 : decode cX12_view 152 = .ok (.aload_n 0, 1) ∧ decode cX12_view 153 = .ok (.getfield 185, 3) ∧ decode cX12_view 156 = .ok (.iload 5, 2) ∧ decode cX12_view 158 = .ok (.iaload, 1) ∧ decode cX12_view 159 = .ok (.ireturn, 1) := by decide +kernel
theorem dX12_view_152 : decode cX12_view 152 = .ok (.aload_n 0, 1) := db_X12_view_152.1
theorem dX12_view_153 : decode cX12_view 153 = .ok (.getfield 185, 3) := db_X12_view_152.2.1
theorem dX12_view_156 : decode cX12_view 156 = .ok (.iload 5, 2) := db_X12_view_152.2.2.1
theorem dX12_view_158 : decode cX12_view 158 = .ok (.iaload, 1) := db_X12_view_152.2.2.2.1
theorem dX12_view_159 : decode cX12_view 159 = .ok (.ireturn, 1) := db_X12_view_152.2.2.2.2
theorem db_X12_document_0 : decode cX12_document 0 = .ok (.aload_n 0, 1) ∧ decode cX12_document 1 = .ok (.iload_n 1, 1) ∧ decode cX12_document 2 = .ok (.invokevirtual 777, 3) ∧ decode cX12_document 5 = .ok (.ifCond .eq 40, 3) ∧ decode cX12_document 8 = .ok (.iload_n 2, 1) ∧ decode cX12_document 9 = .ok (.ifCond .lt 36, 3) ∧ decode cX12_document 12 = .ok (.iload_n 2, 1) ∧ decode cX12_document 13 = .ok (.bipush 99, 2) ∧ decode cX12_document 15 = .ok (.if_icmp .gt 30, 3) ∧ decode cX12_document 18 = .ok (.iload_n 3, 1) ∧ decode cX12_document 19 = .ok (.ifCond .lt 26, 3) ∧ decode cX12_document 22 = .ok (.iload_n 3, 1) ∧ decode cX12_document 23 = .ok (.iconst 2, 1) ∧ decode cX12_document 24 = .ok (.if_icmp .gt 21, 3) ∧ decode cX12_document 27 = .ok (.aload_n 0, 1) ∧ decode cX12_document 28 = .ok (.iload_n 1, 1) := by decide +kernel
theorem dX12_document_0 : decode cX12_document 0 = .ok (.aload_n 0, 1) := db_X12_document_0.1
theorem dX12_document_1 : decode cX12_document 1 = .ok (.iload_n 1, 1) := db_X12_document_0.2.1
theorem dX12_document_2 : decode cX12_document 2 = .ok (.invokevirtual 777, 3) := db_X12_document_0.2.2.1
theorem dX12_document_5 : decode cX12_document 5 = .ok (.ifCond .eq 40, 3) := db_X12_document_0.2.2.2.1
theorem dX12_document_8 : decode cX12_document 8 = .ok (.iload_n 2, 1) := db_X12_document_0.2.2.2.2.1
theorem dX12_document_9 : decode cX12_document 9 = .ok (.ifCond .lt 36, 3) := db_X12_document_0.2.2.2.2.2.1
theorem dX12_document_12 : decode cX12_document 12 = .ok (.iload_n 2, 1) := db_X12_document_0.2.2.2.2.2.2.1
theorem dX12_document_13 : decode cX12_document 13 = .ok (.bipush 99, 2) := db_X12_document_0.2.2.2.2.2.2.2.1
theorem dX12_document_15 : decode cX12_document 15 = .ok (.if_icmp .gt 30, 3) := db_X12_document_0.2.2.2.2.2.2.2.2.1
theorem dX12_document_18 : decode cX12_document 18 = .ok (.iload_n 3, 1) := db_X12_document_0.2.2.2.2.2.2.2.2.2.1
theorem dX12_document_19 : decode cX12_document 19 = .ok (.ifCond .lt 26, 3) := db_X12_document_0.2.2.2.2.2.2.2.2.2.2.1
theorem dX12_document_22 : decode cX12_document 22 = .ok (.iload_n 3, 1) := db_X12_document_0.2.2.2.2.2.2.2.2.2.2.2.1
theorem dX12_document_23 : decode cX12_document 23 = .ok (.iconst 2, 1) := db_X12_document_0.2.2.2.2.2.2.2.2.2.2.2.2.1
theorem dX12_document_24 : decode cX12_document 24 = .ok (.if_icmp .gt 21, 3) := db_X12_document_0.2.2.2.2.2.2.2.2.2.2.2.2.2.1
theorem dX12_document_27 : decode cX12_document 27 = .ok (.aload_n 0, 1) := db_X12_document_0.2.2.2.2.2.2.2.2.2.2.2.2.2.2.1
theorem dX12_document_28 : decode cX12_document 28 = .ok (.iload_n 1, 1) := db_X12_document_0.2.2.2.2.2.2.2.2.2.2.2.2.2.2.2
theorem db_X12_document_29 : decode cX12_document 29 = .ok (.iload_n 2, 1) ∧ decode cX12_document 30 = .ok (.aload_n 0, 1) ∧ decode cX12_document 31 = .ok (.getfield 327, 3) ∧ decode cX12_document 34 = .ok (.irem, 1) ∧ decode cX12_document 35 = .ok (.invokevirtual 352, 3) ∧ decode cX12_document 38 = .ok (.ifCond .eq 7, 3) ∧ decode cX12_document 41 = .ok (.iconst 1, 1) ∧ decode cX12_document 42 = .ok (.goto 4, 3) ∧ decode cX12_document 45 = .ok (.iconst 0, 1) ∧ decode cX12_document 46 = .ok (.istore 4, 2) ∧ decode cX12_document 48 = .ok (.aload_n 0, 1) ∧ decode cX12_document 49 = .ok (.iload 4, 2) ∧ decode cX12_document 51 = .ok (.ifCond .eq 7, 3) ∧ decode cX12_document 54 = .ok (.iconst 0, 1) ∧ decode cX12_document 55 = .ok (.goto 4, 3) ∧ decode cX12_document 58 = .ok (.iconst 1, 1) := by decide +kernel
theorem dX12_document_29 : decode cX12_document 29 = .ok (.iload_n 2, 1) := db_X12_document_29.1
theorem dX12_document_30 : decode cX12_document 30 = .ok (.aload_n 0, 1) := db_X12_document_29.2.1
theorem dX12_document_31 : decode cX12_document 31 = .ok (.getfield 327, 3) := db_X12_document_29.2.2.1
theorem dX12_document_34 : decode cX12_document 34 = .ok (.irem, 1) := db_X12_document_29.2.2.2.1
theorem dX12_document_35 : decode cX12_document 35 = .ok (.invokevirtual 352, 3) := db_X12_document_29.2.2.2.2.1
theorem dX12_document_38 : decode cX12_document 38 = .ok (.ifCond .eq 7, 3) := db_X12_document_29.2.2.2.2.2.1
theorem dX12_document_41 : decode cX12_document 41 = .ok (.iconst 1, 1) := db_X12_document_29.2.2.2.2.2.2.1
theorem dX12_document_42 : decode cX12_document 42 = .ok (.goto 4, 3) := db_X12_document_29.2.2.2.2.2.2.2.1
theorem dX12_document_45 : decode cX12_document 45 = .ok (.iconst 0, 1) := db_X12_document_29.2.2.2.2.2.2.2.2.1
theorem dX12_document_46 : decode cX12_document 46 = .ok (.istore 4, 2) := db_X12_document_29.2.2.2.2.2.2.2.2.2.1
theorem dX12_document_48 : decode cX12_document 48 = .ok (.aload_n 0, 1) := db_X12_document_29.2.2.2.2.2.2.2.2.2.2.1
theorem dX12_document_49 : decode cX12_document 49 = .ok (.iload 4, 2) := db_X12_document_29.2.2.2.2.2.2.2.2.2.2.2.1
theorem dX12_document_51 : decode cX12_document 51 = .ok (.ifCond .eq 7, 3) := db_X12_document_29.2.2.2.2.2.2.2.2.2.2.2.2.1
theorem dX12_document_54 : decode cX12_document 54 = .ok (.iconst 0, 1) := db_X12_document_29.2.2.2.2.2.2.2.2.2.2.2.2.2.1
theorem dX12_document_55 : decode cX12_document 55 = .ok (.goto 4, 3) := db_X12_document_29.2.2.2.2.2.2.2.2.2.2.2.2.2.2.1
theorem dX12_document_58 : decode cX12_document 58 = .ok (.iconst 1, 1) := db_X12_document_29.2.2.2.2.2.2.2.2.2.2.2.2.2.2.2
theorem db_X12_document_59 : decode cX12_document 59 = .ok (.putfield 317, 3) ∧ decode cX12_document 62 = .ok (.iload 4, 2) ∧ decode cX12_document 64 = .ok (.ifCond .ne 5, 3) ∧ decode cX12_document 67 = .ok (.iconst 0, 1) ∧ decode cX12_document 68 = .ok (.ireturn, 1) ∧ decode cX12_document 69 = .ok (.aload_n 0, 1) ∧ decode cX12_document 70 = .ok (.getfield 77, 3) ∧ decode cX12_document 73 = .ok (.iload_n 1, 1) ∧ decode cX12_document 74 = .ok (.baload, 1) ∧ decode cX12_document 75 = .ok (.ifCond .ne 5, 3) ∧ decode cX12_document 80 = .ok (.aload_n 0, 1) ∧ decode cX12_document 81 = .ok (.iload_n 1, 1) ∧ decode cX12_document 82 = .ok (.iload_n 2, 1) ∧ decode cX12_document 83 = .ok (.aload_n 0, 1) ∧ decode cX12_document 84 = .ok (.getfield 327, 3) ∧ decode cX12_document 87 = .ok (.irem, 1) := by decide +kernel
theorem dX12_document_59 : decode cX12_document 59 = .ok (.putfield 317, 3) := db_X12_document_59.1
theorem dX12_document_62 : decode cX12_document 62 = .ok (.iload 4, 2) := db_X12_document_59.2.1
theorem dX12_document_64 : decode cX12_document 64 = .ok (.ifCond .ne 5, 3) := db_X12_document_59.2.2.1
theorem dX12_document_67 : decode cX12_document 67 = .ok (.iconst 0, 1) := db_X12_document_59.2.2.2.1
theorem dX12_document_68 : decode cX12_document 68 = .ok (.ireturn, 1) := db_X12_document_59.2.2.2.2.1
theorem dX12_document_69 : decode cX12_document 69 = .ok (.aload_n 0, 1) := db_X12_document_59.2.2.2.2.2.1
theorem dX12_document_70 : decode cX12_document 70 = .ok (.getfield 77, 3) := db_X12_document_59.2.2.2.2.2.2.1
theorem dX12_document_73 : decode cX12_document 73 = .ok (.iload_n 1, 1) := db_X12_document_59.2.2.2.2.2.2.2.1
theorem dX12_document_74 : decode cX12_document 74 = .ok (.baload, 1) := db_X12_document_59.2.2.2.2.2.2.2.2.1
theorem dX12_document_75 : decode cX12_document 75 = .ok (.ifCond .ne 5, 3) := db_X12_document_59.2.2.2.2.2.2.2.2.2.1
theorem dX12_document_80 : decode cX12_document 80 = .ok (.aload_n 0, 1) := db_X12_document_59.2.2.2.2.2.2.2.2.2.2.1
theorem dX12_document_81 : decode cX12_document 81 = .ok (.iload_n 1, 1) := db_X12_document_59.2.2.2.2.2.2.2.2.2.2.2.1
theorem dX12_document_82 : decode cX12_document 82 = .ok (.iload_n 2, 1) := db_X12_document_59.2.2.2.2.2.2.2.2.2.2.2.2.1
theorem dX12_document_83 : decode cX12_document 83 = .ok (.aload_n 0, 1) := db_X12_document_59.2.2.2.2.2.2.2.2.2.2.2.2.2.1
theorem dX12_document_84 : decode cX12_document 84 = .ok (.getfield 327, 3) := db_X12_document_59.2.2.2.2.2.2.2.2.2.2.2.2.2.2.1
theorem dX12_document_87 : decode cX12_document 87 = .ok (.irem, 1) := db_X12_document_59.2.2.2.2.2.2.2.2.2.2.2.2.2.2.2
theorem db_X12_document_88 : decode cX12_document 88 = .ok (.invokevirtual 364, 3) ∧ decode cX12_document 91 = .ok (.istore 5, 2) ∧ decode cX12_document 93 = .ok (.iload_n 3, 1) ∧ decode cX12_document 94 = .ok (.iconst 2, 1) ∧ decode cX12_document 95 = .ok (.if_icmp .ne 13, 3) ∧ decode cX12_document 98 = .ok (.aload_n 0, 1) ∧ decode cX12_document 99 = .ok (.iload 5, 2) ∧ decode cX12_document 101 = .ok (.iload_n 2, 1) ∧ decode cX12_document 102 = .ok (.invokevirtual 484, 3) ∧ decode cX12_document 105 = .ok (.goto 35, 3) ∧ decode cX12_document 108 = .ok (.aload_n 0, 1) ∧ decode cX12_document 109 = .ok (.aload_n 0, 1) ∧ decode cX12_document 110 = .ok (.iload 5, 2) ∧ decode cX12_document 112 = .ok (.iload_n 3, 1) ∧ decode cX12_document 113 = .ok (.ifCond .ne 13, 3) ∧ decode cX12_document 116 = .ok (.aload_n 0, 1) := by decide +kernel
theorem dX12_document_88 : decode cX12_document 88 = .ok (.invokevirtual 364, 3) := db_X12_document_88.1
theorem dX12_document_91 : decode cX12_document 91 = .ok (.istore 5, 2) := db_X12_document_88.2.1
theorem dX12_document_93 : decode cX12_document 93 = .ok (.iload_n 3, 1) := db_X12_document_88.2.2.1
theorem dX12_document_94 : decode cX12_document 94 = .ok (.iconst 2, 1) := db_X12_document_88.2.2.2.1
theorem dX12_document_95 : decode cX12_document 95 = .ok (.if_icmp .ne 13, 3) := db_X12_document_88.2.2.2.2.1
theorem dX12_document_98 : decode cX12_document 98 = .ok (.aload_n 0, 1) := db_X12_document_88.2.2.2.2.2.1
theorem dX12_document_99 : decode cX12_document 99 = .ok (.iload 5, 2) := db_X12_document_88.2.2.2.2.2.2.1
theorem dX12_document_101 : decode cX12_document 101 = .ok (.iload_n 2, 1) := db_X12_document_88.2.2.2.2.2.2.2.1
theorem dX12_document_102 : decode cX12_document 102 = .ok (.invokevirtual 484, 3) := db_X12_document_88.2.2.2.2.2.2.2.2.1
theorem dX12_document_105 : decode cX12_document 105 = .ok (.goto 35, 3) := db_X12_document_88.2.2.2.2.2.2.2.2.2.1
theorem dX12_document_108 : decode cX12_document 108 = .ok (.aload_n 0, 1) := db_X12_document_88.2.2.2.2.2.2.2.2.2.2.1
theorem dX12_document_109 : decode cX12_document 109 = .ok (.aload_n 0, 1) := db_X12_document_88.2.2.2.2.2.2.2.2.2.2.2.1
theorem dX12_document_110 : decode cX12_document 110 = .ok (.iload 5, 2) := db_X12_document_88.2.2.2.2.2.2.2.2.2.2.2.2.1
theorem dX12_document_112 : decode cX12_document 112 = .ok (.iload_n 3, 1) := db_X12_document_88.2.2.2.2.2.2.2.2.2.2.2.2.2.1
theorem dX12_document_113 : decode cX12_document 113 = .ok (.ifCond .ne 13, 3) := db_X12_document_88.2.2.2.2.2.2.2.2.2.2.2.2.2.2.1
theorem dX12_document_116 : decode cX12_document 116 = .ok (.aload_n 0, 1) := db_X12_document_88.2.2.2.2.2.2.2.2.2.2.2.2.2.2.2
theorem db_X12_document_117 : decode cX12_document 117 = .ok (.getfield 131, 3) ∧ decode cX12_document 120 = .ok (.iload 5, 2) ∧ decode cX12_document 122 = .ok (.iaload, 1) ∧ decode cX12_document 123 = .ok (.goto 10, 3) ∧ decode cX12_document 126 = .ok (.aload_n 0, 1) ∧ decode cX12_document 127 = .ok (.getfield 134, 3) ∧ decode cX12_document 130 = .ok (.iload 5, 2) ∧ decode cX12_document 132 = .ok (.iaload, 1) ∧ decode cX12_document 133 = .ok (.invokevirtual 389, 3) ∧ decode cX12_document 136 = .ok (.iload_n 2, 1) ∧ decode cX12_document 137 = .ok (.invokevirtual 392, 3) ∧ decode cX12_document 140 = .ok (.ireturn, 1) := by decide +kernel
theorem dX12_document_117 : decode cX12_document 117 = .ok (.getfield 131, 3) := db_X12_document_117.1
theorem dX12_document_120 : decode cX12_document 120 = .ok (.iload 5, 2) := db_X12_document_117.2.1
theorem dX12_document_122 : decode cX12_document 122 = .ok (.iaload, 1) := db_X12_document_117.2.2.1
theorem dX12_document_123 : decode cX12_document 123 = .ok (.goto 10, 3) := db_X12_document_117.2.2.2.1
theorem dX12_document_126 : decode cX12_document 126 = .ok (.aload_n 0, 1) := db_X12_document_117.2.2.2.2.1
theorem dX12_document_127 : decode cX12_document 127 = .ok (.getfield 134, 3) := db_X12_document_117.2.2.2.2.2.1
theorem dX12_document_130 : decode cX12_document 130 = .ok (.iload 5, 2) := db_X12_document_117.2.2.2.2.2.2.1
theorem dX12_document_132 : decode cX12_document 132 = .ok (.iaload, 1) := db_X12_document_117.2.2.2.2.2.2.2.1
theorem dX12_document_133 : decode cX12_document 133 = .ok (.invokevirtual 389, 3) := db_X12_document_117.2.2.2.2.2.2.2.2.1
theorem dX12_document_136 : decode cX12_document 136 = .ok (.iload_n 2, 1) := db_X12_document_117.2.2.2.2.2.2.2.2.2.1
theorem dX12_document_137 : decode cX12_document 137 = .ok (.invokevirtual 392, 3) := db_X12_document_117.2.2.2.2.2.2.2.2.2.2.1
theorem dX12_document_140 : decode cX12_document 140 = .ok (.ireturn, 1) := db_X12_document_117.2.2.2.2.2.2.2.2.2.2.2
theorem db_X12_act_0 : decode cX12_act 0 = .ok (.aload_n 0, 1) ∧ decode cX12_act 1 = .ok (.aload_n 0, 1) ∧ decode cX12_act 2 = .ok (.iload_n 1, 1) ∧ decode cX12_act 3 = .ok (.iload_n 2, 1) ∧ decode cX12_act 4 = .ok (.invokevirtual 801, 3) ∧ decode cX12_act 7 = .ok (.ifCond .eq 7, 3) ∧ decode cX12_act 10 = .ok (.iconst 0, 1) ∧ decode cX12_act 11 = .ok (.goto 4, 3) ∧ decode cX12_act 14 = .ok (.iconst 1, 1) ∧ decode cX12_act 15 = .ok (.putfield 317, 3) ∧ decode cX12_act 18 = .ok (.aload_n 0, 1) ∧ decode cX12_act 19 = .ok (.getfield 317, 3) ∧ decode cX12_act 22 = .ok (.ifCond .le 5, 3) ∧ decode cX12_act 25 = .ok (.iconst 0, 1) ∧ decode cX12_act 26 = .ok (.ireturn, 1) ∧ decode cX12_act 27 = .ok (.aload_n 0, 1) := by decide +kernel
theorem dX12_act_0 : decode cX12_act 0 = .ok (.aload_n 0, 1) := db_X12_act_0.1
theorem dX12_act_1 : decode cX12_act 1 = .ok (.aload_n 0, 1) := db_X12_act_0.2.1
theorem dX12_act_2 : decode cX12_act 2 = .ok (.iload_n 1, 1) := db_X12_act_0.2.2.1
theorem dX12_act_3 : decode cX12_act 3 = .ok (.iload_n 2, 1) := db_X12_act_0.2.2.2.1
theorem dX12_act_4 : decode cX12_act 4 = .ok (.invokevirtual 801, 3) := db_X12_act_0.2.2.2.2.1
theorem dX12_act_7 : decode cX12_act 7 = .ok (.ifCond .eq 7, 3) := db_X12_act_0.2.2.2.2.2.1
theorem dX12_act_10 : decode cX12_act 10 = .ok (.iconst 0, 1) := db_X12_act_0.2.2.2.2.2.2.1
theorem dX12_act_11 : decode cX12_act 11 = .ok (.goto 4, 3) := db_X12_act_0.2.2.2.2.2.2.2.1
theorem dX12_act_14 : decode cX12_act 14 = .ok (.iconst 1, 1) := db_X12_act_0.2.2.2.2.2.2.2.2.1
theorem dX12_act_15 : decode cX12_act 15 = .ok (.putfield 317, 3) := db_X12_act_0.2.2.2.2.2.2.2.2.2.1
theorem dX12_act_18 : decode cX12_act 18 = .ok (.aload_n 0, 1) := db_X12_act_0.2.2.2.2.2.2.2.2.2.2.1
theorem dX12_act_19 : decode cX12_act 19 = .ok (.getfield 317, 3) := db_X12_act_0.2.2.2.2.2.2.2.2.2.2.2.1
theorem dX12_act_22 : decode cX12_act 22 = .ok (.ifCond .le 5, 3) := db_X12_act_0.2.2.2.2.2.2.2.2.2.2.2.2.1
theorem dX12_act_25 : decode cX12_act 25 = .ok (.iconst 0, 1) := db_X12_act_0.2.2.2.2.2.2.2.2.2.2.2.2.2.1
theorem dX12_act_26 : decode cX12_act 26 = .ok (.ireturn, 1) := db_X12_act_0.2.2.2.2.2.2.2.2.2.2.2.2.2.2.1
theorem dX12_act_27 : decode cX12_act 27 = .ok (.aload_n 0, 1) := db_X12_act_0.2.2.2.2.2.2.2.2.2.2.2.2.2.2.2
theorem db_X12_act_28 : decode cX12_act 28 = .ok (.iload_n 1, 1) ∧ decode cX12_act 29 = .ok (.iload_n 2, 1) ∧ decode cX12_act 30 = .ok (.invokevirtual 364, 3) ∧ decode cX12_act 33 = .ok (.istore 4, 2) ∧ decode cX12_act 35 = .ok (.aload_n 0, 1) ∧ decode cX12_act 36 = .ok (.getfield 77, 3) ∧ decode cX12_act 39 = .ok (.iload_n 1, 1) ∧ decode cX12_act 40 = .ok (.baload, 1) ∧ decode cX12_act 41 = .ok (.ifCond .eq 25, 3) ∧ decode cX12_act 44 = .ok (.iload_n 3, 1) ∧ decode cX12_act 45 = .ok (.aload_n 0, 1) ∧ decode cX12_act 46 = .ok (.getfield 128, 3) ∧ decode cX12_act 49 = .ok (.iload 4, 2) ∧ decode cX12_act 51 = .ok (.iaload, 1) ∧ decode cX12_act 52 = .ok (.if_icmp .le 14, 3) ∧ decode cX12_act 55 = .ok (.iload_n 3, 1) := by decide +kernel
theorem dX12_act_28 : decode cX12_act 28 = .ok (.iload_n 1, 1) := db_X12_act_28.1
theorem dX12_act_29 : decode cX12_act 29 = .ok (.iload_n 2, 1) := db_X12_act_28.2.1
theorem dX12_act_30 : decode cX12_act 30 = .ok (.invokevirtual 364, 3) := db_X12_act_28.2.2.1
theorem dX12_act_33 : decode cX12_act 33 = .ok (.istore 4, 2) := db_X12_act_28.2.2.2.1
theorem dX12_act_35 : decode cX12_act 35 = .ok (.aload_n 0, 1) := db_X12_act_28.2.2.2.2.1
theorem dX12_act_36 : decode cX12_act 36 = .ok (.getfield 77, 3) := db_X12_act_28.2.2.2.2.2.1
theorem dX12_act_39 : decode cX12_act 39 = .ok (.iload_n 1, 1) := db_X12_act_28.2.2.2.2.2.2.1
theorem dX12_act_40 : decode cX12_act 40 = .ok (.baload, 1) := db_X12_act_28.2.2.2.2.2.2.2.1
theorem dX12_act_41 : decode cX12_act 41 = .ok (.ifCond .eq 25, 3) := db_X12_act_28.2.2.2.2.2.2.2.2.1
theorem dX12_act_44 : decode cX12_act 44 = .ok (.iload_n 3, 1) := db_X12_act_28.2.2.2.2.2.2.2.2.2.1
theorem dX12_act_45 : decode cX12_act 45 = .ok (.aload_n 0, 1) := db_X12_act_28.2.2.2.2.2.2.2.2.2.2.1
theorem dX12_act_46 : decode cX12_act 46 = .ok (.getfield 128, 3) := db_X12_act_28.2.2.2.2.2.2.2.2.2.2.2.1
theorem dX12_act_49 : decode cX12_act 49 = .ok (.iload 4, 2) := db_X12_act_28.2.2.2.2.2.2.2.2.2.2.2.2.1
theorem dX12_act_51 : decode cX12_act 51 = .ok (.iaload, 1) := db_X12_act_28.2.2.2.2.2.2.2.2.2.2.2.2.2.1
theorem dX12_act_52 : decode cX12_act 52 = .ok (.if_icmp .le 14, 3) := db_X12_act_28.2.2.2.2.2.2.2.2.2.2.2.2.2.2.1
theorem dX12_act_55 : decode cX12_act 55 = .ok (.iload_n 3, 1) := db_X12_act_28.2.2.2.2.2.2.2.2.2.2.2.2.2.2.2
theorem db_X12_act_56 : decode cX12_act 56 = .ok (.aload_n 0, 1) ∧ decode cX12_act 57 = .ok (.getfield 131, 3) ∧ decode cX12_act 60 = .ok (.iload 4, 2) ∧ decode cX12_act 62 = .ok (.iaload, 1) ∧ decode cX12_act 63 = .ok (.if_icmp .le 7, 3) ∧ decode cX12_act 66 = .ok (.iconst (-1), 1) ∧ decode cX12_act 67 = .ok (.goto 15, 3) ∧ decode cX12_act 82 = .ok (.ireturn, 1) := by decide +kernel
theorem dX12_act_56 : decode cX12_act 56 = .ok (.aload_n 0, 1) := db_X12_act_56.1
theorem dX12_act_57 : decode cX12_act 57 = .ok (.getfield 131, 3) := db_X12_act_56.2.1
theorem dX12_act_60 : decode cX12_act 60 = .ok (.iload 4, 2) := db_X12_act_56.2.2.1
theorem dX12_act_62 : decode cX12_act 62 = .ok (.iaload, 1) := db_X12_act_56.2.2.2.1
theorem dX12_act_63 : decode cX12_act 63 = .ok (.if_icmp .le 7, 3) := db_X12_act_56.2.2.2.2.1
theorem dX12_act_66 : decode cX12_act 66 = .ok (.iconst (-1), 1) := db_X12_act_56.2.2.2.2.2.1
theorem dX12_act_67 : decode cX12_act 67 = .ok (.goto 15, 3) := db_X12_act_56.2.2.2.2.2.2.1
theorem dX12_act_82 : decode cX12_act 82 = .ok (.ireturn, 1) := db_X12_act_56.2.2.2.2.2.2.2
theorem db_X12_disk_0 : decode cX12_disk 0 = .ok (.aload_n 0, 1) ∧ decode cX12_disk 1 = .ok (.iload_n 1, 1) ∧ decode cX12_disk 2 = .ok (.invokevirtual 789, 3) ∧ decode cX12_disk 5 = .ok (.ifCond .eq 54, 3) ∧ decode cX12_disk 8 = .ok (.iload_n 3, 1) ∧ decode cX12_disk 9 = .ok (.ifCond .lt 50, 3) ∧ decode cX12_disk 12 = .ok (.iload_n 3, 1) ∧ decode cX12_disk 13 = .ok (.sipush 202, 3) ∧ decode cX12_disk 16 = .ok (.if_icmp .ge 43, 3) ∧ decode cX12_disk 19 = .ok (.iload 4, 2) ∧ decode cX12_disk 21 = .ok (.ifCond .lt 38, 3) ∧ decode cX12_disk 24 = .ok (.iload 4, 2) ∧ decode cX12_disk 26 = .ok (.bipush 64, 2) ∧ decode cX12_disk 28 = .ok (.if_icmp .ge 31, 3) ∧ decode cX12_disk 31 = .ok (.iload_n 1, 1) ∧ decode cX12_disk 32 = .ok (.aload_n 0, 1) := by decide +kernel
theorem dX12_disk_0 : decode cX12_disk 0 = .ok (.aload_n 0, 1) := db_X12_disk_0.1
theorem dX12_disk_1 : decode cX12_disk 1 = .ok (.iload_n 1, 1) := db_X12_disk_0.2.1
theorem dX12_disk_2 : decode cX12_disk 2 = .ok (.invokevirtual 789, 3) := db_X12_disk_0.2.2.1
theorem dX12_disk_5 : decode cX12_disk 5 = .ok (.ifCond .eq 54, 3) := db_X12_disk_0.2.2.2.1
theorem dX12_disk_8 : decode cX12_disk 8 = .ok (.iload_n 3, 1) := db_X12_disk_0.2.2.2.2.1
theorem dX12_disk_9 : decode cX12_disk 9 = .ok (.ifCond .lt 50, 3) := db_X12_disk_0.2.2.2.2.2.1
theorem dX12_disk_12 : decode cX12_disk 12 = .ok (.iload_n 3, 1) := db_X12_disk_0.2.2.2.2.2.2.1
theorem dX12_disk_13 : decode cX12_disk 13 = .ok (.sipush 202, 3) := db_X12_disk_0.2.2.2.2.2.2.2.1
theorem dX12_disk_16 : decode cX12_disk 16 = .ok (.if_icmp .ge 43, 3) := db_X12_disk_0.2.2.2.2.2.2.2.2.1
theorem dX12_disk_19 : decode cX12_disk 19 = .ok (.iload 4, 2) := db_X12_disk_0.2.2.2.2.2.2.2.2.2.1
theorem dX12_disk_21 : decode cX12_disk 21 = .ok (.ifCond .lt 38, 3) := db_X12_disk_0.2.2.2.2.2.2.2.2.2.2.1
theorem dX12_disk_24 : decode cX12_disk 24 = .ok (.iload 4, 2) := db_X12_disk_0.2.2.2.2.2.2.2.2.2.2.2.1
theorem dX12_disk_26 : decode cX12_disk 26 = .ok (.bipush 64, 2) := db_X12_disk_0.2.2.2.2.2.2.2.2.2.2.2.2.1
theorem dX12_disk_28 : decode cX12_disk 28 = .ok (.if_icmp .ge 31, 3) := db_X12_disk_0.2.2.2.2.2.2.2.2.2.2.2.2.2.1
theorem dX12_disk_31 : decode cX12_disk 31 = .ok (.iload_n 1, 1) := db_X12_disk_0.2.2.2.2.2.2.2.2.2.2.2.2.2.2.1
theorem dX12_disk_32 : decode cX12_disk 32 = .ok (.aload_n 0, 1) := db_X12_disk_0.2.2.2.2.2.2.2.2.2.2.2.2.2.2.2
theorem db_X12_disk_33 : decode cX12_disk 33 = .ok (.getfield 321, 3) ∧ decode cX12_disk 36 = .ok (.if_icmp .ne 10, 3) ∧ decode cX12_disk 39 = .ok (.iload_n 2, 1) ∧ decode cX12_disk 40 = .ok (.ifCond .ne 19, 3) ∧ decode cX12_disk 43 = .ok (.goto 12, 3) ∧ decode cX12_disk 46 = .ok (.aload_n 0, 1) ∧ decode cX12_disk 47 = .ok (.iload_n 1, 1) ∧ decode cX12_disk 48 = .ok (.iload_n 2, 1) ∧ decode cX12_disk 49 = .ok (.invokevirtual 801, 3) ∧ decode cX12_disk 52 = .ok (.ifCond .eq 7, 3) ∧ decode cX12_disk 55 = .ok (.iconst 1, 1) ∧ decode cX12_disk 56 = .ok (.goto 4, 3) ∧ decode cX12_disk 59 = .ok (.iconst 0, 1) ∧ decode cX12_disk 60 = .ok (.istore 5, 2) ∧ decode cX12_disk 62 = .ok (.aload_n 0, 1) ∧ decode cX12_disk 63 = .ok (.iload 5, 2) := by decide +kernel
theorem dX12_disk_33 : decode cX12_disk 33 = .ok (.getfield 321, 3) := db_X12_disk_33.1
theorem dX12_disk_36 : decode cX12_disk 36 = .ok (.if_icmp .ne 10, 3) := db_X12_disk_33.2.1
theorem dX12_disk_39 : decode cX12_disk 39 = .ok (.iload_n 2, 1) := db_X12_disk_33.2.2.1
theorem dX12_disk_40 : decode cX12_disk 40 = .ok (.ifCond .ne 19, 3) := db_X12_disk_33.2.2.2.1
theorem dX12_disk_43 : decode cX12_disk 43 = .ok (.goto 12, 3) := db_X12_disk_33.2.2.2.2.1
theorem dX12_disk_46 : decode cX12_disk 46 = .ok (.aload_n 0, 1) := db_X12_disk_33.2.2.2.2.2.1
theorem dX12_disk_47 : decode cX12_disk 47 = .ok (.iload_n 1, 1) := db_X12_disk_33.2.2.2.2.2.2.1
theorem dX12_disk_48 : decode cX12_disk 48 = .ok (.iload_n 2, 1) := db_X12_disk_33.2.2.2.2.2.2.2.1
theorem dX12_disk_49 : decode cX12_disk 49 = .ok (.invokevirtual 801, 3) := db_X12_disk_33.2.2.2.2.2.2.2.2.1
theorem dX12_disk_52 : decode cX12_disk 52 = .ok (.ifCond .eq 7, 3) := db_X12_disk_33.2.2.2.2.2.2.2.2.2.1
theorem dX12_disk_55 : decode cX12_disk 55 = .ok (.iconst 1, 1) := db_X12_disk_33.2.2.2.2.2.2.2.2.2.2.1
theorem dX12_disk_56 : decode cX12_disk 56 = .ok (.goto 4, 3) := db_X12_disk_33.2.2.2.2.2.2.2.2.2.2.2.1
theorem dX12_disk_59 : decode cX12_disk 59 = .ok (.iconst 0, 1) := db_X12_disk_33.2.2.2.2.2.2.2.2.2.2.2.2.1
theorem dX12_disk_60 : decode cX12_disk 60 = .ok (.istore 5, 2) := db_X12_disk_33.2.2.2.2.2.2.2.2.2.2.2.2.2.1
theorem dX12_disk_62 : decode cX12_disk 62 = .ok (.aload_n 0, 1) := db_X12_disk_33.2.2.2.2.2.2.2.2.2.2.2.2.2.2.1
theorem dX12_disk_63 : decode cX12_disk 63 = .ok (.iload 5, 2) := db_X12_disk_33.2.2.2.2.2.2.2.2.2.2.2.2.2.2.2
theorem db_X12_disk_65 : decode cX12_disk 65 = .ok (.ifCond .eq 7, 3) ∧ decode cX12_disk 68 = .ok (.iconst 0, 1) ∧ decode cX12_disk 69 = .ok (.goto 4, 3) ∧ decode cX12_disk 72 = .ok (.iconst 1, 1) ∧ decode cX12_disk 73 = .ok (.putfield 317, 3) ∧ decode cX12_disk 76 = .ok (.iload 5, 2) ∧ decode cX12_disk 78 = .ok (.ifCond .eq 41, 3) ∧ decode cX12_disk 81 = .ok (.aload_n 0, 1) ∧ decode cX12_disk 82 = .ok (.iload_n 1, 1) ∧ decode cX12_disk 83 = .ok (.aload_n 0, 1) ∧ decode cX12_disk 84 = .ok (.getfield 321, 3) ∧ decode cX12_disk 87 = .ok (.if_icmp .ne 8, 3) ∧ decode cX12_disk 90 = .ok (.bipush 20, 2) ∧ decode cX12_disk 92 = .ok (.goto 9, 3) ∧ decode cX12_disk 95 = .ok (.aload_n 0, 1) ∧ decode cX12_disk 96 = .ok (.iload_n 1, 1) := by decide +kernel
theorem dX12_disk_65 : decode cX12_disk 65 = .ok (.ifCond .eq 7, 3) := db_X12_disk_65.1
theorem dX12_disk_68 : decode cX12_disk 68 = .ok (.iconst 0, 1) := db_X12_disk_65.2.1
theorem dX12_disk_69 : decode cX12_disk 69 = .ok (.goto 4, 3) := db_X12_disk_65.2.2.1
theorem dX12_disk_72 : decode cX12_disk 72 = .ok (.iconst 1, 1) := db_X12_disk_65.2.2.2.1
theorem dX12_disk_73 : decode cX12_disk 73 = .ok (.putfield 317, 3) := db_X12_disk_65.2.2.2.2.1
theorem dX12_disk_76 : decode cX12_disk 76 = .ok (.iload 5, 2) := db_X12_disk_65.2.2.2.2.2.1
theorem dX12_disk_78 : decode cX12_disk 78 = .ok (.ifCond .eq 41, 3) := db_X12_disk_65.2.2.2.2.2.2.1
theorem dX12_disk_81 : decode cX12_disk 81 = .ok (.aload_n 0, 1) := db_X12_disk_65.2.2.2.2.2.2.2.1
theorem dX12_disk_82 : decode cX12_disk 82 = .ok (.iload_n 1, 1) := db_X12_disk_65.2.2.2.2.2.2.2.2.1
theorem dX12_disk_83 : decode cX12_disk 83 = .ok (.aload_n 0, 1) := db_X12_disk_65.2.2.2.2.2.2.2.2.2.1
theorem dX12_disk_84 : decode cX12_disk 84 = .ok (.getfield 321, 3) := db_X12_disk_65.2.2.2.2.2.2.2.2.2.2.1
theorem dX12_disk_87 : decode cX12_disk 87 = .ok (.if_icmp .ne 8, 3) := db_X12_disk_65.2.2.2.2.2.2.2.2.2.2.2.1
theorem dX12_disk_90 : decode cX12_disk 90 = .ok (.bipush 20, 2) := db_X12_disk_65.2.2.2.2.2.2.2.2.2.2.2.2.1
theorem dX12_disk_92 : decode cX12_disk 92 = .ok (.goto 9, 3) := db_X12_disk_65.2.2.2.2.2.2.2.2.2.2.2.2.2.1
theorem dX12_disk_95 : decode cX12_disk 95 = .ok (.aload_n 0, 1) := db_X12_disk_65.2.2.2.2.2.2.2.2.2.2.2.2.2.2.1
theorem dX12_disk_96 : decode cX12_disk 96 = .ok (.iload_n 1, 1) := db_X12_disk_65.2.2.2.2.2.2.2.2.2.2.2.2.2.2.2
theorem db_X12_disk_97 : decode cX12_disk 97 = .ok (.iload_n 2, 1) ∧ decode cX12_disk 98 = .ok (.invokevirtual 364, 3) ∧ decode cX12_disk 101 = .ok (.sipush 202, 3) ∧ decode cX12_disk 104 = .ok (.imul, 1) ∧ decode cX12_disk 105 = .ok (.iload_n 3, 1) ∧ decode cX12_disk 106 = .ok (.iadd, 1) ∧ decode cX12_disk 107 = .ok (.bipush 64, 2) ∧ decode cX12_disk 109 = .ok (.imul, 1) ∧ decode cX12_disk 110 = .ok (.iload 4, 2) ∧ decode cX12_disk 112 = .ok (.iadd, 1) ∧ decode cX12_disk 113 = .ok (.invokevirtual 459, 3) ∧ decode cX12_disk 116 = .ok (.goto 4, 3) ∧ decode cX12_disk 119 = .ok (.iconst 0, 1) ∧ decode cX12_disk 120 = .ok (.ireturn, 1) := by decide +kernel
theorem dX12_disk_97 : decode cX12_disk 97 = .ok (.iload_n 2, 1) := db_X12_disk_97.1
theorem dX12_disk_98 : decode cX12_disk 98 = .ok (.invokevirtual 364, 3) := db_X12_disk_97.2.1
theorem dX12_disk_101 : decode cX12_disk 101 = .ok (.sipush 202, 3) := db_X12_disk_97.2.2.1
theorem dX12_disk_104 : decode cX12_disk 104 = .ok (.imul, 1) := db_X12_disk_97.2.2.2.1
theorem dX12_disk_105 : decode cX12_disk 105 = .ok (.iload_n 3, 1) := db_X12_disk_97.2.2.2.2.1
theorem dX12_disk_106 : decode cX12_disk 106 = .ok (.iadd, 1) := db_X12_disk_97.2.2.2.2.2.1
theorem dX12_disk_107 : decode cX12_disk 107 = .ok (.bipush 64, 2) := db_X12_disk_97.2.2.2.2.2.2.1
theorem dX12_disk_109 : decode cX12_disk 109 = .ok (.imul, 1) := db_X12_disk_97.2.2.2.2.2.2.2.1
theorem dX12_disk_110 : decode cX12_disk 110 = .ok (.iload 4, 2) := db_X12_disk_97.2.2.2.2.2.2.2.2.1
theorem dX12_disk_112 : decode cX12_disk 112 = .ok (.iadd, 1) := db_X12_disk_97.2.2.2.2.2.2.2.2.2.1
theorem dX12_disk_113 : decode cX12_disk 113 = .ok (.invokevirtual 459, 3) := db_X12_disk_97.2.2.2.2.2.2.2.2.2.2.1
theorem dX12_disk_116 : decode cX12_disk 116 = .ok (.goto 4, 3) := db_X12_disk_97.2.2.2.2.2.2.2.2.2.2.2.1
theorem dX12_disk_119 : decode cX12_disk 119 = .ok (.iconst 0, 1) := db_X12_disk_97.2.2.2.2.2.2.2.2.2.2.2.2.1
theorem dX12_disk_120 : decode cX12_disk 120 = .ok (.ireturn, 1) := db_X12_disk_97.2.2.2.2.2.2.2.2.2.2.2.2.2
theorem db_X12_isSegment_0 : decode cX12_isSegment 0 = .ok (.aload_n 0, 1) ∧ decode cX12_isSegment 1 = .ok (.iload_n 1, 1) ∧ decode cX12_isSegment 2 = .ok (.iload_n 2, 1) ∧ decode cX12_isSegment 3 = .ok (.invokevirtual 801, 3) ∧ decode cX12_isSegment 6 = .ok (.ifCond .eq 35, 3) ∧ decode cX12_isSegment 9 = .ok (.aload_n 0, 1) ∧ decode cX12_isSegment 10 = .ok (.getfield 77, 3) ∧ decode cX12_isSegment 13 = .ok (.iload_n 1, 1) ∧ decode cX12_isSegment 14 = .ok (.baload, 1) ∧ decode cX12_isSegment 15 = .ok (.ifCond .eq 26, 3) ∧ decode cX12_isSegment 18 = .ok (.iload_n 3, 1) ∧ decode cX12_isSegment 19 = .ok (.ifCond .lt 22, 3) ∧ decode cX12_isSegment 22 = .ok (.iload_n 3, 1) ∧ decode cX12_isSegment 23 = .ok (.aload_n 0, 1) ∧ decode cX12_isSegment 24 = .ok (.getfield 194, 3) ∧ decode cX12_isSegment 27 = .ok (.aload_n 0, 1) := by decide +kernel
theorem dX12_isSegment_0 : decode cX12_isSegment 0 = .ok (.aload_n 0, 1) := db_X12_isSegment_0.1
theorem dX12_isSegment_1 : decode cX12_isSegment 1 = .ok (.iload_n 1, 1) := db_X12_isSegment_0.2.1
theorem dX12_isSegment_2 : decode cX12_isSegment 2 = .ok (.iload_n 2, 1) := db_X12_isSegment_0.2.2.1
theorem dX12_isSegment_3 : decode cX12_isSegment 3 = .ok (.invokevirtual 801, 3) := db_X12_isSegment_0.2.2.2.1
theorem dX12_isSegment_6 : decode cX12_isSegment 6 = .ok (.ifCond .eq 35, 3) := db_X12_isSegment_0.2.2.2.2.1
theorem dX12_isSegment_9 : decode cX12_isSegment 9 = .ok (.aload_n 0, 1) := db_X12_isSegment_0.2.2.2.2.2.1
theorem dX12_isSegment_10 : decode cX12_isSegment 10 = .ok (.getfield 77, 3) := db_X12_isSegment_0.2.2.2.2.2.2.1
theorem dX12_isSegment_13 : decode cX12_isSegment 13 = .ok (.iload_n 1, 1) := db_X12_isSegment_0.2.2.2.2.2.2.2.1
theorem dX12_isSegment_14 : decode cX12_isSegment 14 = .ok (.baload, 1) := db_X12_isSegment_0.2.2.2.2.2.2.2.2.1
theorem dX12_isSegment_15 : decode cX12_isSegment 15 = .ok (.ifCond .eq 26, 3) := db_X12_isSegment_0.2.2.2.2.2.2.2.2.2.1
theorem dX12_isSegment_18 : decode cX12_isSegment 18 = .ok (.iload_n 3, 1) := db_X12_isSegment_0.2.2.2.2.2.2.2.2.2.2.1
theorem dX12_isSegment_19 : decode cX12_isSegment 19 = .ok (.ifCond .lt 22, 3) := db_X12_isSegment_0.2.2.2.2.2.2.2.2.2.2.2.1
theorem dX12_isSegment_22 : decode cX12_isSegment 22 = .ok (.iload_n 3, 1) := db_X12_isSegment_0.2.2.2.2.2.2.2.2.2.2.2.2.1
theorem dX12_isSegment_23 : decode cX12_isSegment 23 = .ok (.aload_n 0, 1) := db_X12_isSegment_0.2.2.2.2.2.2.2.2.2.2.2.2.2.1
theorem dX12_isSegment_24 : decode cX12_isSegment 24 = .ok (.getfield 194, 3) := db_X12_isSegment_0.2.2.2.2.2.2.2.2.2.2.2.2.2.2.1
theorem dX12_isSegment_27 : decode cX12_isSegment 27 = .ok (.aload_n 0, 1) := db_X12_isSegment_0.2.2.2.2.2.2.2.2.2.2.2.2.2.2.2
theorem db_X12_isSegment_28 : decode cX12_isSegment 28 = .ok (.iload_n 1, 1) ∧ decode cX12_isSegment 29 = .ok (.iload_n 2, 1) ∧ decode cX12_isSegment 30 = .ok (.invokevirtual 364, 3) ∧ decode cX12_isSegment 33 = .ok (.iaload, 1) ∧ decode cX12_isSegment 34 = .ok (.if_icmp .ge 7, 3) ∧ decode cX12_isSegment 41 = .ok (.iconst 0, 1) ∧ decode cX12_isSegment 42 = .ok (.ireturn, 1) := by decide +kernel
theorem dX12_isSegment_28 : decode cX12_isSegment 28 = .ok (.iload_n 1, 1) := db_X12_isSegment_28.1
theorem dX12_isSegment_29 : decode cX12_isSegment 29 = .ok (.iload_n 2, 1) := db_X12_isSegment_28.2.1
theorem dX12_isSegment_30 : decode cX12_isSegment 30 = .ok (.invokevirtual 364, 3) := db_X12_isSegment_28.2.2.1
theorem dX12_isSegment_33 : decode cX12_isSegment 33 = .ok (.iaload, 1) := db_X12_isSegment_28.2.2.2.1
theorem dX12_isSegment_34 : decode cX12_isSegment 34 = .ok (.if_icmp .ge 7, 3) := db_X12_isSegment_28.2.2.2.2.1
theorem dX12_isSegment_41 : decode cX12_isSegment 41 = .ok (.iconst 0, 1) := db_X12_isSegment_28.2.2.2.2.2.1
theorem dX12_isSegment_42 : decode cX12_isSegment 42 = .ok (.ireturn, 1) := db_X12_isSegment_28.2.2.2.2.2.2
theorem db_X12_segment_0 : decode cX12_segment 0 = .ok (.aload_n 0, 1) ∧ decode cX12_segment 1 = .ok (.aload_n 0, 1) ∧ decode cX12_segment 2 = .ok (.iload_n 1, 1) ∧ decode cX12_segment 3 = .ok (.iload_n 2, 1) ∧ decode cX12_segment 4 = .ok (.iload_n 3, 1) ∧ decode cX12_segment 5 = .ok (.invokevirtual 804, 3) ∧ decode cX12_segment 8 = .ok (.ifCond .eq 18, 3) ∧ decode cX12_segment 26 = .ok (.iconst 1, 1) ∧ decode cX12_segment 27 = .ok (.putfield 317, 3) ∧ decode cX12_segment 30 = .ok (.aload_n 0, 1) ∧ decode cX12_segment 31 = .ok (.getfield 317, 3) ∧ decode cX12_segment 34 = .ok (.ifCond .le 5, 3) ∧ decode cX12_segment 37 = .ok (.iconst 0, 1) ∧ decode cX12_segment 38 = .ok (.ireturn, 1) := by decide +kernel
theorem dX12_segment_0 : decode cX12_segment 0 = .ok (.aload_n 0, 1) := db_X12_segment_0.1
theorem dX12_segment_1 : decode cX12_segment 1 = .ok (.aload_n 0, 1) := db_X12_segment_0.2.1
theorem dX12_segment_2 : decode cX12_segment 2 = .ok (.iload_n 1, 1) := db_X12_segment_0.2.2.1
theorem dX12_segment_3 : decode cX12_segment 3 = .ok (.iload_n 2, 1) := db_X12_segment_0.2.2.2.1
theorem dX12_segment_4 : decode cX12_segment 4 = .ok (.iload_n 3, 1) := db_X12_segment_0.2.2.2.2.1
theorem dX12_segment_5 : decode cX12_segment 5 = .ok (.invokevirtual 804, 3) := db_X12_segment_0.2.2.2.2.2.1
theorem dX12_segment_8 : decode cX12_segment 8 = .ok (.ifCond .eq 18, 3) := db_X12_segment_0.2.2.2.2.2.2.1
theorem dX12_segment_26 : decode cX12_segment 26 = .ok (.iconst 1, 1) := db_X12_segment_0.2.2.2.2.2.2.2.1
theorem dX12_segment_27 : decode cX12_segment 27 = .ok (.putfield 317, 3) := db_X12_segment_0.2.2.2.2.2.2.2.2.1
theorem dX12_segment_30 : decode cX12_segment 30 = .ok (.aload_n 0, 1) := db_X12_segment_0.2.2.2.2.2.2.2.2.2.1
theorem dX12_segment_31 : decode cX12_segment 31 = .ok (.getfield 317, 3) := db_X12_segment_0.2.2.2.2.2.2.2.2.2.2.1
theorem dX12_segment_34 : decode cX12_segment 34 = .ok (.ifCond .le 5, 3) := db_X12_segment_0.2.2.2.2.2.2.2.2.2.2.2.1
theorem dX12_segment_37 : decode cX12_segment 37 = .ok (.iconst 0, 1) := db_X12_segment_0.2.2.2.2.2.2.2.2.2.2.2.2.1
theorem dX12_segment_38 : decode cX12_segment 38 = .ok (.ireturn, 1) := db_X12_segment_0.2.2.2.2.2.2.2.2.2.2.2.2.2
theorem db_X12_octet_0 : decode cX12_octet 0 = .ok (.aload_n 0, 1) ∧ decode cX12_octet 1 = .ok (.aload_n 0, 1) ∧ decode cX12_octet 2 = .ok (.iload_n 1, 1) ∧ decode cX12_octet 3 = .ok (.iload_n 2, 1) ∧ decode cX12_octet 4 = .ok (.iload_n 3, 1) ∧ decode cX12_octet 5 = .ok (.invokevirtual 804, 3) ∧ decode cX12_octet 8 = .ok (.ifCond .eq 7, 3) ∧ decode cX12_octet 15 = .ok (.iconst 1, 1) ∧ decode cX12_octet 16 = .ok (.putfield 317, 3) ∧ decode cX12_octet 19 = .ok (.aload_n 0, 1) ∧ decode cX12_octet 20 = .ok (.getfield 317, 3) ∧ decode cX12_octet 23 = .ok (.ifCond .le 5, 3) ∧ decode cX12_octet 26 = .ok (.iconst 0, 1) ∧ decode cX12_octet 27 = .ok (.ireturn, 1) := by decide +kernel
theorem dX12_octet_0 : decode cX12_octet 0 = .ok (.aload_n 0, 1) := db_X12_octet_0.1
theorem dX12_octet_1 : decode cX12_octet 1 = .ok (.aload_n 0, 1) := db_X12_octet_0.2.1
theorem dX12_octet_2 : decode cX12_octet 2 = .ok (.iload_n 1, 1) := db_X12_octet_0.2.2.1
theorem dX12_octet_3 : decode cX12_octet 3 = .ok (.iload_n 2, 1) := db_X12_octet_0.2.2.2.1
theorem dX12_octet_4 : decode cX12_octet 4 = .ok (.iload_n 3, 1) := db_X12_octet_0.2.2.2.2.1
theorem dX12_octet_5 : decode cX12_octet 5 = .ok (.invokevirtual 804, 3) := db_X12_octet_0.2.2.2.2.2.1
theorem dX12_octet_8 : decode cX12_octet 8 = .ok (.ifCond .eq 7, 3) := db_X12_octet_0.2.2.2.2.2.2.1
theorem dX12_octet_15 : decode cX12_octet 15 = .ok (.iconst 1, 1) := db_X12_octet_0.2.2.2.2.2.2.2.1
theorem dX12_octet_16 : decode cX12_octet 16 = .ok (.putfield 317, 3) := db_X12_octet_0.2.2.2.2.2.2.2.2.1
theorem dX12_octet_19 : decode cX12_octet 19 = .ok (.aload_n 0, 1) := db_X12_octet_0.2.2.2.2.2.2.2.2.2.1
theorem dX12_octet_20 : decode cX12_octet 20 = .ok (.getfield 317, 3) := db_X12_octet_0.2.2.2.2.2.2.2.2.2.2.1
theorem dX12_octet_23 : decode cX12_octet 23 = .ok (.ifCond .le 5, 3) := db_X12_octet_0.2.2.2.2.2.2.2.2.2.2.2.1
theorem dX12_octet_26 : decode cX12_octet 26 = .ok (.iconst 0, 1) := db_X12_octet_0.2.2.2.2.2.2.2.2.2.2.2.2.1
theorem dX12_octet_27 : decode cX12_octet 27 = .ok (.ireturn, 1) := db_X12_octet_0.2.2.2.2.2.2.2.2.2.2.2.2.2
theorem db_X12_told_0 : decode cX12_told 0 = .ok (.aload_n 0, 1) ∧ decode cX12_told 1 = .ok (.iload_n 1, 1) ∧ decode cX12_told 2 = .ok (.ifCond .lt 13, 3) ∧ decode cX12_told 5 = .ok (.iload_n 1, 1) ∧ decode cX12_told 6 = .ok (.bipush 6, 2) ∧ decode cX12_told 8 = .ok (.if_icmp .gt 7, 3) ∧ decode cX12_told 11 = .ok (.iconst 0, 1) ∧ decode cX12_told 12 = .ok (.goto 4, 3) ∧ decode cX12_told 15 = .ok (.iconst 1, 1) ∧ decode cX12_told 16 = .ok (.putfield 317, 3) ∧ decode cX12_told 19 = .ok (.aload_n 0, 1) ∧ decode cX12_told 20 = .ok (.getfield 317, 3) ∧ decode cX12_told 23 = .ok (.ifCond .le 5, 3) ∧ decode cX12_told 26 = .ok (.iconst 0, 1) ∧ decode cX12_told 27 = .ok (.ireturn, 1) ∧ decode cX12_told 28 = .ok (.iload_n 1, 1) := by decide +kernel
theorem dX12_told_0 : decode cX12_told 0 = .ok (.aload_n 0, 1) := db_X12_told_0.1
theorem dX12_told_1 : decode cX12_told 1 = .ok (.iload_n 1, 1) := db_X12_told_0.2.1
theorem dX12_told_2 : decode cX12_told 2 = .ok (.ifCond .lt 13, 3) := db_X12_told_0.2.2.1
theorem dX12_told_5 : decode cX12_told 5 = .ok (.iload_n 1, 1) := db_X12_told_0.2.2.2.1
theorem dX12_told_6 : decode cX12_told 6 = .ok (.bipush 6, 2) := db_X12_told_0.2.2.2.2.1
theorem dX12_told_8 : decode cX12_told 8 = .ok (.if_icmp .gt 7, 3) := db_X12_told_0.2.2.2.2.2.1
theorem dX12_told_11 : decode cX12_told 11 = .ok (.iconst 0, 1) := db_X12_told_0.2.2.2.2.2.2.1
theorem dX12_told_12 : decode cX12_told 12 = .ok (.goto 4, 3) := db_X12_told_0.2.2.2.2.2.2.2.1
theorem dX12_told_15 : decode cX12_told 15 = .ok (.iconst 1, 1) := db_X12_told_0.2.2.2.2.2.2.2.2.1
theorem dX12_told_16 : decode cX12_told 16 = .ok (.putfield 317, 3) := db_X12_told_0.2.2.2.2.2.2.2.2.2.1
theorem dX12_told_19 : decode cX12_told 19 = .ok (.aload_n 0, 1) := db_X12_told_0.2.2.2.2.2.2.2.2.2.2.1
theorem dX12_told_20 : decode cX12_told 20 = .ok (.getfield 317, 3) := db_X12_told_0.2.2.2.2.2.2.2.2.2.2.2.1
theorem dX12_told_23 : decode cX12_told 23 = .ok (.ifCond .le 5, 3) := db_X12_told_0.2.2.2.2.2.2.2.2.2.2.2.2.1
theorem dX12_told_26 : decode cX12_told 26 = .ok (.iconst 0, 1) := db_X12_told_0.2.2.2.2.2.2.2.2.2.2.2.2.2.1
theorem dX12_told_27 : decode cX12_told 27 = .ok (.ireturn, 1) := db_X12_told_0.2.2.2.2.2.2.2.2.2.2.2.2.2.2.1
theorem dX12_told_28 : decode cX12_told 28 = .ok (.iload_n 1, 1) := db_X12_told_0.2.2.2.2.2.2.2.2.2.2.2.2.2.2.2
theorem db_X12_told_29 : decode cX12_told 29 = .ok (.iconst 2, 1) ∧ decode cX12_told 30 = .ok (.if_icmp .ne 30, 3) ∧ decode cX12_told 33 = .ok (.iconst 0, 1) ∧ decode cX12_told 34 = .ok (.istore_n 2, 1) ∧ decode cX12_told 35 = .ok (.iconst 0, 1) ∧ decode cX12_told 36 = .ok (.istore_n 3, 1) ∧ decode cX12_told 37 = .ok (.iload_n 3, 1) ∧ decode cX12_told 38 = .ok (.bipush 36, 2) ∧ decode cX12_told 40 = .ok (.if_icmp .ge 18, 3) ∧ decode cX12_told 43 = .ok (.iload_n 2, 1) ∧ decode cX12_told 44 = .ok (.aload_n 0, 1) ∧ decode cX12_told 45 = .ok (.getfield 209, 3) ∧ decode cX12_told 48 = .ok (.iload_n 3, 1) ∧ decode cX12_told 49 = .ok (.iaload, 1) ∧ decode cX12_told 50 = .ok (.iadd, 1) ∧ decode cX12_told 51 = .ok (.istore_n 2, 1) := by decide +kernel
theorem dX12_told_29 : decode cX12_told 29 = .ok (.iconst 2, 1) := db_X12_told_29.1
theorem dX12_told_30 : decode cX12_told 30 = .ok (.if_icmp .ne 30, 3) := db_X12_told_29.2.1
theorem dX12_told_33 : decode cX12_told 33 = .ok (.iconst 0, 1) := db_X12_told_29.2.2.1
theorem dX12_told_34 : decode cX12_told 34 = .ok (.istore_n 2, 1) := db_X12_told_29.2.2.2.1
theorem dX12_told_35 : decode cX12_told 35 = .ok (.iconst 0, 1) := db_X12_told_29.2.2.2.2.1
theorem dX12_told_36 : decode cX12_told 36 = .ok (.istore_n 3, 1) := db_X12_told_29.2.2.2.2.2.1
theorem dX12_told_37 : decode cX12_told 37 = .ok (.iload_n 3, 1) := db_X12_told_29.2.2.2.2.2.2.1
theorem dX12_told_38 : decode cX12_told 38 = .ok (.bipush 36, 2) := db_X12_told_29.2.2.2.2.2.2.2.1
theorem dX12_told_40 : decode cX12_told 40 = .ok (.if_icmp .ge 18, 3) := db_X12_told_29.2.2.2.2.2.2.2.2.1
theorem dX12_told_43 : decode cX12_told 43 = .ok (.iload_n 2, 1) := db_X12_told_29.2.2.2.2.2.2.2.2.2.1
theorem dX12_told_44 : decode cX12_told 44 = .ok (.aload_n 0, 1) := db_X12_told_29.2.2.2.2.2.2.2.2.2.2.1
theorem dX12_told_45 : decode cX12_told 45 = .ok (.getfield 209, 3) := db_X12_told_29.2.2.2.2.2.2.2.2.2.2.2.1
theorem dX12_told_48 : decode cX12_told 48 = .ok (.iload_n 3, 1) := db_X12_told_29.2.2.2.2.2.2.2.2.2.2.2.2.1
theorem dX12_told_49 : decode cX12_told 49 = .ok (.iaload, 1) := db_X12_told_29.2.2.2.2.2.2.2.2.2.2.2.2.2.1
theorem dX12_told_50 : decode cX12_told 50 = .ok (.iadd, 1) := db_X12_told_29.2.2.2.2.2.2.2.2.2.2.2.2.2.2.1
theorem dX12_told_51 : decode cX12_told 51 = .ok (.istore_n 2, 1) := db_X12_told_29.2.2.2.2.2.2.2.2.2.2.2.2.2.2.2
theorem db_X12_told_52 : decode cX12_told 52 = .ok (.iinc 3 1, 3) ∧ decode cX12_told 55 = .ok (.goto (-18), 3) ∧ decode cX12_told 58 = .ok (.iload_n 2, 1) ∧ decode cX12_told 59 = .ok (.ireturn, 1) ∧ decode cX12_told 60 = .ok (.iload_n 1, 1) ∧ decode cX12_told 61 = .ok (.bipush 6, 2) ∧ decode cX12_told 63 = .ok (.if_icmp .ne 38, 3) ∧ decode cX12_told 66 = .ok (.iconst 0, 1) ∧ decode cX12_told 67 = .ok (.istore_n 2, 1) ∧ decode cX12_told 68 = .ok (.iconst 0, 1) ∧ decode cX12_told 69 = .ok (.istore_n 3, 1) ∧ decode cX12_told 70 = .ok (.iload_n 3, 1) ∧ decode cX12_told 71 = .ok (.bipush 40, 2) ∧ decode cX12_told 73 = .ok (.if_icmp .ge 26, 3) ∧ decode cX12_told 76 = .ok (.iload_n 2, 1) ∧ decode cX12_told 77 = .ok (.aload_n 0, 1) := by decide +kernel
theorem dX12_told_52 : decode cX12_told 52 = .ok (.iinc 3 1, 3) := db_X12_told_52.1
theorem dX12_told_55 : decode cX12_told 55 = .ok (.goto (-18), 3) := db_X12_told_52.2.1
theorem dX12_told_58 : decode cX12_told 58 = .ok (.iload_n 2, 1) := db_X12_told_52.2.2.1
theorem dX12_told_59 : decode cX12_told 59 = .ok (.ireturn, 1) := db_X12_told_52.2.2.2.1
theorem dX12_told_60 : decode cX12_told 60 = .ok (.iload_n 1, 1) := db_X12_told_52.2.2.2.2.1
theorem dX12_told_61 : decode cX12_told 61 = .ok (.bipush 6, 2) := db_X12_told_52.2.2.2.2.2.1
theorem dX12_told_63 : decode cX12_told 63 = .ok (.if_icmp .ne 38, 3) := db_X12_told_52.2.2.2.2.2.2.1
theorem dX12_told_66 : decode cX12_told 66 = .ok (.iconst 0, 1) := db_X12_told_52.2.2.2.2.2.2.2.1
theorem dX12_told_67 : decode cX12_told 67 = .ok (.istore_n 2, 1) := db_X12_told_52.2.2.2.2.2.2.2.2.1
theorem dX12_told_68 : decode cX12_told 68 = .ok (.iconst 0, 1) := db_X12_told_52.2.2.2.2.2.2.2.2.2.1
theorem dX12_told_69 : decode cX12_told 69 = .ok (.istore_n 3, 1) := db_X12_told_52.2.2.2.2.2.2.2.2.2.2.1
theorem dX12_told_70 : decode cX12_told 70 = .ok (.iload_n 3, 1) := db_X12_told_52.2.2.2.2.2.2.2.2.2.2.2.1
theorem dX12_told_71 : decode cX12_told 71 = .ok (.bipush 40, 2) := db_X12_told_52.2.2.2.2.2.2.2.2.2.2.2.2.1
theorem dX12_told_73 : decode cX12_told 73 = .ok (.if_icmp .ge 26, 3) := db_X12_told_52.2.2.2.2.2.2.2.2.2.2.2.2.2.1
theorem dX12_told_76 : decode cX12_told 76 = .ok (.iload_n 2, 1) := db_X12_told_52.2.2.2.2.2.2.2.2.2.2.2.2.2.2.1
theorem dX12_told_77 : decode cX12_told 77 = .ok (.aload_n 0, 1) := db_X12_told_52.2.2.2.2.2.2.2.2.2.2.2.2.2.2.2
theorem db_X12_told_78 : decode cX12_told 78 = .ok (.getfield 225, 3) ∧ decode cX12_told 81 = .ok (.iload_n 3, 1) ∧ decode cX12_told 82 = .ok (.baload, 1) ∧ decode cX12_told 83 = .ok (.ifCond .eq 7, 3) ∧ decode cX12_told 90 = .ok (.iconst 0, 1) ∧ decode cX12_told 91 = .ok (.iadd, 1) ∧ decode cX12_told 92 = .ok (.istore_n 2, 1) ∧ decode cX12_told 93 = .ok (.iinc 3 1, 3) ∧ decode cX12_told 96 = .ok (.goto (-26), 3) ∧ decode cX12_told 99 = .ok (.iload_n 2, 1) ∧ decode cX12_told 100 = .ok (.ireturn, 1) ∧ decode cX12_told 101 = .ok (.iload_n 1, 1) ∧ decode cX12_told 102 = .ok (.ifCond .ne 10, 3) ∧ decode cX12_told 105 = .ok (.aload_n 0, 1) ∧ decode cX12_told 106 = .ok (.getfield 330, 3) ∧ decode cX12_told 109 = .ok (.goto 43, 3) := by decide +kernel
theorem dX12_told_78 : decode cX12_told 78 = .ok (.getfield 225, 3) := db_X12_told_78.1
theorem dX12_told_81 : decode cX12_told 81 = .ok (.iload_n 3, 1) := db_X12_told_78.2.1
theorem dX12_told_82 : decode cX12_told 82 = .ok (.baload, 1) := db_X12_told_78.2.2.1
theorem dX12_told_83 : decode cX12_told 83 = .ok (.ifCond .eq 7, 3) := db_X12_told_78.2.2.2.1
theorem dX12_told_90 : decode cX12_told 90 = .ok (.iconst 0, 1) := db_X12_told_78.2.2.2.2.1
theorem dX12_told_91 : decode cX12_told 91 = .ok (.iadd, 1) := db_X12_told_78.2.2.2.2.2.1
theorem dX12_told_92 : decode cX12_told 92 = .ok (.istore_n 2, 1) := db_X12_told_78.2.2.2.2.2.2.1
theorem dX12_told_93 : decode cX12_told 93 = .ok (.iinc 3 1, 3) := db_X12_told_78.2.2.2.2.2.2.2.1
theorem dX12_told_96 : decode cX12_told 96 = .ok (.goto (-26), 3) := db_X12_told_78.2.2.2.2.2.2.2.2.1
theorem dX12_told_99 : decode cX12_told 99 = .ok (.iload_n 2, 1) := db_X12_told_78.2.2.2.2.2.2.2.2.2.1
theorem dX12_told_100 : decode cX12_told 100 = .ok (.ireturn, 1) := db_X12_told_78.2.2.2.2.2.2.2.2.2.2.1
theorem dX12_told_101 : decode cX12_told 101 = .ok (.iload_n 1, 1) := db_X12_told_78.2.2.2.2.2.2.2.2.2.2.2.1
theorem dX12_told_102 : decode cX12_told 102 = .ok (.ifCond .ne 10, 3) := db_X12_told_78.2.2.2.2.2.2.2.2.2.2.2.2.1
theorem dX12_told_105 : decode cX12_told 105 = .ok (.aload_n 0, 1) := db_X12_told_78.2.2.2.2.2.2.2.2.2.2.2.2.2.1
theorem dX12_told_106 : decode cX12_told 106 = .ok (.getfield 330, 3) := db_X12_told_78.2.2.2.2.2.2.2.2.2.2.2.2.2.2.1
theorem dX12_told_109 : decode cX12_told 109 = .ok (.goto 43, 3) := db_X12_told_78.2.2.2.2.2.2.2.2.2.2.2.2.2.2.2
theorem db_X12_told_112 : decode cX12_told 112 = .ok (.iload_n 1, 1) ∧ decode cX12_told 113 = .ok (.iconst 1, 1) ∧ decode cX12_told 114 = .ok (.if_icmp .ne 10, 3) ∧ decode cX12_told 117 = .ok (.aload_n 0, 1) ∧ decode cX12_told 118 = .ok (.getfield 333, 3) ∧ decode cX12_told 121 = .ok (.goto 31, 3) ∧ decode cX12_told 124 = .ok (.iload_n 1, 1) ∧ decode cX12_told 125 = .ok (.iconst 3, 1) ∧ decode cX12_told 126 = .ok (.if_icmp .ne 10, 3) ∧ decode cX12_told 129 = .ok (.aload_n 0, 1) ∧ decode cX12_told 130 = .ok (.getfield 342, 3) ∧ decode cX12_told 133 = .ok (.goto 19, 3) ∧ decode cX12_told 136 = .ok (.iload_n 1, 1) ∧ decode cX12_told 137 = .ok (.iconst 4, 1) ∧ decode cX12_told 138 = .ok (.if_icmp .ne 10, 3) ∧ decode cX12_told 141 = .ok (.aload_n 0, 1) := by decide +kernel
theorem dX12_told_112 : decode cX12_told 112 = .ok (.iload_n 1, 1) := db_X12_told_112.1
theorem dX12_told_113 : decode cX12_told 113 = .ok (.iconst 1, 1) := db_X12_told_112.2.1
theorem dX12_told_114 : decode cX12_told 114 = .ok (.if_icmp .ne 10, 3) := db_X12_told_112.2.2.1
theorem dX12_told_117 : decode cX12_told 117 = .ok (.aload_n 0, 1) := db_X12_told_112.2.2.2.1
theorem dX12_told_118 : decode cX12_told 118 = .ok (.getfield 333, 3) := db_X12_told_112.2.2.2.2.1
theorem dX12_told_121 : decode cX12_told 121 = .ok (.goto 31, 3) := db_X12_told_112.2.2.2.2.2.1
theorem dX12_told_124 : decode cX12_told 124 = .ok (.iload_n 1, 1) := db_X12_told_112.2.2.2.2.2.2.1
theorem dX12_told_125 : decode cX12_told 125 = .ok (.iconst 3, 1) := db_X12_told_112.2.2.2.2.2.2.2.1
theorem dX12_told_126 : decode cX12_told 126 = .ok (.if_icmp .ne 10, 3) := db_X12_told_112.2.2.2.2.2.2.2.2.1
theorem dX12_told_129 : decode cX12_told 129 = .ok (.aload_n 0, 1) := db_X12_told_112.2.2.2.2.2.2.2.2.2.1
theorem dX12_told_130 : decode cX12_told 130 = .ok (.getfield 342, 3) := db_X12_told_112.2.2.2.2.2.2.2.2.2.2.1
theorem dX12_told_133 : decode cX12_told 133 = .ok (.goto 19, 3) := db_X12_told_112.2.2.2.2.2.2.2.2.2.2.2.1
theorem dX12_told_136 : decode cX12_told 136 = .ok (.iload_n 1, 1) := db_X12_told_112.2.2.2.2.2.2.2.2.2.2.2.2.1
theorem dX12_told_137 : decode cX12_told 137 = .ok (.iconst 4, 1) := db_X12_told_112.2.2.2.2.2.2.2.2.2.2.2.2.2.1
theorem dX12_told_138 : decode cX12_told 138 = .ok (.if_icmp .ne 10, 3) := db_X12_told_112.2.2.2.2.2.2.2.2.2.2.2.2.2.2.1
theorem dX12_told_141 : decode cX12_told 141 = .ok (.aload_n 0, 1) := db_X12_told_112.2.2.2.2.2.2.2.2.2.2.2.2.2.2.2
theorem db_X12_told_142 : decode cX12_told 142 = .ok (.getfield 345, 3) ∧ decode cX12_told 145 = .ok (.goto 7, 3) ∧ decode cX12_told 148 = .ok (.aload_n 0, 1) ∧ decode cX12_told 149 = .ok (.getfield 339, 3) ∧ decode cX12_told 152 = .ok (.ireturn, 1) := by decide +kernel
theorem dX12_told_142 : decode cX12_told 142 = .ok (.getfield 345, 3) := db_X12_told_142.1
theorem dX12_told_145 : decode cX12_told 145 = .ok (.goto 7, 3) := db_X12_told_142.2.1
theorem dX12_told_148 : decode cX12_told 148 = .ok (.aload_n 0, 1) := db_X12_told_142.2.2.1
theorem dX12_told_149 : decode cX12_told 149 = .ok (.getfield 339, 3) := db_X12_told_142.2.2.2.1
theorem dX12_told_152 : decode cX12_told 152 = .ok (.ireturn, 1) := db_X12_told_142.2.2.2.2
theorem db_L_make_0 : decode cL_make 0 = .ok (.aload 4, 2) ∧ decode cL_make 2 = .ok (.iconst 0, 1) ∧ decode cL_make 3 = .ok (.aload_n 0, 1) ∧ decode cL_make 4 = .ok (.iload_n 1, 1) ∧ decode cL_make 5 = .ok (.iload_n 2, 1) ∧ decode cL_make 6 = .ok (.iload_n 3, 1) ∧ decode cL_make 7 = .ok (.invokevirtual 7, 3) ∧ decode cL_make 10 = .ok (.i2l, 1) ∧ decode cL_make 11 = .ok (.lastore, 1) ∧ decode cL_make 12 = .ok (.goto 7, 3) ∧ decode cL_make 15 = .ok (.astore 5, 2) ∧ decode cL_make 17 = .ok (.iconst 1, 1) ∧ decode cL_make 18 = .ok (.ireturn, 1) ∧ decode cL_make 19 = .ok (.iconst 0, 1) ∧ decode cL_make 20 = .ok (.ireturn, 1) := by decide +kernel
theorem dL_make_0 : decode cL_make 0 = .ok (.aload 4, 2) := db_L_make_0.1
theorem dL_make_2 : decode cL_make 2 = .ok (.iconst 0, 1) := db_L_make_0.2.1
theorem dL_make_3 : decode cL_make 3 = .ok (.aload_n 0, 1) := db_L_make_0.2.2.1
theorem dL_make_4 : decode cL_make 4 = .ok (.iload_n 1, 1) := db_L_make_0.2.2.2.1
theorem dL_make_5 : decode cL_make 5 = .ok (.iload_n 2, 1) := db_L_make_0.2.2.2.2.1
theorem dL_make_6 : decode cL_make 6 = .ok (.iload_n 3, 1) := db_L_make_0.2.2.2.2.2.1
theorem dL_make_7 : decode cL_make 7 = .ok (.invokevirtual 7, 3) := db_L_make_0.2.2.2.2.2.2.1
theorem dL_make_10 : decode cL_make 10 = .ok (.i2l, 1) := db_L_make_0.2.2.2.2.2.2.2.1
theorem dL_make_11 : decode cL_make 11 = .ok (.lastore, 1) := db_L_make_0.2.2.2.2.2.2.2.2.1
theorem dL_make_12 : decode cL_make 12 = .ok (.goto 7, 3) := db_L_make_0.2.2.2.2.2.2.2.2.2.1
theorem dL_make_15 : decode cL_make 15 = .ok (.astore 5, 2) := db_L_make_0.2.2.2.2.2.2.2.2.2.2.1
theorem dL_make_17 : decode cL_make 17 = .ok (.iconst 1, 1) := db_L_make_0.2.2.2.2.2.2.2.2.2.2.2.1
theorem dL_make_18 : decode cL_make 18 = .ok (.ireturn, 1) := db_L_make_0.2.2.2.2.2.2.2.2.2.2.2.2.1
theorem dL_make_19 : decode cL_make 19 = .ok (.iconst 0, 1) := db_L_make_0.2.2.2.2.2.2.2.2.2.2.2.2.2.1
theorem dL_make_20 : decode cL_make 20 = .ok (.ireturn, 1) := db_L_make_0.2.2.2.2.2.2.2.2.2.2.2.2.2.2
theorem db_L_draft_0 : decode cL_draft 0 = .ok (.aload 4, 2) ∧ decode cL_draft 2 = .ok (.iconst 0, 1) ∧ decode cL_draft 3 = .ok (.aload_n 0, 1) ∧ decode cL_draft 4 = .ok (.iload_n 1, 1) ∧ decode cL_draft 5 = .ok (.lload_n 2, 1) ∧ decode cL_draft 6 = .ok (.invokevirtual 15, 3) ∧ decode cL_draft 9 = .ok (.i2l, 1) ∧ decode cL_draft 10 = .ok (.lastore, 1) ∧ decode cL_draft 11 = .ok (.goto 7, 3) ∧ decode cL_draft 14 = .ok (.astore 5, 2) ∧ decode cL_draft 16 = .ok (.iconst 1, 1) ∧ decode cL_draft 17 = .ok (.ireturn, 1) ∧ decode cL_draft 18 = .ok (.iconst 0, 1) ∧ decode cL_draft 19 = .ok (.ireturn, 1) := by decide +kernel
theorem dL_draft_0 : decode cL_draft 0 = .ok (.aload 4, 2) := db_L_draft_0.1
theorem dL_draft_2 : decode cL_draft 2 = .ok (.iconst 0, 1) := db_L_draft_0.2.1
theorem dL_draft_3 : decode cL_draft 3 = .ok (.aload_n 0, 1) := db_L_draft_0.2.2.1
theorem dL_draft_4 : decode cL_draft 4 = .ok (.iload_n 1, 1) := db_L_draft_0.2.2.2.1
theorem dL_draft_5 : decode cL_draft 5 = .ok (.lload_n 2, 1) := db_L_draft_0.2.2.2.2.1
theorem dL_draft_6 : decode cL_draft 6 = .ok (.invokevirtual 15, 3) := db_L_draft_0.2.2.2.2.2.1
theorem dL_draft_9 : decode cL_draft 9 = .ok (.i2l, 1) := db_L_draft_0.2.2.2.2.2.2.1
theorem dL_draft_10 : decode cL_draft 10 = .ok (.lastore, 1) := db_L_draft_0.2.2.2.2.2.2.2.1
theorem dL_draft_11 : decode cL_draft 11 = .ok (.goto 7, 3) := db_L_draft_0.2.2.2.2.2.2.2.2.1
theorem dL_draft_14 : decode cL_draft 14 = .ok (.astore 5, 2) := db_L_draft_0.2.2.2.2.2.2.2.2.2.1
theorem dL_draft_16 : decode cL_draft 16 = .ok (.iconst 1, 1) := db_L_draft_0.2.2.2.2.2.2.2.2.2.2.1
theorem dL_draft_17 : decode cL_draft 17 = .ok (.ireturn, 1) := db_L_draft_0.2.2.2.2.2.2.2.2.2.2.2.1
theorem dL_draft_18 : decode cL_draft 18 = .ok (.iconst 0, 1) := db_L_draft_0.2.2.2.2.2.2.2.2.2.2.2.2.1
theorem dL_draft_19 : decode cL_draft 19 = .ok (.ireturn, 1) := db_L_draft_0.2.2.2.2.2.2.2.2.2.2.2.2.2
theorem db_L_put_0 : decode cL_put 0 = .ok (.aload_n 3, 1) ∧ decode cL_put 1 = .ok (.iconst 0, 1) ∧ decode cL_put 2 = .ok (.aload_n 0, 1) ∧ decode cL_put 3 = .ok (.iload_n 1, 1) ∧ decode cL_put 4 = .ok (.iload_n 2, 1) ∧ decode cL_put 5 = .ok (.invokevirtual 19, 3) ∧ decode cL_put 8 = .ok (.i2l, 1) ∧ decode cL_put 9 = .ok (.lastore, 1) ∧ decode cL_put 10 = .ok (.goto 15, 3) ∧ decode cL_put 13 = .ok (.astore 4, 2) ∧ decode cL_put 15 = .ok (.iconst 1, 1) ∧ decode cL_put 16 = .ok (.ireturn, 1) ∧ decode cL_put 25 = .ok (.iconst 0, 1) ∧ decode cL_put 26 = .ok (.ireturn, 1) := by decide +kernel
theorem dL_put_0 : decode cL_put 0 = .ok (.aload_n 3, 1) := db_L_put_0.1
theorem dL_put_1 : decode cL_put 1 = .ok (.iconst 0, 1) := db_L_put_0.2.1
theorem dL_put_2 : decode cL_put 2 = .ok (.aload_n 0, 1) := db_L_put_0.2.2.1
theorem dL_put_3 : decode cL_put 3 = .ok (.iload_n 1, 1) := db_L_put_0.2.2.2.1
theorem dL_put_4 : decode cL_put 4 = .ok (.iload_n 2, 1) := db_L_put_0.2.2.2.2.1
theorem dL_put_5 : decode cL_put 5 = .ok (.invokevirtual 19, 3) := db_L_put_0.2.2.2.2.2.1
theorem dL_put_8 : decode cL_put 8 = .ok (.i2l, 1) := db_L_put_0.2.2.2.2.2.2.1
theorem dL_put_9 : decode cL_put 9 = .ok (.lastore, 1) := db_L_put_0.2.2.2.2.2.2.2.1
theorem dL_put_10 : decode cL_put 10 = .ok (.goto 15, 3) := db_L_put_0.2.2.2.2.2.2.2.2.1
theorem dL_put_13 : decode cL_put 13 = .ok (.astore 4, 2) := db_L_put_0.2.2.2.2.2.2.2.2.2.1
theorem dL_put_15 : decode cL_put 15 = .ok (.iconst 1, 1) := db_L_put_0.2.2.2.2.2.2.2.2.2.2.1
theorem dL_put_16 : decode cL_put 16 = .ok (.ireturn, 1) := db_L_put_0.2.2.2.2.2.2.2.2.2.2.2.1
theorem dL_put_25 : decode cL_put 25 = .ok (.iconst 0, 1) := db_L_put_0.2.2.2.2.2.2.2.2.2.2.2.2.1
theorem dL_put_26 : decode cL_put 26 = .ok (.ireturn, 1) := db_L_put_0.2.2.2.2.2.2.2.2.2.2.2.2.2
theorem db_L_drop_0 : decode cL_drop 0 = .ok (.aload_n 3, 1) ∧ decode cL_drop 1 = .ok (.iconst 0, 1) ∧ decode cL_drop 2 = .ok (.aload_n 0, 1) ∧ decode cL_drop 3 = .ok (.iload_n 1, 1) ∧ decode cL_drop 4 = .ok (.iload_n 2, 1) ∧ decode cL_drop 5 = .ok (.invokevirtual 27, 3) ∧ decode cL_drop 8 = .ok (.i2l, 1) ∧ decode cL_drop 9 = .ok (.lastore, 1) ∧ decode cL_drop 10 = .ok (.goto 11, 3) ∧ decode cL_drop 13 = .ok (.astore 4, 2) ∧ decode cL_drop 15 = .ok (.iconst 1, 1) ∧ decode cL_drop 16 = .ok (.ireturn, 1) ∧ decode cL_drop 21 = .ok (.iconst 0, 1) ∧ decode cL_drop 22 = .ok (.ireturn, 1) := by decide +kernel
theorem dL_drop_0 : decode cL_drop 0 = .ok (.aload_n 3, 1) := db_L_drop_0.1
theorem dL_drop_1 : decode cL_drop 1 = .ok (.iconst 0, 1) := db_L_drop_0.2.1
theorem dL_drop_2 : decode cL_drop 2 = .ok (.aload_n 0, 1) := db_L_drop_0.2.2.1
theorem dL_drop_3 : decode cL_drop 3 = .ok (.iload_n 1, 1) := db_L_drop_0.2.2.2.1
theorem dL_drop_4 : decode cL_drop 4 = .ok (.iload_n 2, 1) := db_L_drop_0.2.2.2.2.1
theorem dL_drop_5 : decode cL_drop 5 = .ok (.invokevirtual 27, 3) := db_L_drop_0.2.2.2.2.2.1
theorem dL_drop_8 : decode cL_drop 8 = .ok (.i2l, 1) := db_L_drop_0.2.2.2.2.2.2.1
theorem dL_drop_9 : decode cL_drop 9 = .ok (.lastore, 1) := db_L_drop_0.2.2.2.2.2.2.2.1
theorem dL_drop_10 : decode cL_drop 10 = .ok (.goto 11, 3) := db_L_drop_0.2.2.2.2.2.2.2.2.1
theorem dL_drop_13 : decode cL_drop 13 = .ok (.astore 4, 2) := db_L_drop_0.2.2.2.2.2.2.2.2.2.1
theorem dL_drop_15 : decode cL_drop 15 = .ok (.iconst 1, 1) := db_L_drop_0.2.2.2.2.2.2.2.2.2.2.1
theorem dL_drop_16 : decode cL_drop 16 = .ok (.ireturn, 1) := db_L_drop_0.2.2.2.2.2.2.2.2.2.2.2.1
theorem dL_drop_21 : decode cL_drop 21 = .ok (.iconst 0, 1) := db_L_drop_0.2.2.2.2.2.2.2.2.2.2.2.2.1
theorem dL_drop_22 : decode cL_drop 22 = .ok (.ireturn, 1) := db_L_drop_0.2.2.2.2.2.2.2.2.2.2.2.2.2
theorem db_L_refresh_0 : decode cL_refresh 0 = .ok (.aload_n 3, 1) ∧ decode cL_refresh 1 = .ok (.iconst 0, 1) ∧ decode cL_refresh 2 = .ok (.aload_n 0, 1) ∧ decode cL_refresh 3 = .ok (.iload_n 1, 1) ∧ decode cL_refresh 4 = .ok (.iload_n 2, 1) ∧ decode cL_refresh 5 = .ok (.invokevirtual 30, 3) ∧ decode cL_refresh 8 = .ok (.i2l, 1) ∧ decode cL_refresh 9 = .ok (.lastore, 1) ∧ decode cL_refresh 10 = .ok (.goto 11, 3) ∧ decode cL_refresh 13 = .ok (.astore 4, 2) ∧ decode cL_refresh 15 = .ok (.iconst 1, 1) ∧ decode cL_refresh 16 = .ok (.ireturn, 1) ∧ decode cL_refresh 21 = .ok (.iconst 0, 1) ∧ decode cL_refresh 22 = .ok (.ireturn, 1) := by decide +kernel
theorem dL_refresh_0 : decode cL_refresh 0 = .ok (.aload_n 3, 1) := db_L_refresh_0.1
theorem dL_refresh_1 : decode cL_refresh 1 = .ok (.iconst 0, 1) := db_L_refresh_0.2.1
theorem dL_refresh_2 : decode cL_refresh 2 = .ok (.aload_n 0, 1) := db_L_refresh_0.2.2.1
theorem dL_refresh_3 : decode cL_refresh 3 = .ok (.iload_n 1, 1) := db_L_refresh_0.2.2.2.1
theorem dL_refresh_4 : decode cL_refresh 4 = .ok (.iload_n 2, 1) := db_L_refresh_0.2.2.2.2.1
theorem dL_refresh_5 : decode cL_refresh 5 = .ok (.invokevirtual 30, 3) := db_L_refresh_0.2.2.2.2.2.1
theorem dL_refresh_8 : decode cL_refresh 8 = .ok (.i2l, 1) := db_L_refresh_0.2.2.2.2.2.2.1
theorem dL_refresh_9 : decode cL_refresh 9 = .ok (.lastore, 1) := db_L_refresh_0.2.2.2.2.2.2.2.1
theorem dL_refresh_10 : decode cL_refresh 10 = .ok (.goto 11, 3) := db_L_refresh_0.2.2.2.2.2.2.2.2.1
theorem dL_refresh_13 : decode cL_refresh 13 = .ok (.astore 4, 2) := db_L_refresh_0.2.2.2.2.2.2.2.2.2.1
theorem dL_refresh_15 : decode cL_refresh 15 = .ok (.iconst 1, 1) := db_L_refresh_0.2.2.2.2.2.2.2.2.2.2.1
theorem dL_refresh_16 : decode cL_refresh 16 = .ok (.ireturn, 1) := db_L_refresh_0.2.2.2.2.2.2.2.2.2.2.2.1
theorem dL_refresh_21 : decode cL_refresh 21 = .ok (.iconst 0, 1) := db_L_refresh_0.2.2.2.2.2.2.2.2.2.2.2.2.1
theorem dL_refresh_22 : decode cL_refresh 22 = .ok (.ireturn, 1) := db_L_refresh_0.2.2.2.2.2.2.2.2.2.2.2.2.2
theorem db_L_find_0 : decode cL_find 0 = .ok (.aload_n 3, 1) ∧ decode cL_find 1 = .ok (.iconst 0, 1) ∧ decode cL_find 2 = .ok (.aload_n 0, 1) ∧ decode cL_find 3 = .ok (.iload_n 1, 1) ∧ decode cL_find 4 = .ok (.iload_n 2, 1) ∧ decode cL_find 5 = .ok (.invokevirtual 33, 3) ∧ decode cL_find 8 = .ok (.i2l, 1) ∧ decode cL_find 9 = .ok (.lastore, 1) ∧ decode cL_find 10 = .ok (.goto 15, 3) ∧ decode cL_find 13 = .ok (.astore 4, 2) ∧ decode cL_find 15 = .ok (.iconst 1, 1) ∧ decode cL_find 16 = .ok (.ireturn, 1) ∧ decode cL_find 17 = .ok (.astore 4, 2) ∧ decode cL_find 19 = .ok (.iconst 2, 1) ∧ decode cL_find 20 = .ok (.ireturn, 1) ∧ decode cL_find 25 = .ok (.iconst 0, 1) := by decide +kernel
theorem dL_find_0 : decode cL_find 0 = .ok (.aload_n 3, 1) := db_L_find_0.1
theorem dL_find_1 : decode cL_find 1 = .ok (.iconst 0, 1) := db_L_find_0.2.1
theorem dL_find_2 : decode cL_find 2 = .ok (.aload_n 0, 1) := db_L_find_0.2.2.1
theorem dL_find_3 : decode cL_find 3 = .ok (.iload_n 1, 1) := db_L_find_0.2.2.2.1
theorem dL_find_4 : decode cL_find 4 = .ok (.iload_n 2, 1) := db_L_find_0.2.2.2.2.1
theorem dL_find_5 : decode cL_find 5 = .ok (.invokevirtual 33, 3) := db_L_find_0.2.2.2.2.2.1
theorem dL_find_8 : decode cL_find 8 = .ok (.i2l, 1) := db_L_find_0.2.2.2.2.2.2.1
theorem dL_find_9 : decode cL_find 9 = .ok (.lastore, 1) := db_L_find_0.2.2.2.2.2.2.2.1
theorem dL_find_10 : decode cL_find 10 = .ok (.goto 15, 3) := db_L_find_0.2.2.2.2.2.2.2.2.1
theorem dL_find_13 : decode cL_find 13 = .ok (.astore 4, 2) := db_L_find_0.2.2.2.2.2.2.2.2.2.1
theorem dL_find_15 : decode cL_find 15 = .ok (.iconst 1, 1) := db_L_find_0.2.2.2.2.2.2.2.2.2.2.1
theorem dL_find_16 : decode cL_find 16 = .ok (.ireturn, 1) := db_L_find_0.2.2.2.2.2.2.2.2.2.2.2.1
theorem dL_find_17 : decode cL_find 17 = .ok (.astore 4, 2) := db_L_find_0.2.2.2.2.2.2.2.2.2.2.2.2.1
theorem dL_find_19 : decode cL_find 19 = .ok (.iconst 2, 1) := db_L_find_0.2.2.2.2.2.2.2.2.2.2.2.2.2.1
theorem dL_find_20 : decode cL_find 20 = .ok (.ireturn, 1) := db_L_find_0.2.2.2.2.2.2.2.2.2.2.2.2.2.2.1
theorem dL_find_25 : decode cL_find 25 = .ok (.iconst 0, 1) := db_L_find_0.2.2.2.2.2.2.2.2.2.2.2.2.2.2.2
theorem dL_find_26 : decode cL_find 26 = .ok (.ireturn, 1) := by decide +kernel
theorem db_L_request_0 : decode cL_request 0 = .ok (.aload_n 3, 1) ∧ decode cL_request 1 = .ok (.iconst 0, 1) ∧ decode cL_request 2 = .ok (.aload_n 0, 1) ∧ decode cL_request 3 = .ok (.iload_n 1, 1) ∧ decode cL_request 4 = .ok (.iload_n 2, 1) ∧ decode cL_request 5 = .ok (.invokevirtual 36, 3) ∧ decode cL_request 13 = .ok (.astore 4, 2) ∧ decode cL_request 15 = .ok (.iconst 1, 1) ∧ decode cL_request 16 = .ok (.ireturn, 1) := by decide +kernel
theorem dL_request_0 : decode cL_request 0 = .ok (.aload_n 3, 1) := db_L_request_0.1
theorem dL_request_1 : decode cL_request 1 = .ok (.iconst 0, 1) := db_L_request_0.2.1
theorem dL_request_2 : decode cL_request 2 = .ok (.aload_n 0, 1) := db_L_request_0.2.2.1
theorem dL_request_3 : decode cL_request 3 = .ok (.iload_n 1, 1) := db_L_request_0.2.2.2.1
theorem dL_request_4 : decode cL_request 4 = .ok (.iload_n 2, 1) := db_L_request_0.2.2.2.2.1
theorem dL_request_5 : decode cL_request 5 = .ok (.invokevirtual 36, 3) := db_L_request_0.2.2.2.2.2.1
theorem dL_request_13 : decode cL_request 13 = .ok (.astore 4, 2) := db_L_request_0.2.2.2.2.2.2.1
theorem dL_request_15 : decode cL_request 15 = .ok (.iconst 1, 1) := db_L_request_0.2.2.2.2.2.2.2.1
theorem dL_request_16 : decode cL_request 16 = .ok (.ireturn, 1) := db_L_request_0.2.2.2.2.2.2.2.2
theorem db_L_hit_0 : decode cL_hit 0 = .ok (.aload 4, 2) ∧ decode cL_hit 2 = .ok (.iconst 0, 1) ∧ decode cL_hit 3 = .ok (.aload_n 0, 1) ∧ decode cL_hit 4 = .ok (.iload_n 1, 1) ∧ decode cL_hit 5 = .ok (.iload_n 2, 1) ∧ decode cL_hit 6 = .ok (.iload_n 3, 1) ∧ decode cL_hit 7 = .ok (.invokevirtual 39, 3) ∧ decode cL_hit 15 = .ok (.astore 5, 2) ∧ decode cL_hit 17 = .ok (.iconst 1, 1) ∧ decode cL_hit 18 = .ok (.ireturn, 1) := by decide +kernel
theorem dL_hit_0 : decode cL_hit 0 = .ok (.aload 4, 2) := db_L_hit_0.1
theorem dL_hit_2 : decode cL_hit 2 = .ok (.iconst 0, 1) := db_L_hit_0.2.1
theorem dL_hit_3 : decode cL_hit 3 = .ok (.aload_n 0, 1) := db_L_hit_0.2.2.1
theorem dL_hit_4 : decode cL_hit 4 = .ok (.iload_n 1, 1) := db_L_hit_0.2.2.2.1
theorem dL_hit_5 : decode cL_hit 5 = .ok (.iload_n 2, 1) := db_L_hit_0.2.2.2.2.1
theorem dL_hit_6 : decode cL_hit 6 = .ok (.iload_n 3, 1) := db_L_hit_0.2.2.2.2.2.1
theorem dL_hit_7 : decode cL_hit 7 = .ok (.invokevirtual 39, 3) := db_L_hit_0.2.2.2.2.2.2.1
theorem dL_hit_15 : decode cL_hit 15 = .ok (.astore 5, 2) := db_L_hit_0.2.2.2.2.2.2.2.1
theorem dL_hit_17 : decode cL_hit 17 = .ok (.iconst 1, 1) := db_L_hit_0.2.2.2.2.2.2.2.2.1
theorem dL_hit_18 : decode cL_hit 18 = .ok (.ireturn, 1) := db_L_hit_0.2.2.2.2.2.2.2.2.2
theorem db_L_link_0 : decode cL_link 0 = .ok (.aload_n 3, 1) ∧ decode cL_link 1 = .ok (.iconst 0, 1) ∧ decode cL_link 2 = .ok (.aload_n 0, 1) ∧ decode cL_link 3 = .ok (.iload_n 1, 1) ∧ decode cL_link 4 = .ok (.iload_n 2, 1) ∧ decode cL_link 5 = .ok (.invokevirtual 42, 3) ∧ decode cL_link 8 = .ok (.i2l, 1) ∧ decode cL_link 9 = .ok (.lastore, 1) ∧ decode cL_link 10 = .ok (.goto 7, 3) ∧ decode cL_link 13 = .ok (.astore 4, 2) ∧ decode cL_link 15 = .ok (.iconst 1, 1) ∧ decode cL_link 16 = .ok (.ireturn, 1) ∧ decode cL_link 17 = .ok (.iconst 0, 1) ∧ decode cL_link 18 = .ok (.ireturn, 1) := by decide +kernel
theorem dL_link_0 : decode cL_link 0 = .ok (.aload_n 3, 1) := db_L_link_0.1
theorem dL_link_1 : decode cL_link 1 = .ok (.iconst 0, 1) := db_L_link_0.2.1
theorem dL_link_2 : decode cL_link 2 = .ok (.aload_n 0, 1) := db_L_link_0.2.2.1
theorem dL_link_3 : decode cL_link 3 = .ok (.iload_n 1, 1) := db_L_link_0.2.2.2.1
theorem dL_link_4 : decode cL_link 4 = .ok (.iload_n 2, 1) := db_L_link_0.2.2.2.2.1
theorem dL_link_5 : decode cL_link 5 = .ok (.invokevirtual 42, 3) := db_L_link_0.2.2.2.2.2.1
theorem dL_link_8 : decode cL_link 8 = .ok (.i2l, 1) := db_L_link_0.2.2.2.2.2.2.1
theorem dL_link_9 : decode cL_link 9 = .ok (.lastore, 1) := db_L_link_0.2.2.2.2.2.2.2.1
theorem dL_link_10 : decode cL_link 10 = .ok (.goto 7, 3) := db_L_link_0.2.2.2.2.2.2.2.2.1
theorem dL_link_13 : decode cL_link 13 = .ok (.astore 4, 2) := db_L_link_0.2.2.2.2.2.2.2.2.2.1
theorem dL_link_15 : decode cL_link 15 = .ok (.iconst 1, 1) := db_L_link_0.2.2.2.2.2.2.2.2.2.2.1
theorem dL_link_16 : decode cL_link 16 = .ok (.ireturn, 1) := db_L_link_0.2.2.2.2.2.2.2.2.2.2.2.1
theorem dL_link_17 : decode cL_link 17 = .ok (.iconst 0, 1) := db_L_link_0.2.2.2.2.2.2.2.2.2.2.2.2.1
theorem dL_link_18 : decode cL_link 18 = .ok (.ireturn, 1) := db_L_link_0.2.2.2.2.2.2.2.2.2.2.2.2.2
theorem db_L_message_0 : decode cL_message 0 = .ok (.aload 5, 2) ∧ decode cL_message 2 = .ok (.iconst 0, 1) ∧ decode cL_message 3 = .ok (.aload_n 0, 1) ∧ decode cL_message 4 = .ok (.iload_n 1, 1) ∧ decode cL_message 5 = .ok (.iload_n 2, 1) ∧ decode cL_message 6 = .ok (.iload_n 3, 1) ∧ decode cL_message 7 = .ok (.iload 4, 2) ∧ decode cL_message 9 = .ok (.invokevirtual 45, 3) ∧ decode cL_message 17 = .ok (.astore 6, 2) ∧ decode cL_message 19 = .ok (.iconst 1, 1) ∧ decode cL_message 20 = .ok (.ireturn, 1) := by decide +kernel
theorem dL_message_0 : decode cL_message 0 = .ok (.aload 5, 2) := db_L_message_0.1
theorem dL_message_2 : decode cL_message 2 = .ok (.iconst 0, 1) := db_L_message_0.2.1
theorem dL_message_3 : decode cL_message 3 = .ok (.aload_n 0, 1) := db_L_message_0.2.2.1
theorem dL_message_4 : decode cL_message 4 = .ok (.iload_n 1, 1) := db_L_message_0.2.2.2.1
theorem dL_message_5 : decode cL_message 5 = .ok (.iload_n 2, 1) := db_L_message_0.2.2.2.2.1
theorem dL_message_6 : decode cL_message 6 = .ok (.iload_n 3, 1) := db_L_message_0.2.2.2.2.2.1
theorem dL_message_7 : decode cL_message 7 = .ok (.iload 4, 2) := db_L_message_0.2.2.2.2.2.2.1
theorem dL_message_9 : decode cL_message 9 = .ok (.invokevirtual 45, 3) := db_L_message_0.2.2.2.2.2.2.2.1
theorem dL_message_17 : decode cL_message 17 = .ok (.astore 6, 2) := db_L_message_0.2.2.2.2.2.2.2.2.1
theorem dL_message_19 : decode cL_message 19 = .ok (.iconst 1, 1) := db_L_message_0.2.2.2.2.2.2.2.2.2.1
theorem dL_message_20 : decode cL_message 20 = .ok (.ireturn, 1) := db_L_message_0.2.2.2.2.2.2.2.2.2.2
theorem db_L_deliver_0 : decode cL_deliver 0 = .ok (.aload_n 3, 1) ∧ decode cL_deliver 1 = .ok (.iconst 0, 1) ∧ decode cL_deliver 2 = .ok (.aload_n 0, 1) ∧ decode cL_deliver 3 = .ok (.iload_n 1, 1) ∧ decode cL_deliver 4 = .ok (.iload_n 2, 1) ∧ decode cL_deliver 5 = .ok (.invokevirtual 49, 3) ∧ decode cL_deliver 8 = .ok (.i2l, 1) ∧ decode cL_deliver 9 = .ok (.lastore, 1) ∧ decode cL_deliver 10 = .ok (.goto 7, 3) ∧ decode cL_deliver 13 = .ok (.astore 4, 2) ∧ decode cL_deliver 15 = .ok (.iconst 1, 1) ∧ decode cL_deliver 16 = .ok (.ireturn, 1) ∧ decode cL_deliver 17 = .ok (.iconst 0, 1) ∧ decode cL_deliver 18 = .ok (.ireturn, 1) := by decide +kernel
theorem dL_deliver_0 : decode cL_deliver 0 = .ok (.aload_n 3, 1) := db_L_deliver_0.1
theorem dL_deliver_1 : decode cL_deliver 1 = .ok (.iconst 0, 1) := db_L_deliver_0.2.1
theorem dL_deliver_2 : decode cL_deliver 2 = .ok (.aload_n 0, 1) := db_L_deliver_0.2.2.1
theorem dL_deliver_3 : decode cL_deliver 3 = .ok (.iload_n 1, 1) := db_L_deliver_0.2.2.2.1
theorem dL_deliver_4 : decode cL_deliver 4 = .ok (.iload_n 2, 1) := db_L_deliver_0.2.2.2.2.1
theorem dL_deliver_5 : decode cL_deliver 5 = .ok (.invokevirtual 49, 3) := db_L_deliver_0.2.2.2.2.2.1
theorem dL_deliver_8 : decode cL_deliver 8 = .ok (.i2l, 1) := db_L_deliver_0.2.2.2.2.2.2.1
theorem dL_deliver_9 : decode cL_deliver 9 = .ok (.lastore, 1) := db_L_deliver_0.2.2.2.2.2.2.2.1
theorem dL_deliver_10 : decode cL_deliver 10 = .ok (.goto 7, 3) := db_L_deliver_0.2.2.2.2.2.2.2.2.1
theorem dL_deliver_13 : decode cL_deliver 13 = .ok (.astore 4, 2) := db_L_deliver_0.2.2.2.2.2.2.2.2.2.1
theorem dL_deliver_15 : decode cL_deliver 15 = .ok (.iconst 1, 1) := db_L_deliver_0.2.2.2.2.2.2.2.2.2.2.1
theorem dL_deliver_16 : decode cL_deliver 16 = .ok (.ireturn, 1) := db_L_deliver_0.2.2.2.2.2.2.2.2.2.2.2.1
theorem dL_deliver_17 : decode cL_deliver 17 = .ok (.iconst 0, 1) := db_L_deliver_0.2.2.2.2.2.2.2.2.2.2.2.2.1
theorem dL_deliver_18 : decode cL_deliver 18 = .ok (.ireturn, 1) := db_L_deliver_0.2.2.2.2.2.2.2.2.2.2.2.2.2
theorem db_L_lose_0 : decode cL_lose 0 = .ok (.aload_n 3, 1) ∧ decode cL_lose 1 = .ok (.iconst 0, 1) ∧ decode cL_lose 2 = .ok (.aload_n 0, 1) ∧ decode cL_lose 3 = .ok (.iload_n 1, 1) ∧ decode cL_lose 4 = .ok (.iload_n 2, 1) ∧ decode cL_lose 5 = .ok (.invokevirtual 52, 3) ∧ decode cL_lose 8 = .ok (.i2l, 1) ∧ decode cL_lose 9 = .ok (.lastore, 1) ∧ decode cL_lose 10 = .ok (.goto 7, 3) ∧ decode cL_lose 13 = .ok (.astore 4, 2) ∧ decode cL_lose 15 = .ok (.iconst 1, 1) ∧ decode cL_lose 16 = .ok (.ireturn, 1) ∧ decode cL_lose 17 = .ok (.iconst 0, 1) ∧ decode cL_lose 18 = .ok (.ireturn, 1) := by decide +kernel
theorem dL_lose_0 : decode cL_lose 0 = .ok (.aload_n 3, 1) := db_L_lose_0.1
theorem dL_lose_1 : decode cL_lose 1 = .ok (.iconst 0, 1) := db_L_lose_0.2.1
theorem dL_lose_2 : decode cL_lose 2 = .ok (.aload_n 0, 1) := db_L_lose_0.2.2.1
theorem dL_lose_3 : decode cL_lose 3 = .ok (.iload_n 1, 1) := db_L_lose_0.2.2.2.1
theorem dL_lose_4 : decode cL_lose 4 = .ok (.iload_n 2, 1) := db_L_lose_0.2.2.2.2.1
theorem dL_lose_5 : decode cL_lose 5 = .ok (.invokevirtual 52, 3) := db_L_lose_0.2.2.2.2.2.1
theorem dL_lose_8 : decode cL_lose 8 = .ok (.i2l, 1) := db_L_lose_0.2.2.2.2.2.2.1
theorem dL_lose_9 : decode cL_lose 9 = .ok (.lastore, 1) := db_L_lose_0.2.2.2.2.2.2.2.1
theorem dL_lose_10 : decode cL_lose 10 = .ok (.goto 7, 3) := db_L_lose_0.2.2.2.2.2.2.2.2.1
theorem dL_lose_13 : decode cL_lose 13 = .ok (.astore 4, 2) := db_L_lose_0.2.2.2.2.2.2.2.2.2.1
theorem dL_lose_15 : decode cL_lose 15 = .ok (.iconst 1, 1) := db_L_lose_0.2.2.2.2.2.2.2.2.2.2.1
theorem dL_lose_16 : decode cL_lose 16 = .ok (.ireturn, 1) := db_L_lose_0.2.2.2.2.2.2.2.2.2.2.2.1
theorem dL_lose_17 : decode cL_lose 17 = .ok (.iconst 0, 1) := db_L_lose_0.2.2.2.2.2.2.2.2.2.2.2.2.1
theorem dL_lose_18 : decode cL_lose 18 = .ok (.ireturn, 1) := db_L_lose_0.2.2.2.2.2.2.2.2.2.2.2.2.2
theorem db_L_run_0 : decode cL_run 0 = .ok (.aload_n 2, 1) ∧ decode cL_run 1 = .ok (.iconst 0, 1) ∧ decode cL_run 2 = .ok (.aload_n 0, 1) ∧ decode cL_run 3 = .ok (.iload_n 1, 1) ∧ decode cL_run 4 = .ok (.invokevirtual 55, 3) ∧ decode cL_run 7 = .ok (.i2l, 1) ∧ decode cL_run 8 = .ok (.lastore, 1) ∧ decode cL_run 9 = .ok (.goto 6, 3) ∧ decode cL_run 12 = .ok (.astore_n 3, 1) ∧ decode cL_run 13 = .ok (.iconst 1, 1) ∧ decode cL_run 14 = .ok (.ireturn, 1) ∧ decode cL_run 15 = .ok (.iconst 0, 1) ∧ decode cL_run 16 = .ok (.ireturn, 1) := by decide +kernel
theorem dL_run_0 : decode cL_run 0 = .ok (.aload_n 2, 1) := db_L_run_0.1
theorem dL_run_1 : decode cL_run 1 = .ok (.iconst 0, 1) := db_L_run_0.2.1
theorem dL_run_2 : decode cL_run 2 = .ok (.aload_n 0, 1) := db_L_run_0.2.2.1
theorem dL_run_3 : decode cL_run 3 = .ok (.iload_n 1, 1) := db_L_run_0.2.2.2.1
theorem dL_run_4 : decode cL_run 4 = .ok (.invokevirtual 55, 3) := db_L_run_0.2.2.2.2.1
theorem dL_run_7 : decode cL_run 7 = .ok (.i2l, 1) := db_L_run_0.2.2.2.2.2.1
theorem dL_run_8 : decode cL_run 8 = .ok (.lastore, 1) := db_L_run_0.2.2.2.2.2.2.1
theorem dL_run_9 : decode cL_run 9 = .ok (.goto 6, 3) := db_L_run_0.2.2.2.2.2.2.2.1
theorem dL_run_12 : decode cL_run 12 = .ok (.astore_n 3, 1) := db_L_run_0.2.2.2.2.2.2.2.2.1
theorem dL_run_13 : decode cL_run 13 = .ok (.iconst 1, 1) := db_L_run_0.2.2.2.2.2.2.2.2.2.1
theorem dL_run_14 : decode cL_run 14 = .ok (.ireturn, 1) := db_L_run_0.2.2.2.2.2.2.2.2.2.2.1
theorem dL_run_15 : decode cL_run 15 = .ok (.iconst 0, 1) := db_L_run_0.2.2.2.2.2.2.2.2.2.2.2.1
theorem dL_run_16 : decode cL_run 16 = .ok (.ireturn, 1) := db_L_run_0.2.2.2.2.2.2.2.2.2.2.2.2
theorem db_L_up_0 : decode cL_up 0 = .ok (.aload_n 2, 1) ∧ decode cL_up 1 = .ok (.iconst 0, 1) ∧ decode cL_up 2 = .ok (.aload_n 0, 1) ∧ decode cL_up 3 = .ok (.iload_n 1, 1) ∧ decode cL_up 4 = .ok (.invokevirtual 59, 3) ∧ decode cL_up 7 = .ok (.ifCond .eq 7, 3) ∧ decode cL_up 10 = .ok (.lconst 1, 1) ∧ decode cL_up 11 = .ok (.goto 4, 3) ∧ decode cL_up 15 = .ok (.lastore, 1) ∧ decode cL_up 16 = .ok (.goto 6, 3) ∧ decode cL_up 19 = .ok (.astore_n 3, 1) ∧ decode cL_up 20 = .ok (.iconst 1, 1) ∧ decode cL_up 21 = .ok (.ireturn, 1) ∧ decode cL_up 22 = .ok (.iconst 0, 1) ∧ decode cL_up 23 = .ok (.ireturn, 1) := by decide +kernel
theorem dL_up_0 : decode cL_up 0 = .ok (.aload_n 2, 1) := db_L_up_0.1
theorem dL_up_1 : decode cL_up 1 = .ok (.iconst 0, 1) := db_L_up_0.2.1
theorem dL_up_2 : decode cL_up 2 = .ok (.aload_n 0, 1) := db_L_up_0.2.2.1
theorem dL_up_3 : decode cL_up 3 = .ok (.iload_n 1, 1) := db_L_up_0.2.2.2.1
theorem dL_up_4 : decode cL_up 4 = .ok (.invokevirtual 59, 3) := db_L_up_0.2.2.2.2.1
theorem dL_up_7 : decode cL_up 7 = .ok (.ifCond .eq 7, 3) := db_L_up_0.2.2.2.2.2.1
theorem dL_up_10 : decode cL_up 10 = .ok (.lconst 1, 1) := db_L_up_0.2.2.2.2.2.2.1
theorem dL_up_11 : decode cL_up 11 = .ok (.goto 4, 3) := db_L_up_0.2.2.2.2.2.2.2.1
theorem dL_up_15 : decode cL_up 15 = .ok (.lastore, 1) := db_L_up_0.2.2.2.2.2.2.2.2.1
theorem dL_up_16 : decode cL_up 16 = .ok (.goto 6, 3) := db_L_up_0.2.2.2.2.2.2.2.2.2.1
theorem dL_up_19 : decode cL_up 19 = .ok (.astore_n 3, 1) := db_L_up_0.2.2.2.2.2.2.2.2.2.2.1
theorem dL_up_20 : decode cL_up 20 = .ok (.iconst 1, 1) := db_L_up_0.2.2.2.2.2.2.2.2.2.2.2.1
theorem dL_up_21 : decode cL_up 21 = .ok (.ireturn, 1) := db_L_up_0.2.2.2.2.2.2.2.2.2.2.2.2.1
theorem dL_up_22 : decode cL_up 22 = .ok (.iconst 0, 1) := db_L_up_0.2.2.2.2.2.2.2.2.2.2.2.2.2.1
theorem dL_up_23 : decode cL_up 23 = .ok (.ireturn, 1) := db_L_up_0.2.2.2.2.2.2.2.2.2.2.2.2.2.2
theorem db_L_down_0 : decode cL_down 0 = .ok (.aload_n 2, 1) ∧ decode cL_down 1 = .ok (.iconst 0, 1) ∧ decode cL_down 2 = .ok (.aload_n 0, 1) ∧ decode cL_down 3 = .ok (.iload_n 1, 1) ∧ decode cL_down 4 = .ok (.invokevirtual 63, 3) ∧ decode cL_down 7 = .ok (.i2l, 1) ∧ decode cL_down 8 = .ok (.lastore, 1) ∧ decode cL_down 9 = .ok (.goto 6, 3) ∧ decode cL_down 12 = .ok (.astore_n 3, 1) ∧ decode cL_down 13 = .ok (.iconst 1, 1) ∧ decode cL_down 14 = .ok (.ireturn, 1) ∧ decode cL_down 15 = .ok (.iconst 0, 1) ∧ decode cL_down 16 = .ok (.ireturn, 1) := by decide +kernel
theorem dL_down_0 : decode cL_down 0 = .ok (.aload_n 2, 1) := db_L_down_0.1
theorem dL_down_1 : decode cL_down 1 = .ok (.iconst 0, 1) := db_L_down_0.2.1
theorem dL_down_2 : decode cL_down 2 = .ok (.aload_n 0, 1) := db_L_down_0.2.2.1
theorem dL_down_3 : decode cL_down 3 = .ok (.iload_n 1, 1) := db_L_down_0.2.2.2.1
theorem dL_down_4 : decode cL_down 4 = .ok (.invokevirtual 63, 3) := db_L_down_0.2.2.2.2.1
theorem dL_down_7 : decode cL_down 7 = .ok (.i2l, 1) := db_L_down_0.2.2.2.2.2.1
theorem dL_down_8 : decode cL_down 8 = .ok (.lastore, 1) := db_L_down_0.2.2.2.2.2.2.1
theorem dL_down_9 : decode cL_down 9 = .ok (.goto 6, 3) := db_L_down_0.2.2.2.2.2.2.2.1
theorem dL_down_12 : decode cL_down 12 = .ok (.astore_n 3, 1) := db_L_down_0.2.2.2.2.2.2.2.2.1
theorem dL_down_13 : decode cL_down 13 = .ok (.iconst 1, 1) := db_L_down_0.2.2.2.2.2.2.2.2.2.1
theorem dL_down_14 : decode cL_down 14 = .ok (.ireturn, 1) := db_L_down_0.2.2.2.2.2.2.2.2.2.2.1
theorem dL_down_15 : decode cL_down 15 = .ok (.iconst 0, 1) := db_L_down_0.2.2.2.2.2.2.2.2.2.2.2.1
theorem dL_down_16 : decode cL_down 16 = .ok (.ireturn, 1) := db_L_down_0.2.2.2.2.2.2.2.2.2.2.2.2
theorem db_L_start_0 : decode cL_start 0 = .ok (.aload_n 2, 1) ∧ decode cL_start 1 = .ok (.iconst 0, 1) ∧ decode cL_start 2 = .ok (.aload_n 0, 1) ∧ decode cL_start 3 = .ok (.iload_n 1, 1) ∧ decode cL_start 4 = .ok (.invokevirtual 66, 3) ∧ decode cL_start 19 = .ok (.astore_n 3, 1) ∧ decode cL_start 20 = .ok (.iconst 1, 1) ∧ decode cL_start 21 = .ok (.ireturn, 1) ∧ decode cL_start 22 = .ok (.astore_n 3, 1) ∧ decode cL_start 23 = .ok (.iconst 2, 1) ∧ decode cL_start 24 = .ok (.ireturn, 1) := by decide +kernel
theorem dL_start_0 : decode cL_start 0 = .ok (.aload_n 2, 1) := db_L_start_0.1
theorem dL_start_1 : decode cL_start 1 = .ok (.iconst 0, 1) := db_L_start_0.2.1
theorem dL_start_2 : decode cL_start 2 = .ok (.aload_n 0, 1) := db_L_start_0.2.2.1
theorem dL_start_3 : decode cL_start 3 = .ok (.iload_n 1, 1) := db_L_start_0.2.2.2.1
theorem dL_start_4 : decode cL_start 4 = .ok (.invokevirtual 66, 3) := db_L_start_0.2.2.2.2.1
theorem dL_start_19 : decode cL_start 19 = .ok (.astore_n 3, 1) := db_L_start_0.2.2.2.2.2.1
theorem dL_start_20 : decode cL_start 20 = .ok (.iconst 1, 1) := db_L_start_0.2.2.2.2.2.2.1
theorem dL_start_21 : decode cL_start 21 = .ok (.ireturn, 1) := db_L_start_0.2.2.2.2.2.2.2.1
theorem dL_start_22 : decode cL_start 22 = .ok (.astore_n 3, 1) := db_L_start_0.2.2.2.2.2.2.2.2.1
theorem dL_start_23 : decode cL_start 23 = .ok (.iconst 2, 1) := db_L_start_0.2.2.2.2.2.2.2.2.2.1
theorem dL_start_24 : decode cL_start 24 = .ok (.ireturn, 1) := db_L_start_0.2.2.2.2.2.2.2.2.2.2
theorem db_L_fail_0 : decode cL_fail 0 = .ok (.aload_n 0, 1) ∧ decode cL_fail 1 = .ok (.iload_n 1, 1) ∧ decode cL_fail 2 = .ok (.iload_n 2, 1) ∧ decode cL_fail 3 = .ok (.iload_n 3, 1) ∧ decode cL_fail 4 = .ok (.invokevirtual 69, 3) ∧ decode cL_fail 7 = .ok (.goto 11, 3) ∧ decode cL_fail 10 = .ok (.astore 4, 2) ∧ decode cL_fail 12 = .ok (.iconst 1, 1) ∧ decode cL_fail 13 = .ok (.ireturn, 1) ∧ decode cL_fail 14 = .ok (.astore 4, 2) ∧ decode cL_fail 16 = .ok (.iconst 2, 1) ∧ decode cL_fail 17 = .ok (.ireturn, 1) ∧ decode cL_fail 18 = .ok (.iconst 0, 1) ∧ decode cL_fail 19 = .ok (.ireturn, 1) := by decide +kernel
theorem dL_fail_0 : decode cL_fail 0 = .ok (.aload_n 0, 1) := db_L_fail_0.1
theorem dL_fail_1 : decode cL_fail 1 = .ok (.iload_n 1, 1) := db_L_fail_0.2.1
theorem dL_fail_2 : decode cL_fail 2 = .ok (.iload_n 2, 1) := db_L_fail_0.2.2.1
theorem dL_fail_3 : decode cL_fail 3 = .ok (.iload_n 3, 1) := db_L_fail_0.2.2.2.1
theorem dL_fail_4 : decode cL_fail 4 = .ok (.invokevirtual 69, 3) := db_L_fail_0.2.2.2.2.1
theorem dL_fail_7 : decode cL_fail 7 = .ok (.goto 11, 3) := db_L_fail_0.2.2.2.2.2.1
theorem dL_fail_10 : decode cL_fail 10 = .ok (.astore 4, 2) := db_L_fail_0.2.2.2.2.2.2.1
theorem dL_fail_12 : decode cL_fail 12 = .ok (.iconst 1, 1) := db_L_fail_0.2.2.2.2.2.2.2.1
theorem dL_fail_13 : decode cL_fail 13 = .ok (.ireturn, 1) := db_L_fail_0.2.2.2.2.2.2.2.2.1
theorem dL_fail_14 : decode cL_fail 14 = .ok (.astore 4, 2) := db_L_fail_0.2.2.2.2.2.2.2.2.2.1
theorem dL_fail_16 : decode cL_fail 16 = .ok (.iconst 2, 1) := db_L_fail_0.2.2.2.2.2.2.2.2.2.2.1
theorem dL_fail_17 : decode cL_fail 17 = .ok (.ireturn, 1) := db_L_fail_0.2.2.2.2.2.2.2.2.2.2.2.1
theorem dL_fail_18 : decode cL_fail 18 = .ok (.iconst 0, 1) := db_L_fail_0.2.2.2.2.2.2.2.2.2.2.2.2.1
theorem dL_fail_19 : decode cL_fail 19 = .ok (.ireturn, 1) := db_L_fail_0.2.2.2.2.2.2.2.2.2.2.2.2.2
theorem db_L_copy_0 : decode cL_copy 0 = .ok (.aload 4, 2) ∧ decode cL_copy 2 = .ok (.iconst 0, 1) ∧ decode cL_copy 3 = .ok (.aload_n 0, 1) ∧ decode cL_copy 4 = .ok (.iload_n 1, 1) ∧ decode cL_copy 5 = .ok (.iload_n 2, 1) ∧ decode cL_copy 6 = .ok (.iload_n 3, 1) ∧ decode cL_copy 7 = .ok (.invokevirtual 73, 3) ∧ decode cL_copy 10 = .ok (.i2l, 1) ∧ decode cL_copy 11 = .ok (.lastore, 1) ∧ decode cL_copy 12 = .ok (.goto 7, 3) ∧ decode cL_copy 15 = .ok (.astore 5, 2) ∧ decode cL_copy 17 = .ok (.iconst 1, 1) ∧ decode cL_copy 18 = .ok (.ireturn, 1) ∧ decode cL_copy 19 = .ok (.iconst 0, 1) ∧ decode cL_copy 20 = .ok (.ireturn, 1) := by decide +kernel
theorem dL_copy_0 : decode cL_copy 0 = .ok (.aload 4, 2) := db_L_copy_0.1
theorem dL_copy_2 : decode cL_copy 2 = .ok (.iconst 0, 1) := db_L_copy_0.2.1
theorem dL_copy_3 : decode cL_copy 3 = .ok (.aload_n 0, 1) := db_L_copy_0.2.2.1
theorem dL_copy_4 : decode cL_copy 4 = .ok (.iload_n 1, 1) := db_L_copy_0.2.2.2.1
theorem dL_copy_5 : decode cL_copy 5 = .ok (.iload_n 2, 1) := db_L_copy_0.2.2.2.2.1
theorem dL_copy_6 : decode cL_copy 6 = .ok (.iload_n 3, 1) := db_L_copy_0.2.2.2.2.2.1
theorem dL_copy_7 : decode cL_copy 7 = .ok (.invokevirtual 73, 3) := db_L_copy_0.2.2.2.2.2.2.1
theorem dL_copy_10 : decode cL_copy 10 = .ok (.i2l, 1) := db_L_copy_0.2.2.2.2.2.2.2.1
theorem dL_copy_11 : decode cL_copy 11 = .ok (.lastore, 1) := db_L_copy_0.2.2.2.2.2.2.2.2.1
theorem dL_copy_12 : decode cL_copy 12 = .ok (.goto 7, 3) := db_L_copy_0.2.2.2.2.2.2.2.2.2.1
theorem dL_copy_15 : decode cL_copy 15 = .ok (.astore 5, 2) := db_L_copy_0.2.2.2.2.2.2.2.2.2.2.1
theorem dL_copy_17 : decode cL_copy 17 = .ok (.iconst 1, 1) := db_L_copy_0.2.2.2.2.2.2.2.2.2.2.2.1
theorem dL_copy_18 : decode cL_copy 18 = .ok (.ireturn, 1) := db_L_copy_0.2.2.2.2.2.2.2.2.2.2.2.2.1
theorem dL_copy_19 : decode cL_copy 19 = .ok (.iconst 0, 1) := db_L_copy_0.2.2.2.2.2.2.2.2.2.2.2.2.2.1
theorem dL_copy_20 : decode cL_copy 20 = .ok (.ireturn, 1) := db_L_copy_0.2.2.2.2.2.2.2.2.2.2.2.2.2.2
theorem db_L_other_0 : decode cL_other 0 = .ok (.aload 5, 2) ∧ decode cL_other 2 = .ok (.iconst 0, 1) ∧ decode cL_other 3 = .ok (.aload_n 0, 1) ∧ decode cL_other 4 = .ok (.iload_n 1, 1) ∧ decode cL_other 5 = .ok (.iload_n 2, 1) ∧ decode cL_other 6 = .ok (.iload_n 3, 1) ∧ decode cL_other 7 = .ok (.iload 4, 2) ∧ decode cL_other 9 = .ok (.invokevirtual 76, 3) ∧ decode cL_other 12 = .ok (.i2l, 1) ∧ decode cL_other 13 = .ok (.lastore, 1) ∧ decode cL_other 14 = .ok (.goto 7, 3) ∧ decode cL_other 17 = .ok (.astore 6, 2) ∧ decode cL_other 19 = .ok (.iconst 1, 1) ∧ decode cL_other 20 = .ok (.ireturn, 1) ∧ decode cL_other 21 = .ok (.iconst 0, 1) ∧ decode cL_other 22 = .ok (.ireturn, 1) := by decide +kernel
theorem dL_other_0 : decode cL_other 0 = .ok (.aload 5, 2) := db_L_other_0.1
theorem dL_other_2 : decode cL_other 2 = .ok (.iconst 0, 1) := db_L_other_0.2.1
theorem dL_other_3 : decode cL_other 3 = .ok (.aload_n 0, 1) := db_L_other_0.2.2.1
theorem dL_other_4 : decode cL_other 4 = .ok (.iload_n 1, 1) := db_L_other_0.2.2.2.1
theorem dL_other_5 : decode cL_other 5 = .ok (.iload_n 2, 1) := db_L_other_0.2.2.2.2.1
theorem dL_other_6 : decode cL_other 6 = .ok (.iload_n 3, 1) := db_L_other_0.2.2.2.2.2.1
theorem dL_other_7 : decode cL_other 7 = .ok (.iload 4, 2) := db_L_other_0.2.2.2.2.2.2.1
theorem dL_other_9 : decode cL_other 9 = .ok (.invokevirtual 76, 3) := db_L_other_0.2.2.2.2.2.2.2.1
theorem dL_other_12 : decode cL_other 12 = .ok (.i2l, 1) := db_L_other_0.2.2.2.2.2.2.2.2.1
theorem dL_other_13 : decode cL_other 13 = .ok (.lastore, 1) := db_L_other_0.2.2.2.2.2.2.2.2.2.1
theorem dL_other_14 : decode cL_other 14 = .ok (.goto 7, 3) := db_L_other_0.2.2.2.2.2.2.2.2.2.2.1
theorem dL_other_17 : decode cL_other 17 = .ok (.astore 6, 2) := db_L_other_0.2.2.2.2.2.2.2.2.2.2.2.1
theorem dL_other_19 : decode cL_other 19 = .ok (.iconst 1, 1) := db_L_other_0.2.2.2.2.2.2.2.2.2.2.2.2.1
theorem dL_other_20 : decode cL_other 20 = .ok (.ireturn, 1) := db_L_other_0.2.2.2.2.2.2.2.2.2.2.2.2.2.1
theorem dL_other_21 : decode cL_other 21 = .ok (.iconst 0, 1) := db_L_other_0.2.2.2.2.2.2.2.2.2.2.2.2.2.2.1
theorem dL_other_22 : decode cL_other 22 = .ok (.ireturn, 1) := db_L_other_0.2.2.2.2.2.2.2.2.2.2.2.2.2.2.2
theorem db_L_view_0 : decode cL_view 0 = .ok (.aload 4, 2) ∧ decode cL_view 2 = .ok (.iconst 0, 1) ∧ decode cL_view 3 = .ok (.aload_n 0, 1) ∧ decode cL_view 4 = .ok (.iload_n 1, 1) ∧ decode cL_view 5 = .ok (.iload_n 2, 1) ∧ decode cL_view 6 = .ok (.iload_n 3, 1) ∧ decode cL_view 7 = .ok (.invokevirtual 79, 3) ∧ decode cL_view 10 = .ok (.i2l, 1) ∧ decode cL_view 11 = .ok (.lastore, 1) ∧ decode cL_view 12 = .ok (.goto 7, 3) ∧ decode cL_view 15 = .ok (.astore 5, 2) ∧ decode cL_view 17 = .ok (.iconst 1, 1) ∧ decode cL_view 18 = .ok (.ireturn, 1) ∧ decode cL_view 19 = .ok (.iconst 0, 1) ∧ decode cL_view 20 = .ok (.ireturn, 1) := by decide +kernel
theorem dL_view_0 : decode cL_view 0 = .ok (.aload 4, 2) := db_L_view_0.1
theorem dL_view_2 : decode cL_view 2 = .ok (.iconst 0, 1) := db_L_view_0.2.1
theorem dL_view_3 : decode cL_view 3 = .ok (.aload_n 0, 1) := db_L_view_0.2.2.1
theorem dL_view_4 : decode cL_view 4 = .ok (.iload_n 1, 1) := db_L_view_0.2.2.2.1
theorem dL_view_5 : decode cL_view 5 = .ok (.iload_n 2, 1) := db_L_view_0.2.2.2.2.1
theorem dL_view_6 : decode cL_view 6 = .ok (.iload_n 3, 1) := db_L_view_0.2.2.2.2.2.1
theorem dL_view_7 : decode cL_view 7 = .ok (.invokevirtual 79, 3) := db_L_view_0.2.2.2.2.2.2.1
theorem dL_view_10 : decode cL_view 10 = .ok (.i2l, 1) := db_L_view_0.2.2.2.2.2.2.2.1
theorem dL_view_11 : decode cL_view 11 = .ok (.lastore, 1) := db_L_view_0.2.2.2.2.2.2.2.2.1
theorem dL_view_12 : decode cL_view 12 = .ok (.goto 7, 3) := db_L_view_0.2.2.2.2.2.2.2.2.2.1
theorem dL_view_15 : decode cL_view 15 = .ok (.astore 5, 2) := db_L_view_0.2.2.2.2.2.2.2.2.2.2.1
theorem dL_view_17 : decode cL_view 17 = .ok (.iconst 1, 1) := db_L_view_0.2.2.2.2.2.2.2.2.2.2.2.1
theorem dL_view_18 : decode cL_view 18 = .ok (.ireturn, 1) := db_L_view_0.2.2.2.2.2.2.2.2.2.2.2.2.1
theorem dL_view_19 : decode cL_view 19 = .ok (.iconst 0, 1) := db_L_view_0.2.2.2.2.2.2.2.2.2.2.2.2.2.1
theorem dL_view_20 : decode cL_view 20 = .ok (.ireturn, 1) := db_L_view_0.2.2.2.2.2.2.2.2.2.2.2.2.2.2
theorem db_L_document_0 : decode cL_document 0 = .ok (.aload 4, 2) ∧ decode cL_document 2 = .ok (.iconst 0, 1) ∧ decode cL_document 3 = .ok (.aload_n 0, 1) ∧ decode cL_document 4 = .ok (.iload_n 1, 1) ∧ decode cL_document 5 = .ok (.iload_n 2, 1) ∧ decode cL_document 6 = .ok (.iload_n 3, 1) ∧ decode cL_document 7 = .ok (.invokevirtual 82, 3) ∧ decode cL_document 10 = .ok (.i2l, 1) ∧ decode cL_document 11 = .ok (.lastore, 1) ∧ decode cL_document 12 = .ok (.goto 7, 3) ∧ decode cL_document 15 = .ok (.astore 5, 2) ∧ decode cL_document 17 = .ok (.iconst 1, 1) ∧ decode cL_document 18 = .ok (.ireturn, 1) ∧ decode cL_document 19 = .ok (.iconst 0, 1) ∧ decode cL_document 20 = .ok (.ireturn, 1) := by decide +kernel
theorem dL_document_0 : decode cL_document 0 = .ok (.aload 4, 2) := db_L_document_0.1
theorem dL_document_2 : decode cL_document 2 = .ok (.iconst 0, 1) := db_L_document_0.2.1
theorem dL_document_3 : decode cL_document 3 = .ok (.aload_n 0, 1) := db_L_document_0.2.2.1
theorem dL_document_4 : decode cL_document 4 = .ok (.iload_n 1, 1) := db_L_document_0.2.2.2.1
theorem dL_document_5 : decode cL_document 5 = .ok (.iload_n 2, 1) := db_L_document_0.2.2.2.2.1
theorem dL_document_6 : decode cL_document 6 = .ok (.iload_n 3, 1) := db_L_document_0.2.2.2.2.2.1
theorem dL_document_7 : decode cL_document 7 = .ok (.invokevirtual 82, 3) := db_L_document_0.2.2.2.2.2.2.1
theorem dL_document_10 : decode cL_document 10 = .ok (.i2l, 1) := db_L_document_0.2.2.2.2.2.2.2.1
theorem dL_document_11 : decode cL_document 11 = .ok (.lastore, 1) := db_L_document_0.2.2.2.2.2.2.2.2.1
theorem dL_document_12 : decode cL_document 12 = .ok (.goto 7, 3) := db_L_document_0.2.2.2.2.2.2.2.2.2.1
theorem dL_document_15 : decode cL_document 15 = .ok (.astore 5, 2) := db_L_document_0.2.2.2.2.2.2.2.2.2.2.1
theorem dL_document_17 : decode cL_document 17 = .ok (.iconst 1, 1) := db_L_document_0.2.2.2.2.2.2.2.2.2.2.2.1
theorem dL_document_18 : decode cL_document 18 = .ok (.ireturn, 1) := db_L_document_0.2.2.2.2.2.2.2.2.2.2.2.2.1
theorem dL_document_19 : decode cL_document 19 = .ok (.iconst 0, 1) := db_L_document_0.2.2.2.2.2.2.2.2.2.2.2.2.2.1
theorem dL_document_20 : decode cL_document 20 = .ok (.ireturn, 1) := db_L_document_0.2.2.2.2.2.2.2.2.2.2.2.2.2.2
