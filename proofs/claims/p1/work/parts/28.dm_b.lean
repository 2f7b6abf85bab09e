theorem db_X12_isOther_0 : decode cX12_isOther 0 = .ok (.iload_n 2, 1) ∧ decode cX12_isOther 1 = .ok (.iload_n 1, 1) ∧ decode cX12_isOther 2 = .ok (.iconst 4, 1) ∧ decode cX12_isOther 3 = .ok (.idiv, 1) ∧ decode cX12_isOther 4 = .ok (.if_icmp .eq 18, 3) ∧ decode cX12_isOther 7 = .ok (.aload_n 0, 1) ∧ decode cX12_isOther 8 = .ok (.iload_n 2, 1) ∧ decode cX12_isOther 9 = .ok (.iload_n 1, 1) ∧ decode cX12_isOther 10 = .ok (.iconst 4, 1) ∧ decode cX12_isOther 11 = .ok (.irem, 1) ∧ decode cX12_isOther 12 = .ok (.invokevirtual 352, 3) ∧ decode cX12_isOther 15 = .ok (.ifCond .eq 7, 3) ∧ decode cX12_isOther 18 = .ok (.iconst 1, 1) ∧ decode cX12_isOther 19 = .ok (.goto 4, 3) ∧ decode cX12_isOther 22 = .ok (.iconst 0, 1) ∧ decode cX12_isOther 23 = .ok (.ireturn, 1) := by decide +kernel
theorem dX12_isOther_0 : decode cX12_isOther 0 = .ok (.iload_n 2, 1) := db_X12_isOther_0.1
theorem dX12_isOther_1 : decode cX12_isOther 1 = .ok (.iload_n 1, 1) := db_X12_isOther_0.2.1
theorem dX12_isOther_2 : decode cX12_isOther 2 = .ok (.iconst 4, 1) := db_X12_isOther_0.2.2.1
theorem dX12_isOther_3 : decode cX12_isOther 3 = .ok (.idiv, 1) := db_X12_isOther_0.2.2.2.1
theorem dX12_isOther_4 : decode cX12_isOther 4 = .ok (.if_icmp .eq 18, 3) := db_X12_isOther_0.2.2.2.2.1
theorem dX12_isOther_7 : decode cX12_isOther 7 = .ok (.aload_n 0, 1) := db_X12_isOther_0.2.2.2.2.2.1
theorem dX12_isOther_8 : decode cX12_isOther 8 = .ok (.iload_n 2, 1) := db_X12_isOther_0.2.2.2.2.2.2.1
theorem dX12_isOther_9 : decode cX12_isOther 9 = .ok (.iload_n 1, 1) := db_X12_isOther_0.2.2.2.2.2.2.2.1
theorem dX12_isOther_10 : decode cX12_isOther 10 = .ok (.iconst 4, 1) := db_X12_isOther_0.2.2.2.2.2.2.2.2.1
theorem dX12_isOther_11 : decode cX12_isOther 11 = .ok (.irem, 1) := db_X12_isOther_0.2.2.2.2.2.2.2.2.2.1
theorem dX12_isOther_12 : decode cX12_isOther 12 = .ok (.invokevirtual 352, 3) := db_X12_isOther_0.2.2.2.2.2.2.2.2.2.2.1
theorem dX12_isOther_15 : decode cX12_isOther 15 = .ok (.ifCond .eq 7, 3) := db_X12_isOther_0.2.2.2.2.2.2.2.2.2.2.2.1
theorem dX12_isOther_18 : decode cX12_isOther 18 = .ok (.iconst 1, 1) := db_X12_isOther_0.2.2.2.2.2.2.2.2.2.2.2.2.1
theorem dX12_isOther_19 : decode cX12_isOther 19 = .ok (.goto 4, 3) := db_X12_isOther_0.2.2.2.2.2.2.2.2.2.2.2.2.2.1
theorem dX12_isOther_22 : decode cX12_isOther 22 = .ok (.iconst 0, 1) := db_X12_isOther_0.2.2.2.2.2.2.2.2.2.2.2.2.2.2.1
theorem dX12_isOther_23 : decode cX12_isOther 23 = .ok (.ireturn, 1) := db_X12_isOther_0.2.2.2.2.2.2.2.2.2.2.2.2.2.2.2
theorem db_X12_send_0 : decode cX12_send 0 = .ok (.bipush 6, 2) ∧ decode cX12_send 2 = .ok (.iload_n 1, 1) ∧ decode cX12_send 3 = .ok (.imul, 1) ∧ decode cX12_send 4 = .ok (.iload_n 2, 1) ∧ decode cX12_send 5 = .ok (.iadd, 1) ∧ decode cX12_send 6 = .ok (.istore 4, 2) ∧ decode cX12_send 8 = .ok (.aload_n 0, 1) ∧ decode cX12_send 9 = .ok (.getfield 209, 3) ∧ decode cX12_send 12 = .ok (.iload 4, 2) ∧ decode cX12_send 14 = .ok (.iaload, 1) ∧ decode cX12_send 15 = .ok (.bipush 60, 2) ∧ decode cX12_send 17 = .ok (.if_icmp .ne 14, 3) ∧ decode cX12_send 31 = .ok (.iload 4, 2) ∧ decode cX12_send 33 = .ok (.bipush 60, 2) ∧ decode cX12_send 35 = .ok (.imul, 1) ∧ decode cX12_send 36 = .ok (.aload_n 0, 1) := by decide +kernel
theorem dX12_send_0 : decode cX12_send 0 = .ok (.bipush 6, 2) := db_X12_send_0.1
theorem dX12_send_2 : decode cX12_send 2 = .ok (.iload_n 1, 1) := db_X12_send_0.2.1
theorem dX12_send_3 : decode cX12_send 3 = .ok (.imul, 1) := db_X12_send_0.2.2.1
theorem dX12_send_4 : decode cX12_send 4 = .ok (.iload_n 2, 1) := db_X12_send_0.2.2.2.1
theorem dX12_send_5 : decode cX12_send 5 = .ok (.iadd, 1) := db_X12_send_0.2.2.2.2.1
theorem dX12_send_6 : decode cX12_send 6 = .ok (.istore 4, 2) := db_X12_send_0.2.2.2.2.2.1
theorem dX12_send_8 : decode cX12_send 8 = .ok (.aload_n 0, 1) := db_X12_send_0.2.2.2.2.2.2.1
theorem dX12_send_9 : decode cX12_send 9 = .ok (.getfield 209, 3) := db_X12_send_0.2.2.2.2.2.2.2.1
theorem dX12_send_12 : decode cX12_send 12 = .ok (.iload 4, 2) := db_X12_send_0.2.2.2.2.2.2.2.2.1
theorem dX12_send_14 : decode cX12_send 14 = .ok (.iaload, 1) := db_X12_send_0.2.2.2.2.2.2.2.2.2.1
theorem dX12_send_15 : decode cX12_send 15 = .ok (.bipush 60, 2) := db_X12_send_0.2.2.2.2.2.2.2.2.2.2.1
theorem dX12_send_17 : decode cX12_send 17 = .ok (.if_icmp .ne 14, 3) := db_X12_send_0.2.2.2.2.2.2.2.2.2.2.2.1
theorem dX12_send_31 : decode cX12_send 31 = .ok (.iload 4, 2) := db_X12_send_0.2.2.2.2.2.2.2.2.2.2.2.2.1
theorem dX12_send_33 : decode cX12_send 33 = .ok (.bipush 60, 2) := db_X12_send_0.2.2.2.2.2.2.2.2.2.2.2.2.2.1
theorem dX12_send_35 : decode cX12_send 35 = .ok (.imul, 1) := db_X12_send_0.2.2.2.2.2.2.2.2.2.2.2.2.2.2.1
theorem dX12_send_36 : decode cX12_send 36 = .ok (.aload_n 0, 1) := db_X12_send_0.2.2.2.2.2.2.2.2.2.2.2.2.2.2.2
theorem db_X12_send_37 : decode cX12_send 37 = .ok (.getfield 212, 3) ∧ decode cX12_send 40 = .ok (.iload 4, 2) ∧ decode cX12_send 42 = .ok (.iaload, 1) ∧ decode cX12_send 43 = .ok (.aload_n 0, 1) ∧ decode cX12_send 44 = .ok (.getfield 209, 3) ∧ decode cX12_send 47 = .ok (.iload 4, 2) ∧ decode cX12_send 49 = .ok (.iaload, 1) ∧ decode cX12_send 50 = .ok (.iadd, 1) ∧ decode cX12_send 51 = .ok (.bipush 60, 2) ∧ decode cX12_send 53 = .ok (.irem, 1) ∧ decode cX12_send 54 = .ok (.iadd, 1) ∧ decode cX12_send 55 = .ok (.bipush 34, 2) ∧ decode cX12_send 57 = .ok (.imul, 1) ∧ decode cX12_send 58 = .ok (.istore 5, 2) ∧ decode cX12_send 60 = .ok (.iconst 0, 1) ∧ decode cX12_send 61 = .ok (.istore 6, 2) := by decide +kernel
theorem dX12_send_37 : decode cX12_send 37 = .ok (.getfield 212, 3) := db_X12_send_37.1
theorem dX12_send_40 : decode cX12_send 40 = .ok (.iload 4, 2) := db_X12_send_37.2.1
theorem dX12_send_42 : decode cX12_send 42 = .ok (.iaload, 1) := db_X12_send_37.2.2.1
theorem dX12_send_43 : decode cX12_send 43 = .ok (.aload_n 0, 1) := db_X12_send_37.2.2.2.1
theorem dX12_send_44 : decode cX12_send 44 = .ok (.getfield 209, 3) := db_X12_send_37.2.2.2.2.1
theorem dX12_send_47 : decode cX12_send 47 = .ok (.iload 4, 2) := db_X12_send_37.2.2.2.2.2.1
theorem dX12_send_49 : decode cX12_send 49 = .ok (.iaload, 1) := db_X12_send_37.2.2.2.2.2.2.1
theorem dX12_send_50 : decode cX12_send 50 = .ok (.iadd, 1) := db_X12_send_37.2.2.2.2.2.2.2.1
theorem dX12_send_51 : decode cX12_send 51 = .ok (.bipush 60, 2) := db_X12_send_37.2.2.2.2.2.2.2.2.1
theorem dX12_send_53 : decode cX12_send 53 = .ok (.irem, 1) := db_X12_send_37.2.2.2.2.2.2.2.2.2.1
theorem dX12_send_54 : decode cX12_send 54 = .ok (.iadd, 1) := db_X12_send_37.2.2.2.2.2.2.2.2.2.2.1
theorem dX12_send_55 : decode cX12_send 55 = .ok (.bipush 34, 2) := db_X12_send_37.2.2.2.2.2.2.2.2.2.2.2.1
theorem dX12_send_57 : decode cX12_send 57 = .ok (.imul, 1) := db_X12_send_37.2.2.2.2.2.2.2.2.2.2.2.2.1
theorem dX12_send_58 : decode cX12_send 58 = .ok (.istore 5, 2) := db_X12_send_37.2.2.2.2.2.2.2.2.2.2.2.2.2.1
theorem dX12_send_60 : decode cX12_send 60 = .ok (.iconst 0, 1) := db_X12_send_37.2.2.2.2.2.2.2.2.2.2.2.2.2.2.1
theorem dX12_send_61 : decode cX12_send 61 = .ok (.istore 6, 2) := db_X12_send_37.2.2.2.2.2.2.2.2.2.2.2.2.2.2.2
theorem db_X12_send_63 : decode cX12_send 63 = .ok (.iload 6, 2) ∧ decode cX12_send 65 = .ok (.bipush 34, 2) ∧ decode cX12_send 67 = .ok (.if_icmp .ge 36, 3) ∧ decode cX12_send 70 = .ok (.aload_n 0, 1) ∧ decode cX12_send 71 = .ok (.getfield 216, 3) ∧ decode cX12_send 74 = .ok (.iload 5, 2) ∧ decode cX12_send 76 = .ok (.iload 6, 2) ∧ decode cX12_send 78 = .ok (.iadd, 1) ∧ decode cX12_send 79 = .ok (.iload 6, 2) ∧ decode cX12_send 81 = .ok (.iload_n 3, 1) ∧ decode cX12_send 82 = .ok (.if_icmp .ge 13, 3) ∧ decode cX12_send 85 = .ok (.aload_n 0, 1) ∧ decode cX12_send 86 = .ok (.getfield 219, 3) ∧ decode cX12_send 89 = .ok (.iload 6, 2) ∧ decode cX12_send 91 = .ok (.iaload, 1) ∧ decode cX12_send 92 = .ok (.goto 4, 3) := by decide +kernel
theorem dX12_send_63 : decode cX12_send 63 = .ok (.iload 6, 2) := db_X12_send_63.1
theorem dX12_send_65 : decode cX12_send 65 = .ok (.bipush 34, 2) := db_X12_send_63.2.1
theorem dX12_send_67 : decode cX12_send 67 = .ok (.if_icmp .ge 36, 3) := db_X12_send_63.2.2.1
theorem dX12_send_70 : decode cX12_send 70 = .ok (.aload_n 0, 1) := db_X12_send_63.2.2.2.1
theorem dX12_send_71 : decode cX12_send 71 = .ok (.getfield 216, 3) := db_X12_send_63.2.2.2.2.1
theorem dX12_send_74 : decode cX12_send 74 = .ok (.iload 5, 2) := db_X12_send_63.2.2.2.2.2.1
theorem dX12_send_76 : decode cX12_send 76 = .ok (.iload 6, 2) := db_X12_send_63.2.2.2.2.2.2.1
theorem dX12_send_78 : decode cX12_send 78 = .ok (.iadd, 1) := db_X12_send_63.2.2.2.2.2.2.2.1
theorem dX12_send_79 : decode cX12_send 79 = .ok (.iload 6, 2) := db_X12_send_63.2.2.2.2.2.2.2.2.1
theorem dX12_send_81 : decode cX12_send 81 = .ok (.iload_n 3, 1) := db_X12_send_63.2.2.2.2.2.2.2.2.2.1
theorem dX12_send_82 : decode cX12_send 82 = .ok (.if_icmp .ge 13, 3) := db_X12_send_63.2.2.2.2.2.2.2.2.2.2.1
theorem dX12_send_85 : decode cX12_send 85 = .ok (.aload_n 0, 1) := db_X12_send_63.2.2.2.2.2.2.2.2.2.2.2.1
theorem dX12_send_86 : decode cX12_send 86 = .ok (.getfield 219, 3) := db_X12_send_63.2.2.2.2.2.2.2.2.2.2.2.2.1
theorem dX12_send_89 : decode cX12_send 89 = .ok (.iload 6, 2) := db_X12_send_63.2.2.2.2.2.2.2.2.2.2.2.2.2.1
theorem dX12_send_91 : decode cX12_send 91 = .ok (.iaload, 1) := db_X12_send_63.2.2.2.2.2.2.2.2.2.2.2.2.2.2.1
theorem dX12_send_92 : decode cX12_send 92 = .ok (.goto 4, 3) := db_X12_send_63.2.2.2.2.2.2.2.2.2.2.2.2.2.2.2
theorem db_X12_send_95 : decode cX12_send 95 = .ok (.iconst 0, 1) ∧ decode cX12_send 96 = .ok (.iastore, 1) ∧ decode cX12_send 97 = .ok (.iinc 6 1, 3) ∧ decode cX12_send 100 = .ok (.goto (-37), 3) ∧ decode cX12_send 103 = .ok (.aload_n 0, 1) ∧ decode cX12_send 104 = .ok (.getfield 209, 3) ∧ decode cX12_send 107 = .ok (.iload 4, 2) ∧ decode cX12_send 109 = .ok (.dup2, 1) ∧ decode cX12_send 110 = .ok (.iaload, 1) ∧ decode cX12_send 111 = .ok (.iconst 1, 1) ∧ decode cX12_send 112 = .ok (.iadd, 1) ∧ decode cX12_send 113 = .ok (.iastore, 1) ∧ decode cX12_send 114 = .ok (.return_, 1) := by decide +kernel
theorem dX12_send_95 : decode cX12_send 95 = .ok (.iconst 0, 1) := db_X12_send_95.1
theorem dX12_send_96 : decode cX12_send 96 = .ok (.iastore, 1) := db_X12_send_95.2.1
theorem dX12_send_97 : decode cX12_send 97 = .ok (.iinc 6 1, 3) := db_X12_send_95.2.2.1
theorem dX12_send_100 : decode cX12_send 100 = .ok (.goto (-37), 3) := db_X12_send_95.2.2.2.1
theorem dX12_send_103 : decode cX12_send 103 = .ok (.aload_n 0, 1) := db_X12_send_95.2.2.2.2.1
theorem dX12_send_104 : decode cX12_send 104 = .ok (.getfield 209, 3) := db_X12_send_95.2.2.2.2.2.1
theorem dX12_send_107 : decode cX12_send 107 = .ok (.iload 4, 2) := db_X12_send_95.2.2.2.2.2.2.1
theorem dX12_send_109 : decode cX12_send 109 = .ok (.dup2, 1) := db_X12_send_95.2.2.2.2.2.2.2.1
theorem dX12_send_110 : decode cX12_send 110 = .ok (.iaload, 1) := db_X12_send_95.2.2.2.2.2.2.2.2.1
theorem dX12_send_111 : decode cX12_send 111 = .ok (.iconst 1, 1) := db_X12_send_95.2.2.2.2.2.2.2.2.2.1
theorem dX12_send_112 : decode cX12_send 112 = .ok (.iadd, 1) := db_X12_send_95.2.2.2.2.2.2.2.2.2.2.1
theorem dX12_send_113 : decode cX12_send 113 = .ok (.iastore, 1) := db_X12_send_95.2.2.2.2.2.2.2.2.2.2.2.1
theorem dX12_send_114 : decode cX12_send 114 = .ok (.return_, 1) := db_X12_send_95.2.2.2.2.2.2.2.2.2.2.2.2
theorem db_X12_takeFirst_0 : decode cX12_takeFirst 0 = .ok (.bipush 6, 2) ∧ decode cX12_takeFirst 2 = .ok (.iload_n 1, 1) ∧ decode cX12_takeFirst 3 = .ok (.imul, 1) ∧ decode cX12_takeFirst 4 = .ok (.iload_n 2, 1) ∧ decode cX12_takeFirst 5 = .ok (.iadd, 1) ∧ decode cX12_takeFirst 6 = .ok (.istore_n 3, 1) ∧ decode cX12_takeFirst 7 = .ok (.iload_n 3, 1) ∧ decode cX12_takeFirst 8 = .ok (.bipush 60, 2) ∧ decode cX12_takeFirst 10 = .ok (.imul, 1) ∧ decode cX12_takeFirst 11 = .ok (.aload_n 0, 1) ∧ decode cX12_takeFirst 12 = .ok (.getfield 212, 3) ∧ decode cX12_takeFirst 15 = .ok (.iload_n 3, 1) ∧ decode cX12_takeFirst 16 = .ok (.iaload, 1) ∧ decode cX12_takeFirst 17 = .ok (.iadd, 1) ∧ decode cX12_takeFirst 18 = .ok (.bipush 34, 2) ∧ decode cX12_takeFirst 20 = .ok (.imul, 1) := by decide +kernel
theorem dX12_takeFirst_0 : decode cX12_takeFirst 0 = .ok (.bipush 6, 2) := db_X12_takeFirst_0.1
theorem dX12_takeFirst_2 : decode cX12_takeFirst 2 = .ok (.iload_n 1, 1) := db_X12_takeFirst_0.2.1
theorem dX12_takeFirst_3 : decode cX12_takeFirst 3 = .ok (.imul, 1) := db_X12_takeFirst_0.2.2.1
theorem dX12_takeFirst_4 : decode cX12_takeFirst 4 = .ok (.iload_n 2, 1) := db_X12_takeFirst_0.2.2.2.1
theorem dX12_takeFirst_5 : decode cX12_takeFirst 5 = .ok (.iadd, 1) := db_X12_takeFirst_0.2.2.2.2.1
theorem dX12_takeFirst_6 : decode cX12_takeFirst 6 = .ok (.istore_n 3, 1) := db_X12_takeFirst_0.2.2.2.2.2.1
theorem dX12_takeFirst_7 : decode cX12_takeFirst 7 = .ok (.iload_n 3, 1) := db_X12_takeFirst_0.2.2.2.2.2.2.1
theorem dX12_takeFirst_8 : decode cX12_takeFirst 8 = .ok (.bipush 60, 2) := db_X12_takeFirst_0.2.2.2.2.2.2.2.1
theorem dX12_takeFirst_10 : decode cX12_takeFirst 10 = .ok (.imul, 1) := db_X12_takeFirst_0.2.2.2.2.2.2.2.2.1
theorem dX12_takeFirst_11 : decode cX12_takeFirst 11 = .ok (.aload_n 0, 1) := db_X12_takeFirst_0.2.2.2.2.2.2.2.2.2.1
theorem dX12_takeFirst_12 : decode cX12_takeFirst 12 = .ok (.getfield 212, 3) := db_X12_takeFirst_0.2.2.2.2.2.2.2.2.2.2.1
theorem dX12_takeFirst_15 : decode cX12_takeFirst 15 = .ok (.iload_n 3, 1) := db_X12_takeFirst_0.2.2.2.2.2.2.2.2.2.2.2.1
theorem dX12_takeFirst_16 : decode cX12_takeFirst 16 = .ok (.iaload, 1) := db_X12_takeFirst_0.2.2.2.2.2.2.2.2.2.2.2.2.1
theorem dX12_takeFirst_17 : decode cX12_takeFirst 17 = .ok (.iadd, 1) := db_X12_takeFirst_0.2.2.2.2.2.2.2.2.2.2.2.2.2.1
theorem dX12_takeFirst_18 : decode cX12_takeFirst 18 = .ok (.bipush 34, 2) := db_X12_takeFirst_0.2.2.2.2.2.2.2.2.2.2.2.2.2.2.1
theorem dX12_takeFirst_20 : decode cX12_takeFirst 20 = .ok (.imul, 1) := db_X12_takeFirst_0.2.2.2.2.2.2.2.2.2.2.2.2.2.2.2
theorem db_X12_takeFirst_21 : decode cX12_takeFirst 21 = .ok (.istore 4, 2) ∧ decode cX12_takeFirst 23 = .ok (.iconst 0, 1) ∧ decode cX12_takeFirst 24 = .ok (.istore 5, 2) ∧ decode cX12_takeFirst 26 = .ok (.iload 5, 2) ∧ decode cX12_takeFirst 28 = .ok (.bipush 34, 2) ∧ decode cX12_takeFirst 30 = .ok (.if_icmp .ge 26, 3) ∧ decode cX12_takeFirst 33 = .ok (.aload_n 0, 1) ∧ decode cX12_takeFirst 34 = .ok (.getfield 222, 3) ∧ decode cX12_takeFirst 37 = .ok (.iload 5, 2) ∧ decode cX12_takeFirst 39 = .ok (.aload_n 0, 1) ∧ decode cX12_takeFirst 40 = .ok (.getfield 216, 3) ∧ decode cX12_takeFirst 43 = .ok (.iload 4, 2) ∧ decode cX12_takeFirst 45 = .ok (.iload 5, 2) ∧ decode cX12_takeFirst 47 = .ok (.iadd, 1) ∧ decode cX12_takeFirst 48 = .ok (.iaload, 1) ∧ decode cX12_takeFirst 49 = .ok (.iastore, 1) := by decide +kernel
theorem dX12_takeFirst_21 : decode cX12_takeFirst 21 = .ok (.istore 4, 2) := db_X12_takeFirst_21.1
theorem dX12_takeFirst_23 : decode cX12_takeFirst 23 = .ok (.iconst 0, 1) := db_X12_takeFirst_21.2.1
theorem dX12_takeFirst_24 : decode cX12_takeFirst 24 = .ok (.istore 5, 2) := db_X12_takeFirst_21.2.2.1
theorem dX12_takeFirst_26 : decode cX12_takeFirst 26 = .ok (.iload 5, 2) := db_X12_takeFirst_21.2.2.2.1
theorem dX12_takeFirst_28 : decode cX12_takeFirst 28 = .ok (.bipush 34, 2) := db_X12_takeFirst_21.2.2.2.2.1
theorem dX12_takeFirst_30 : decode cX12_takeFirst 30 = .ok (.if_icmp .ge 26, 3) := db_X12_takeFirst_21.2.2.2.2.2.1
theorem dX12_takeFirst_33 : decode cX12_takeFirst 33 = .ok (.aload_n 0, 1) := db_X12_takeFirst_21.2.2.2.2.2.2.1
theorem dX12_takeFirst_34 : decode cX12_takeFirst 34 = .ok (.getfield 222, 3) := db_X12_takeFirst_21.2.2.2.2.2.2.2.1
theorem dX12_takeFirst_37 : decode cX12_takeFirst 37 = .ok (.iload 5, 2) := db_X12_takeFirst_21.2.2.2.2.2.2.2.2.1
theorem dX12_takeFirst_39 : decode cX12_takeFirst 39 = .ok (.aload_n 0, 1) := db_X12_takeFirst_21.2.2.2.2.2.2.2.2.2.1
theorem dX12_takeFirst_40 : decode cX12_takeFirst 40 = .ok (.getfield 216, 3) := db_X12_takeFirst_21.2.2.2.2.2.2.2.2.2.2.1
theorem dX12_takeFirst_43 : decode cX12_takeFirst 43 = .ok (.iload 4, 2) := db_X12_takeFirst_21.2.2.2.2.2.2.2.2.2.2.2.1
theorem dX12_takeFirst_45 : decode cX12_takeFirst 45 = .ok (.iload 5, 2) := db_X12_takeFirst_21.2.2.2.2.2.2.2.2.2.2.2.2.1
theorem dX12_takeFirst_47 : decode cX12_takeFirst 47 = .ok (.iadd, 1) := db_X12_takeFirst_21.2.2.2.2.2.2.2.2.2.2.2.2.2.1
theorem dX12_takeFirst_48 : decode cX12_takeFirst 48 = .ok (.iaload, 1) := db_X12_takeFirst_21.2.2.2.2.2.2.2.2.2.2.2.2.2.2.1
theorem dX12_takeFirst_49 : decode cX12_takeFirst 49 = .ok (.iastore, 1) := db_X12_takeFirst_21.2.2.2.2.2.2.2.2.2.2.2.2.2.2.2
theorem db_X12_takeFirst_50 : decode cX12_takeFirst 50 = .ok (.iinc 5 1, 3) ∧ decode cX12_takeFirst 53 = .ok (.goto (-27), 3) ∧ decode cX12_takeFirst 56 = .ok (.aload_n 0, 1) ∧ decode cX12_takeFirst 57 = .ok (.getfield 212, 3) ∧ decode cX12_takeFirst 60 = .ok (.iload_n 3, 1) ∧ decode cX12_takeFirst 61 = .ok (.aload_n 0, 1) ∧ decode cX12_takeFirst 62 = .ok (.getfield 212, 3) ∧ decode cX12_takeFirst 65 = .ok (.iload_n 3, 1) ∧ decode cX12_takeFirst 66 = .ok (.iaload, 1) ∧ decode cX12_takeFirst 67 = .ok (.iconst 1, 1) ∧ decode cX12_takeFirst 68 = .ok (.iadd, 1) ∧ decode cX12_takeFirst 69 = .ok (.bipush 60, 2) ∧ decode cX12_takeFirst 71 = .ok (.irem, 1) ∧ decode cX12_takeFirst 72 = .ok (.iastore, 1) ∧ decode cX12_takeFirst 73 = .ok (.aload_n 0, 1) ∧ decode cX12_takeFirst 74 = .ok (.getfield 209, 3) := by decide +kernel
theorem dX12_takeFirst_50 : decode cX12_takeFirst 50 = .ok (.iinc 5 1, 3) := db_X12_takeFirst_50.1
theorem dX12_takeFirst_53 : decode cX12_takeFirst 53 = .ok (.goto (-27), 3) := db_X12_takeFirst_50.2.1
theorem dX12_takeFirst_56 : decode cX12_takeFirst 56 = .ok (.aload_n 0, 1) := db_X12_takeFirst_50.2.2.1
theorem dX12_takeFirst_57 : decode cX12_takeFirst 57 = .ok (.getfield 212, 3) := db_X12_takeFirst_50.2.2.2.1
theorem dX12_takeFirst_60 : decode cX12_takeFirst 60 = .ok (.iload_n 3, 1) := db_X12_takeFirst_50.2.2.2.2.1
theorem dX12_takeFirst_61 : decode cX12_takeFirst 61 = .ok (.aload_n 0, 1) := db_X12_takeFirst_50.2.2.2.2.2.1
theorem dX12_takeFirst_62 : decode cX12_takeFirst 62 = .ok (.getfield 212, 3) := db_X12_takeFirst_50.2.2.2.2.2.2.1
theorem dX12_takeFirst_65 : decode cX12_takeFirst 65 = .ok (.iload_n 3, 1) := db_X12_takeFirst_50.2.2.2.2.2.2.2.1
theorem dX12_takeFirst_66 : decode cX12_takeFirst 66 = .ok (.iaload, 1) := db_X12_takeFirst_50.2.2.2.2.2.2.2.2.1
theorem dX12_takeFirst_67 : decode cX12_takeFirst 67 = .ok (.iconst 1, 1) := db_X12_takeFirst_50.2.2.2.2.2.2.2.2.2.1
theorem dX12_takeFirst_68 : decode cX12_takeFirst 68 = .ok (.iadd, 1) := db_X12_takeFirst_50.2.2.2.2.2.2.2.2.2.2.1
theorem dX12_takeFirst_69 : decode cX12_takeFirst 69 = .ok (.bipush 60, 2) := db_X12_takeFirst_50.2.2.2.2.2.2.2.2.2.2.2.1
theorem dX12_takeFirst_71 : decode cX12_takeFirst 71 = .ok (.irem, 1) := db_X12_takeFirst_50.2.2.2.2.2.2.2.2.2.2.2.2.1
theorem dX12_takeFirst_72 : decode cX12_takeFirst 72 = .ok (.iastore, 1) := db_X12_takeFirst_50.2.2.2.2.2.2.2.2.2.2.2.2.2.1
theorem dX12_takeFirst_73 : decode cX12_takeFirst 73 = .ok (.aload_n 0, 1) := db_X12_takeFirst_50.2.2.2.2.2.2.2.2.2.2.2.2.2.2.1
theorem dX12_takeFirst_74 : decode cX12_takeFirst 74 = .ok (.getfield 209, 3) := db_X12_takeFirst_50.2.2.2.2.2.2.2.2.2.2.2.2.2.2.2
theorem db_X12_takeFirst_77 : decode cX12_takeFirst 77 = .ok (.iload_n 3, 1) ∧ decode cX12_takeFirst 78 = .ok (.dup2, 1) ∧ decode cX12_takeFirst 79 = .ok (.iaload, 1) ∧ decode cX12_takeFirst 80 = .ok (.iconst 1, 1) ∧ decode cX12_takeFirst 81 = .ok (.isub, 1) ∧ decode cX12_takeFirst 82 = .ok (.iastore, 1) ∧ decode cX12_takeFirst 83 = .ok (.aload_n 0, 1) ∧ decode cX12_takeFirst 84 = .ok (.getfield 222, 3) ∧ decode cX12_takeFirst 87 = .ok (.iconst 0, 1) ∧ decode cX12_takeFirst 88 = .ok (.iaload, 1) ∧ decode cX12_takeFirst 89 = .ok (.ireturn, 1) := by decide +kernel
theorem dX12_takeFirst_77 : decode cX12_takeFirst 77 = .ok (.iload_n 3, 1) := db_X12_takeFirst_77.1
theorem dX12_takeFirst_78 : decode cX12_takeFirst 78 = .ok (.dup2, 1) := db_X12_takeFirst_77.2.1
theorem dX12_takeFirst_79 : decode cX12_takeFirst 79 = .ok (.iaload, 1) := db_X12_takeFirst_77.2.2.1
theorem dX12_takeFirst_80 : decode cX12_takeFirst 80 = .ok (.iconst 1, 1) := db_X12_takeFirst_77.2.2.2.1
theorem dX12_takeFirst_81 : decode cX12_takeFirst 81 = .ok (.isub, 1) := db_X12_takeFirst_77.2.2.2.2.1
theorem dX12_takeFirst_82 : decode cX12_takeFirst 82 = .ok (.iastore, 1) := db_X12_takeFirst_77.2.2.2.2.2.1
theorem dX12_takeFirst_83 : decode cX12_takeFirst 83 = .ok (.aload_n 0, 1) := db_X12_takeFirst_77.2.2.2.2.2.2.1
theorem dX12_takeFirst_84 : decode cX12_takeFirst 84 = .ok (.getfield 222, 3) := db_X12_takeFirst_77.2.2.2.2.2.2.2.1
theorem dX12_takeFirst_87 : decode cX12_takeFirst 87 = .ok (.iconst 0, 1) := db_X12_takeFirst_77.2.2.2.2.2.2.2.2.1
theorem dX12_takeFirst_88 : decode cX12_takeFirst 88 = .ok (.iaload, 1) := db_X12_takeFirst_77.2.2.2.2.2.2.2.2.2.1
theorem dX12_takeFirst_89 : decode cX12_takeFirst 89 = .ok (.ireturn, 1) := db_X12_takeFirst_77.2.2.2.2.2.2.2.2.2.2
theorem db_X12_sendSimple_0 : decode cX12_sendSimple 0 = .ok (.aload_n 0, 1) ∧ decode cX12_sendSimple 1 = .ok (.getfield 219, 3) ∧ decode cX12_sendSimple 4 = .ok (.iconst 0, 1) ∧ decode cX12_sendSimple 5 = .ok (.iload_n 3, 1) ∧ decode cX12_sendSimple 6 = .ok (.iastore, 1) ∧ decode cX12_sendSimple 7 = .ok (.aload_n 0, 1) ∧ decode cX12_sendSimple 8 = .ok (.getfield 219, 3) ∧ decode cX12_sendSimple 11 = .ok (.iconst 1, 1) ∧ decode cX12_sendSimple 12 = .ok (.iload 4, 2) ∧ decode cX12_sendSimple 14 = .ok (.iastore, 1) ∧ decode cX12_sendSimple 15 = .ok (.aload_n 0, 1) ∧ decode cX12_sendSimple 16 = .ok (.getfield 219, 3) ∧ decode cX12_sendSimple 19 = .ok (.iconst 2, 1) ∧ decode cX12_sendSimple 20 = .ok (.iload 5, 2) ∧ decode cX12_sendSimple 22 = .ok (.iastore, 1) ∧ decode cX12_sendSimple 23 = .ok (.aload_n 0, 1) := by decide +kernel
theorem dX12_sendSimple_0 : decode cX12_sendSimple 0 = .ok (.aload_n 0, 1) := db_X12_sendSimple_0.1
theorem dX12_sendSimple_1 : decode cX12_sendSimple 1 = .ok (.getfield 219, 3) := db_X12_sendSimple_0.2.1
theorem dX12_sendSimple_4 : decode cX12_sendSimple 4 = .ok (.iconst 0, 1) := db_X12_sendSimple_0.2.2.1
theorem dX12_sendSimple_5 : decode cX12_sendSimple 5 = .ok (.iload_n 3, 1) := db_X12_sendSimple_0.2.2.2.1
theorem dX12_sendSimple_6 : decode cX12_sendSimple 6 = .ok (.iastore, 1) := db_X12_sendSimple_0.2.2.2.2.1
theorem dX12_sendSimple_7 : decode cX12_sendSimple 7 = .ok (.aload_n 0, 1) := db_X12_sendSimple_0.2.2.2.2.2.1
theorem dX12_sendSimple_8 : decode cX12_sendSimple 8 = .ok (.getfield 219, 3) := db_X12_sendSimple_0.2.2.2.2.2.2.1
theorem dX12_sendSimple_11 : decode cX12_sendSimple 11 = .ok (.iconst 1, 1) := db_X12_sendSimple_0.2.2.2.2.2.2.2.1
theorem dX12_sendSimple_12 : decode cX12_sendSimple 12 = .ok (.iload 4, 2) := db_X12_sendSimple_0.2.2.2.2.2.2.2.2.1
theorem dX12_sendSimple_14 : decode cX12_sendSimple 14 = .ok (.iastore, 1) := db_X12_sendSimple_0.2.2.2.2.2.2.2.2.2.1
theorem dX12_sendSimple_15 : decode cX12_sendSimple 15 = .ok (.aload_n 0, 1) := db_X12_sendSimple_0.2.2.2.2.2.2.2.2.2.2.1
theorem dX12_sendSimple_16 : decode cX12_sendSimple 16 = .ok (.getfield 219, 3) := db_X12_sendSimple_0.2.2.2.2.2.2.2.2.2.2.2.1
theorem dX12_sendSimple_19 : decode cX12_sendSimple 19 = .ok (.iconst 2, 1) := db_X12_sendSimple_0.2.2.2.2.2.2.2.2.2.2.2.2.1
theorem dX12_sendSimple_20 : decode cX12_sendSimple 20 = .ok (.iload 5, 2) := db_X12_sendSimple_0.2.2.2.2.2.2.2.2.2.2.2.2.2.1
theorem dX12_sendSimple_22 : decode cX12_sendSimple 22 = .ok (.iastore, 1) := db_X12_sendSimple_0.2.2.2.2.2.2.2.2.2.2.2.2.2.2.1
theorem dX12_sendSimple_23 : decode cX12_sendSimple 23 = .ok (.aload_n 0, 1) := db_X12_sendSimple_0.2.2.2.2.2.2.2.2.2.2.2.2.2.2.2
theorem db_X12_sendSimple_24 : decode cX12_sendSimple 24 = .ok (.iload_n 1, 1) ∧ decode cX12_sendSimple 25 = .ok (.iload_n 2, 1) ∧ decode cX12_sendSimple 26 = .ok (.iconst 3, 1) ∧ decode cX12_sendSimple 27 = .ok (.invokevirtual 446, 3) ∧ decode cX12_sendSimple 30 = .ok (.return_, 1) := by decide +kernel
theorem dX12_sendSimple_24 : decode cX12_sendSimple 24 = .ok (.iload_n 1, 1) := db_X12_sendSimple_24.1
theorem dX12_sendSimple_25 : decode cX12_sendSimple 25 = .ok (.iload_n 2, 1) := db_X12_sendSimple_24.2.1
theorem dX12_sendSimple_26 : decode cX12_sendSimple 26 = .ok (.iconst 3, 1) := db_X12_sendSimple_24.2.2.1
theorem dX12_sendSimple_27 : decode cX12_sendSimple 27 = .ok (.invokevirtual 446, 3) := db_X12_sendSimple_24.2.2.2.1
theorem dX12_sendSimple_30 : decode cX12_sendSimple 30 = .ok (.return_, 1) := db_X12_sendSimple_24.2.2.2.2
theorem db_X12_fall_0 : decode cX12_fall 0 = .ok (.aload_n 0, 1) ∧ decode cX12_fall 1 = .ok (.getfield 77, 3) ∧ decode cX12_fall 4 = .ok (.iload_n 1, 1) ∧ decode cX12_fall 5 = .ok (.iconst 0, 1) ∧ decode cX12_fall 6 = .ok (.bastore, 1) ∧ decode cX12_fall 7 = .ok (.iconst 0, 1) ∧ decode cX12_fall 8 = .ok (.istore_n 2, 1) ∧ decode cX12_fall 9 = .ok (.iconst 0, 1) ∧ decode cX12_fall 10 = .ok (.istore_n 3, 1) ∧ decode cX12_fall 11 = .ok (.iload_n 3, 1) ∧ decode cX12_fall 12 = .ok (.aload_n 0, 1) ∧ decode cX12_fall 13 = .ok (.getfield 333, 3) ∧ decode cX12_fall 16 = .ok (.if_icmp .ge 46, 3) ∧ decode cX12_fall 62 = .ok (.iconst 0, 1) ∧ decode cX12_fall 63 = .ok (.istore_n 3, 1) ∧ decode cX12_fall 64 = .ok (.iload_n 3, 1) := by decide +kernel
theorem dX12_fall_0 : decode cX12_fall 0 = .ok (.aload_n 0, 1) := db_X12_fall_0.1
theorem dX12_fall_1 : decode cX12_fall 1 = .ok (.getfield 77, 3) := db_X12_fall_0.2.1
theorem dX12_fall_4 : decode cX12_fall 4 = .ok (.iload_n 1, 1) := db_X12_fall_0.2.2.1
theorem dX12_fall_5 : decode cX12_fall 5 = .ok (.iconst 0, 1) := db_X12_fall_0.2.2.2.1
theorem dX12_fall_6 : decode cX12_fall 6 = .ok (.bastore, 1) := db_X12_fall_0.2.2.2.2.1
theorem dX12_fall_7 : decode cX12_fall 7 = .ok (.iconst 0, 1) := db_X12_fall_0.2.2.2.2.2.1
theorem dX12_fall_8 : decode cX12_fall 8 = .ok (.istore_n 2, 1) := db_X12_fall_0.2.2.2.2.2.2.1
theorem dX12_fall_9 : decode cX12_fall 9 = .ok (.iconst 0, 1) := db_X12_fall_0.2.2.2.2.2.2.2.1
theorem dX12_fall_10 : decode cX12_fall 10 = .ok (.istore_n 3, 1) := db_X12_fall_0.2.2.2.2.2.2.2.2.1
theorem dX12_fall_11 : decode cX12_fall 11 = .ok (.iload_n 3, 1) := db_X12_fall_0.2.2.2.2.2.2.2.2.2.1
theorem dX12_fall_12 : decode cX12_fall 12 = .ok (.aload_n 0, 1) := db_X12_fall_0.2.2.2.2.2.2.2.2.2.2.1
theorem dX12_fall_13 : decode cX12_fall 13 = .ok (.getfield 333, 3) := db_X12_fall_0.2.2.2.2.2.2.2.2.2.2.2.1
theorem dX12_fall_16 : decode cX12_fall 16 = .ok (.if_icmp .ge 46, 3) := db_X12_fall_0.2.2.2.2.2.2.2.2.2.2.2.2.1
theorem dX12_fall_62 : decode cX12_fall 62 = .ok (.iconst 0, 1) := db_X12_fall_0.2.2.2.2.2.2.2.2.2.2.2.2.2.1
theorem dX12_fall_63 : decode cX12_fall 63 = .ok (.istore_n 3, 1) := db_X12_fall_0.2.2.2.2.2.2.2.2.2.2.2.2.2.2.1
theorem dX12_fall_64 : decode cX12_fall 64 = .ok (.iload_n 3, 1) := db_X12_fall_0.2.2.2.2.2.2.2.2.2.2.2.2.2.2.2
theorem db_X12_fall_65 : decode cX12_fall 65 = .ok (.bipush 8, 2) ∧ decode cX12_fall 67 = .ok (.if_icmp .ge 29, 3) ∧ decode cX12_fall 70 = .ok (.iload_n 1, 1) ∧ decode cX12_fall 71 = .ok (.aload_n 0, 1) ∧ decode cX12_fall 72 = .ok (.getfield 321, 3) ∧ decode cX12_fall 75 = .ok (.if_icmp .ge 21, 3) ∧ decode cX12_fall 78 = .ok (.aload_n 0, 1) ∧ decode cX12_fall 79 = .ok (.getfield 225, 3) ∧ decode cX12_fall 82 = .ok (.bipush 8, 2) ∧ decode cX12_fall 84 = .ok (.iload_n 1, 1) ∧ decode cX12_fall 85 = .ok (.imul, 1) ∧ decode cX12_fall 86 = .ok (.iload_n 3, 1) ∧ decode cX12_fall 87 = .ok (.iadd, 1) ∧ decode cX12_fall 88 = .ok (.iconst 0, 1) ∧ decode cX12_fall 89 = .ok (.bastore, 1) ∧ decode cX12_fall 90 = .ok (.iinc 3 1, 3) := by decide +kernel
theorem dX12_fall_65 : decode cX12_fall 65 = .ok (.bipush 8, 2) := db_X12_fall_65.1
theorem dX12_fall_67 : decode cX12_fall 67 = .ok (.if_icmp .ge 29, 3) := db_X12_fall_65.2.1
theorem dX12_fall_70 : decode cX12_fall 70 = .ok (.iload_n 1, 1) := db_X12_fall_65.2.2.1
theorem dX12_fall_71 : decode cX12_fall 71 = .ok (.aload_n 0, 1) := db_X12_fall_65.2.2.2.1
theorem dX12_fall_72 : decode cX12_fall 72 = .ok (.getfield 321, 3) := db_X12_fall_65.2.2.2.2.1
theorem dX12_fall_75 : decode cX12_fall 75 = .ok (.if_icmp .ge 21, 3) := db_X12_fall_65.2.2.2.2.2.1
theorem dX12_fall_78 : decode cX12_fall 78 = .ok (.aload_n 0, 1) := db_X12_fall_65.2.2.2.2.2.2.1
theorem dX12_fall_79 : decode cX12_fall 79 = .ok (.getfield 225, 3) := db_X12_fall_65.2.2.2.2.2.2.2.1
theorem dX12_fall_82 : decode cX12_fall 82 = .ok (.bipush 8, 2) := db_X12_fall_65.2.2.2.2.2.2.2.2.1
theorem dX12_fall_84 : decode cX12_fall 84 = .ok (.iload_n 1, 1) := db_X12_fall_65.2.2.2.2.2.2.2.2.2.1
theorem dX12_fall_85 : decode cX12_fall 85 = .ok (.imul, 1) := db_X12_fall_65.2.2.2.2.2.2.2.2.2.2.1
theorem dX12_fall_86 : decode cX12_fall 86 = .ok (.iload_n 3, 1) := db_X12_fall_65.2.2.2.2.2.2.2.2.2.2.2.1
theorem dX12_fall_87 : decode cX12_fall 87 = .ok (.iadd, 1) := db_X12_fall_65.2.2.2.2.2.2.2.2.2.2.2.2.1
theorem dX12_fall_88 : decode cX12_fall 88 = .ok (.iconst 0, 1) := db_X12_fall_65.2.2.2.2.2.2.2.2.2.2.2.2.2.1
theorem dX12_fall_89 : decode cX12_fall 89 = .ok (.bastore, 1) := db_X12_fall_65.2.2.2.2.2.2.2.2.2.2.2.2.2.2.1
theorem dX12_fall_90 : decode cX12_fall 90 = .ok (.iinc 3 1, 3) := db_X12_fall_65.2.2.2.2.2.2.2.2.2.2.2.2.2.2.2
theorem db_X12_fall_93 : decode cX12_fall 93 = .ok (.goto (-29), 3) ∧ decode cX12_fall 96 = .ok (.iload_n 2, 1) ∧ decode cX12_fall 97 = .ok (.ireturn, 1) := by decide +kernel
theorem dX12_fall_93 : decode cX12_fall 93 = .ok (.goto (-29), 3) := db_X12_fall_93.1
theorem dX12_fall_96 : decode cX12_fall 96 = .ok (.iload_n 2, 1) := db_X12_fall_93.2.1
theorem dX12_fall_97 : decode cX12_fall 97 = .ok (.ireturn, 1) := db_X12_fall_93.2.2
theorem db_X12_u1_0 : decode cX12_u1 0 = .ok (.aload_n 0, 1) ∧ decode cX12_u1 1 = .ok (.getfield 87, 3) ∧ decode cX12_u1 4 = .ok (.iload_n 1, 1) ∧ decode cX12_u1 5 = .ok (.baload, 1) ∧ decode cX12_u1 6 = .ok (.sipush 255, 3) ∧ decode cX12_u1 9 = .ok (.iand, 1) ∧ decode cX12_u1 10 = .ok (.ireturn, 1) := by decide +kernel
theorem dX12_u1_0 : decode cX12_u1 0 = .ok (.aload_n 0, 1) := db_X12_u1_0.1
theorem dX12_u1_1 : decode cX12_u1 1 = .ok (.getfield 87, 3) := db_X12_u1_0.2.1
theorem dX12_u1_4 : decode cX12_u1 4 = .ok (.iload_n 1, 1) := db_X12_u1_0.2.2.1
theorem dX12_u1_5 : decode cX12_u1 5 = .ok (.baload, 1) := db_X12_u1_0.2.2.2.1
theorem dX12_u1_6 : decode cX12_u1 6 = .ok (.sipush 255, 3) := db_X12_u1_0.2.2.2.2.1
theorem dX12_u1_9 : decode cX12_u1 9 = .ok (.iand, 1) := db_X12_u1_0.2.2.2.2.2.1
theorem dX12_u1_10 : decode cX12_u1 10 = .ok (.ireturn, 1) := db_X12_u1_0.2.2.2.2.2.2
theorem db_X12_liveRequest_0 : decode cX12_liveRequest 0 = .ok (.iconst 5, 1) ∧ decode cX12_liveRequest 1 = .ok (.iload_n 1, 1) ∧ decode cX12_liveRequest 2 = .ok (.imul, 1) ∧ decode cX12_liveRequest 3 = .ok (.istore_n 3, 1) ∧ decode cX12_liveRequest 4 = .ok (.iload_n 3, 1) ∧ decode cX12_liveRequest 5 = .ok (.iconst 5, 1) ∧ decode cX12_liveRequest 6 = .ok (.iload_n 1, 1) ∧ decode cX12_liveRequest 7 = .ok (.imul, 1) ∧ decode cX12_liveRequest 8 = .ok (.aload_n 0, 1) ∧ decode cX12_liveRequest 9 = .ok (.getfield 194, 3) ∧ decode cX12_liveRequest 12 = .ok (.iload_n 1, 1) ∧ decode cX12_liveRequest 13 = .ok (.iaload, 1) ∧ decode cX12_liveRequest 14 = .ok (.iadd, 1) ∧ decode cX12_liveRequest 15 = .ok (.if_icmp .ge 73, 3) ∧ decode cX12_liveRequest 88 = .ok (.iconst (-1), 1) ∧ decode cX12_liveRequest 89 = .ok (.ireturn, 1) := by decide +kernel
theorem dX12_liveRequest_0 : decode cX12_liveRequest 0 = .ok (.iconst 5, 1) := db_X12_liveRequest_0.1
theorem dX12_liveRequest_1 : decode cX12_liveRequest 1 = .ok (.iload_n 1, 1) := db_X12_liveRequest_0.2.1
theorem dX12_liveRequest_2 : decode cX12_liveRequest 2 = .ok (.imul, 1) := db_X12_liveRequest_0.2.2.1
theorem dX12_liveRequest_3 : decode cX12_liveRequest 3 = .ok (.istore_n 3, 1) := db_X12_liveRequest_0.2.2.2.1
theorem dX12_liveRequest_4 : decode cX12_liveRequest 4 = .ok (.iload_n 3, 1) := db_X12_liveRequest_0.2.2.2.2.1
theorem dX12_liveRequest_5 : decode cX12_liveRequest 5 = .ok (.iconst 5, 1) := db_X12_liveRequest_0.2.2.2.2.2.1
theorem dX12_liveRequest_6 : decode cX12_liveRequest 6 = .ok (.iload_n 1, 1) := db_X12_liveRequest_0.2.2.2.2.2.2.1
theorem dX12_liveRequest_7 : decode cX12_liveRequest 7 = .ok (.imul, 1) := db_X12_liveRequest_0.2.2.2.2.2.2.2.1
theorem dX12_liveRequest_8 : decode cX12_liveRequest 8 = .ok (.aload_n 0, 1) := db_X12_liveRequest_0.2.2.2.2.2.2.2.2.1
theorem dX12_liveRequest_9 : decode cX12_liveRequest 9 = .ok (.getfield 194, 3) := db_X12_liveRequest_0.2.2.2.2.2.2.2.2.2.1
theorem dX12_liveRequest_12 : decode cX12_liveRequest 12 = .ok (.iload_n 1, 1) := db_X12_liveRequest_0.2.2.2.2.2.2.2.2.2.2.1
theorem dX12_liveRequest_13 : decode cX12_liveRequest 13 = .ok (.iaload, 1) := db_X12_liveRequest_0.2.2.2.2.2.2.2.2.2.2.2.1
theorem dX12_liveRequest_14 : decode cX12_liveRequest 14 = .ok (.iadd, 1) := db_X12_liveRequest_0.2.2.2.2.2.2.2.2.2.2.2.2.1
theorem dX12_liveRequest_15 : decode cX12_liveRequest 15 = .ok (.if_icmp .ge 73, 3) := db_X12_liveRequest_0.2.2.2.2.2.2.2.2.2.2.2.2.2.1
theorem dX12_liveRequest_88 : decode cX12_liveRequest 88 = .ok (.iconst (-1), 1) := db_X12_liveRequest_0.2.2.2.2.2.2.2.2.2.2.2.2.2.2.1
theorem dX12_liveRequest_89 : decode cX12_liveRequest 89 = .ok (.ireturn, 1) := db_X12_liveRequest_0.2.2.2.2.2.2.2.2.2.2.2.2.2.2.2
theorem db_X12_isLetter_0 : decode cX12_isLetter 0 = .ok (.iload_n 0, 1) ∧ decode cX12_isLetter 1 = .ok (.bipush 97, 2) ∧ decode cX12_isLetter 3 = .ok (.if_icmp .lt 9, 3) ∧ decode cX12_isLetter 12 = .ok (.iload_n 0, 1) ∧ decode cX12_isLetter 13 = .ok (.bipush 65, 2) ∧ decode cX12_isLetter 15 = .ok (.if_icmp .lt 13, 3) ∧ decode cX12_isLetter 28 = .ok (.iconst 0, 1) ∧ decode cX12_isLetter 29 = .ok (.ireturn, 1) := by decide +kernel
theorem dX12_isLetter_0 : decode cX12_isLetter 0 = .ok (.iload_n 0, 1) := db_X12_isLetter_0.1
theorem dX12_isLetter_1 : decode cX12_isLetter 1 = .ok (.bipush 97, 2) := db_X12_isLetter_0.2.1
theorem dX12_isLetter_3 : decode cX12_isLetter 3 = .ok (.if_icmp .lt 9, 3) := db_X12_isLetter_0.2.2.1
theorem dX12_isLetter_12 : decode cX12_isLetter 12 = .ok (.iload_n 0, 1) := db_X12_isLetter_0.2.2.2.1
theorem dX12_isLetter_13 : decode cX12_isLetter 13 = .ok (.bipush 65, 2) := db_X12_isLetter_0.2.2.2.2.1
theorem dX12_isLetter_15 : decode cX12_isLetter 15 = .ok (.if_icmp .lt 13, 3) := db_X12_isLetter_0.2.2.2.2.2.1
theorem dX12_isLetter_28 : decode cX12_isLetter 28 = .ok (.iconst 0, 1) := db_X12_isLetter_0.2.2.2.2.2.2.1
theorem dX12_isLetter_29 : decode cX12_isLetter 29 = .ok (.ireturn, 1) := db_X12_isLetter_0.2.2.2.2.2.2.2
theorem db_X12_isRow_0 : decode cX12_isRow 0 = .ok (.iload_n 0, 1) ∧ decode cX12_isRow 1 = .ok (.invokestatic 499, 3) ∧ decode cX12_isRow 4 = .ok (.ifCond .ne 15, 3) ∧ decode cX12_isRow 7 = .ok (.iload_n 0, 1) ∧ decode cX12_isRow 8 = .ok (.bipush 48, 2) ∧ decode cX12_isRow 10 = .ok (.if_icmp .lt 13, 3) ∧ decode cX12_isRow 23 = .ok (.iconst 0, 1) ∧ decode cX12_isRow 24 = .ok (.ireturn, 1) := by decide +kernel
theorem dX12_isRow_0 : decode cX12_isRow 0 = .ok (.iload_n 0, 1) := db_X12_isRow_0.1
theorem dX12_isRow_1 : decode cX12_isRow 1 = .ok (.invokestatic 499, 3) := db_X12_isRow_0.2.1
theorem dX12_isRow_4 : decode cX12_isRow 4 = .ok (.ifCond .ne 15, 3) := db_X12_isRow_0.2.2.1
theorem dX12_isRow_7 : decode cX12_isRow 7 = .ok (.iload_n 0, 1) := db_X12_isRow_0.2.2.2.1
theorem dX12_isRow_8 : decode cX12_isRow 8 = .ok (.bipush 48, 2) := db_X12_isRow_0.2.2.2.2.1
theorem dX12_isRow_10 : decode cX12_isRow 10 = .ok (.if_icmp .lt 13, 3) := db_X12_isRow_0.2.2.2.2.2.1
theorem dX12_isRow_23 : decode cX12_isRow 23 = .ok (.iconst 0, 1) := db_X12_isRow_0.2.2.2.2.2.2.1
theorem dX12_isRow_24 : decode cX12_isRow 24 = .ok (.ireturn, 1) := db_X12_isRow_0.2.2.2.2.2.2.2
theorem db_X12_sign_0 : decode cX12_sign 0 = .ok (.aload_n 0, 1) ∧ decode cX12_sign 1 = .ok (.getfield 537, 3) ∧ decode cX12_sign 4 = .ok (.aload_n 0, 1) ∧ decode cX12_sign 5 = .ok (.getfield 540, 3) ∧ decode cX12_sign 8 = .ok (.if_icmp .ge 15, 3) ∧ decode cX12_sign 23 = .ok (.iconst (-1), 1) ∧ decode cX12_sign 24 = .ok (.ireturn, 1) := by decide +kernel
theorem dX12_sign_0 : decode cX12_sign 0 = .ok (.aload_n 0, 1) := db_X12_sign_0.1
theorem dX12_sign_1 : decode cX12_sign 1 = .ok (.getfield 537, 3) := db_X12_sign_0.2.1
theorem dX12_sign_4 : decode cX12_sign 4 = .ok (.aload_n 0, 1) := db_X12_sign_0.2.2.1
theorem dX12_sign_5 : decode cX12_sign 5 = .ok (.getfield 540, 3) := db_X12_sign_0.2.2.2.1
theorem dX12_sign_8 : decode cX12_sign 8 = .ok (.if_icmp .ge 15, 3) := db_X12_sign_0.2.2.2.2.1
theorem dX12_sign_23 : decode cX12_sign 23 = .ok (.iconst (-1), 1) := db_X12_sign_0.2.2.2.2.2.1
theorem dX12_sign_24 : decode cX12_sign 24 = .ok (.ireturn, 1) := db_X12_sign_0.2.2.2.2.2.2
theorem db_X12_skipBlanks_0 : decode cX12_skipBlanks 0 = .ok (.aload_n 0, 1) ∧ decode cX12_skipBlanks 1 = .ok (.invokevirtual 543, 3) ∧ decode cX12_skipBlanks 4 = .ok (.bipush 32, 2) ∧ decode cX12_skipBlanks 6 = .ok (.if_icmp .ne 16, 3) ∧ decode cX12_skipBlanks 22 = .ok (.return_, 1) := by decide +kernel
theorem dX12_skipBlanks_0 : decode cX12_skipBlanks 0 = .ok (.aload_n 0, 1) := db_X12_skipBlanks_0.1
theorem dX12_skipBlanks_1 : decode cX12_skipBlanks 1 = .ok (.invokevirtual 543, 3) := db_X12_skipBlanks_0.2.1
theorem dX12_skipBlanks_4 : decode cX12_skipBlanks 4 = .ok (.bipush 32, 2) := db_X12_skipBlanks_0.2.2.1
theorem dX12_skipBlanks_6 : decode cX12_skipBlanks 6 = .ok (.if_icmp .ne 16, 3) := db_X12_skipBlanks_0.2.2.2.1
theorem dX12_skipBlanks_22 : decode cX12_skipBlanks 22 = .ok (.return_, 1) := db_X12_skipBlanks_0.2.2.2.2
theorem db_X12_question_0 : decode cX12_question 0 = .ok (.aload_n 0, 1) ∧ decode cX12_question 1 = .ok (.iload_n 1, 1) ∧ decode cX12_question 2 = .ok (.putfield 537, 3) ∧ decode cX12_question 5 = .ok (.aload_n 0, 1) ∧ decode cX12_question 6 = .ok (.iload_n 1, 1) ∧ decode cX12_question 7 = .ok (.iload_n 2, 1) ∧ decode cX12_question 8 = .ok (.iadd, 1) ∧ decode cX12_question 9 = .ok (.putfield 540, 3) ∧ decode cX12_question 12 = .ok (.aload_n 0, 1) ∧ decode cX12_question 13 = .ok (.iconst 0, 1) ∧ decode cX12_question 14 = .ok (.putfield 547, 3) ∧ decode cX12_question 17 = .ok (.aload_n 0, 1) ∧ decode cX12_question 18 = .ok (.iconst (-1), 1) ∧ decode cX12_question 19 = .ok (.putfield 550, 3) ∧ decode cX12_question 22 = .ok (.aload_n 0, 1) ∧ decode cX12_question 23 = .ok (.invokevirtual 553, 3) := by decide +kernel
theorem dX12_question_0 : decode cX12_question 0 = .ok (.aload_n 0, 1) := db_X12_question_0.1
theorem dX12_question_1 : decode cX12_question 1 = .ok (.iload_n 1, 1) := db_X12_question_0.2.1
theorem dX12_question_2 : decode cX12_question 2 = .ok (.putfield 537, 3) := db_X12_question_0.2.2.1
theorem dX12_question_5 : decode cX12_question 5 = .ok (.aload_n 0, 1) := db_X12_question_0.2.2.2.1
theorem dX12_question_6 : decode cX12_question 6 = .ok (.iload_n 1, 1) := db_X12_question_0.2.2.2.2.1
theorem dX12_question_7 : decode cX12_question 7 = .ok (.iload_n 2, 1) := db_X12_question_0.2.2.2.2.2.1
theorem dX12_question_8 : decode cX12_question 8 = .ok (.iadd, 1) := db_X12_question_0.2.2.2.2.2.2.1
theorem dX12_question_9 : decode cX12_question 9 = .ok (.putfield 540, 3) := db_X12_question_0.2.2.2.2.2.2.2.1
theorem dX12_question_12 : decode cX12_question 12 = .ok (.aload_n 0, 1) := db_X12_question_0.2.2.2.2.2.2.2.2.1
theorem dX12_question_13 : decode cX12_question 13 = .ok (.iconst 0, 1) := db_X12_question_0.2.2.2.2.2.2.2.2.2.1
theorem dX12_question_14 : decode cX12_question 14 = .ok (.putfield 547, 3) := db_X12_question_0.2.2.2.2.2.2.2.2.2.2.1
theorem dX12_question_17 : decode cX12_question 17 = .ok (.aload_n 0, 1) := db_X12_question_0.2.2.2.2.2.2.2.2.2.2.2.1
theorem dX12_question_18 : decode cX12_question 18 = .ok (.iconst (-1), 1) := db_X12_question_0.2.2.2.2.2.2.2.2.2.2.2.2.1
theorem dX12_question_19 : decode cX12_question 19 = .ok (.putfield 550, 3) := db_X12_question_0.2.2.2.2.2.2.2.2.2.2.2.2.2.1
theorem dX12_question_22 : decode cX12_question 22 = .ok (.aload_n 0, 1) := db_X12_question_0.2.2.2.2.2.2.2.2.2.2.2.2.2.2.1
theorem dX12_question_23 : decode cX12_question 23 = .ok (.invokevirtual 553, 3) := db_X12_question_0.2.2.2.2.2.2.2.2.2.2.2.2.2.2.2
theorem db_X12_question_26 : decode cX12_question 26 = .ok (.iconst 1, 1) ∧ decode cX12_question 27 = .ok (.istore_n 3, 1) ∧ decode cX12_question 28 = .ok (.iload_n 3, 1) ∧ decode cX12_question 29 = .ok (.ifCond .eq 84, 3) ∧ decode cX12_question 32 = .ok (.aload_n 0, 1) ∧ decode cX12_question 33 = .ok (.getfield 550, 3) ∧ decode cX12_question 36 = .ok (.iconst (-1), 1) ∧ decode cX12_question 37 = .ok (.if_icmp .ne 76, 3) ∧ decode cX12_question 40 = .ok (.aload_n 0, 1) ∧ decode cX12_question 41 = .ok (.iload_n 1, 1) ∧ decode cX12_question 42 = .ok (.invokevirtual 556, 3) ∧ decode cX12_question 45 = .ok (.aload_n 0, 1) ∧ decode cX12_question 46 = .ok (.getfield 550, 3) ∧ decode cX12_question 49 = .ok (.iconst (-1), 1) ∧ decode cX12_question 50 = .ok (.if_icmp .ne (-22), 3) ∧ decode cX12_question 113 = .ok (.return_, 1) := by decide +kernel
theorem dX12_question_26 : decode cX12_question 26 = .ok (.iconst 1, 1) := db_X12_question_26.1
theorem dX12_question_27 : decode cX12_question 27 = .ok (.istore_n 3, 1) := db_X12_question_26.2.1
theorem dX12_question_28 : decode cX12_question 28 = .ok (.iload_n 3, 1) := db_X12_question_26.2.2.1
theorem dX12_question_29 : decode cX12_question 29 = .ok (.ifCond .eq 84, 3) := db_X12_question_26.2.2.2.1
theorem dX12_question_32 : decode cX12_question 32 = .ok (.aload_n 0, 1) := db_X12_question_26.2.2.2.2.1
theorem dX12_question_33 : decode cX12_question 33 = .ok (.getfield 550, 3) := db_X12_question_26.2.2.2.2.2.1
theorem dX12_question_36 : decode cX12_question 36 = .ok (.iconst (-1), 1) := db_X12_question_26.2.2.2.2.2.2.1
theorem dX12_question_37 : decode cX12_question 37 = .ok (.if_icmp .ne 76, 3) := db_X12_question_26.2.2.2.2.2.2.2.1
theorem dX12_question_40 : decode cX12_question 40 = .ok (.aload_n 0, 1) := db_X12_question_26.2.2.2.2.2.2.2.2.1
theorem dX12_question_41 : decode cX12_question 41 = .ok (.iload_n 1, 1) := db_X12_question_26.2.2.2.2.2.2.2.2.2.1
theorem dX12_question_42 : decode cX12_question 42 = .ok (.invokevirtual 556, 3) := db_X12_question_26.2.2.2.2.2.2.2.2.2.2.1
theorem dX12_question_45 : decode cX12_question 45 = .ok (.aload_n 0, 1) := db_X12_question_26.2.2.2.2.2.2.2.2.2.2.2.1
theorem dX12_question_46 : decode cX12_question 46 = .ok (.getfield 550, 3) := db_X12_question_26.2.2.2.2.2.2.2.2.2.2.2.2.1
theorem dX12_question_49 : decode cX12_question 49 = .ok (.iconst (-1), 1) := db_X12_question_26.2.2.2.2.2.2.2.2.2.2.2.2.2.1
theorem dX12_question_50 : decode cX12_question 50 = .ok (.if_icmp .ne (-22), 3) := db_X12_question_26.2.2.2.2.2.2.2.2.2.2.2.2.2.2.1
theorem dX12_question_113 : decode cX12_question 113 = .ok (.return_, 1) := db_X12_question_26.2.2.2.2.2.2.2.2.2.2.2.2.2.2.2
theorem db_X12_clause_0 : decode cX12_clause 0 = .ok (.aload_n 0, 1) ∧ decode cX12_clause 1 = .ok (.getfield 537, 3) ∧ decode cX12_clause 4 = .ok (.istore_n 2, 1) ∧ decode cX12_clause 5 = .ok (.aload_n 0, 1) ∧ decode cX12_clause 6 = .ok (.invokevirtual 543, 3) ∧ decode cX12_clause 9 = .ok (.bipush 43, 2) ∧ decode cX12_clause 11 = .ok (.if_icmp .ne 7, 3) ∧ decode cX12_clause 18 = .ok (.aload_n 0, 1) ∧ decode cX12_clause 19 = .ok (.invokevirtual 543, 3) ∧ decode cX12_clause 22 = .ok (.bipush 45, 2) ∧ decode cX12_clause 24 = .ok (.if_icmp .ne 7, 3) ∧ decode cX12_clause 31 = .ok (.iconst 0, 1) ∧ decode cX12_clause 32 = .ok (.istore_n 3, 1) ∧ decode cX12_clause 33 = .ok (.iload_n 3, 1) ∧ decode cX12_clause 34 = .ok (.ifCond .gt 22, 3) ∧ decode cX12_clause 37 = .ok (.aload_n 0, 1) := by decide +kernel
theorem dX12_clause_0 : decode cX12_clause 0 = .ok (.aload_n 0, 1) := db_X12_clause_0.1
theorem dX12_clause_1 : decode cX12_clause 1 = .ok (.getfield 537, 3) := db_X12_clause_0.2.1
theorem dX12_clause_4 : decode cX12_clause 4 = .ok (.istore_n 2, 1) := db_X12_clause_0.2.2.1
theorem dX12_clause_5 : decode cX12_clause 5 = .ok (.aload_n 0, 1) := db_X12_clause_0.2.2.2.1
theorem dX12_clause_6 : decode cX12_clause 6 = .ok (.invokevirtual 543, 3) := db_X12_clause_0.2.2.2.2.1
theorem dX12_clause_9 : decode cX12_clause 9 = .ok (.bipush 43, 2) := db_X12_clause_0.2.2.2.2.2.1
theorem dX12_clause_11 : decode cX12_clause 11 = .ok (.if_icmp .ne 7, 3) := db_X12_clause_0.2.2.2.2.2.2.1
theorem dX12_clause_18 : decode cX12_clause 18 = .ok (.aload_n 0, 1) := db_X12_clause_0.2.2.2.2.2.2.2.1
theorem dX12_clause_19 : decode cX12_clause 19 = .ok (.invokevirtual 543, 3) := db_X12_clause_0.2.2.2.2.2.2.2.2.1
theorem dX12_clause_22 : decode cX12_clause 22 = .ok (.bipush 45, 2) := db_X12_clause_0.2.2.2.2.2.2.2.2.2.1
theorem dX12_clause_24 : decode cX12_clause 24 = .ok (.if_icmp .ne 7, 3) := db_X12_clause_0.2.2.2.2.2.2.2.2.2.2.1
theorem dX12_clause_31 : decode cX12_clause 31 = .ok (.iconst 0, 1) := db_X12_clause_0.2.2.2.2.2.2.2.2.2.2.2.1
theorem dX12_clause_32 : decode cX12_clause 32 = .ok (.istore_n 3, 1) := db_X12_clause_0.2.2.2.2.2.2.2.2.2.2.2.2.1
theorem dX12_clause_33 : decode cX12_clause 33 = .ok (.iload_n 3, 1) := db_X12_clause_0.2.2.2.2.2.2.2.2.2.2.2.2.2.1
theorem dX12_clause_34 : decode cX12_clause 34 = .ok (.ifCond .gt 22, 3) := db_X12_clause_0.2.2.2.2.2.2.2.2.2.2.2.2.2.2.1
theorem dX12_clause_37 : decode cX12_clause 37 = .ok (.aload_n 0, 1) := db_X12_clause_0.2.2.2.2.2.2.2.2.2.2.2.2.2.2.2
theorem db_X12_clause_38 : decode cX12_clause 38 = .ok (.invokevirtual 543, 3) ∧ decode cX12_clause 41 = .ok (.bipush 34, 2) ∧ decode cX12_clause 43 = .ok (.if_icmp .eq 13, 3) ∧ decode cX12_clause 46 = .ok (.aload_n 0, 1) ∧ decode cX12_clause 47 = .ok (.invokevirtual 543, 3) ∧ decode cX12_clause 50 = .ok (.invokestatic 521, 3) ∧ decode cX12_clause 53 = .ok (.ifCond .eq 7, 3) ∧ decode cX12_clause 60 = .ok (.iconst 0, 1) ∧ decode cX12_clause 61 = .ok (.istore 4, 2) ∧ decode cX12_clause 63 = .ok (.iload 4, 2) ∧ decode cX12_clause 65 = .ok (.ifCond .eq 12, 3) ∧ decode cX12_clause 77 = .ok (.aload_n 0, 1) ∧ decode cX12_clause 78 = .ok (.iload_n 2, 1) ∧ decode cX12_clause 79 = .ok (.iload_n 1, 1) ∧ decode cX12_clause 80 = .ok (.isub, 1) ∧ decode cX12_clause 81 = .ok (.putfield 550, 3) := by decide +kernel
theorem dX12_clause_38 : decode cX12_clause 38 = .ok (.invokevirtual 543, 3) := db_X12_clause_38.1
theorem dX12_clause_41 : decode cX12_clause 41 = .ok (.bipush 34, 2) := db_X12_clause_38.2.1
theorem dX12_clause_43 : decode cX12_clause 43 = .ok (.if_icmp .eq 13, 3) := db_X12_clause_38.2.2.1
theorem dX12_clause_46 : decode cX12_clause 46 = .ok (.aload_n 0, 1) := db_X12_clause_38.2.2.2.1
theorem dX12_clause_47 : decode cX12_clause 47 = .ok (.invokevirtual 543, 3) := db_X12_clause_38.2.2.2.2.1
theorem dX12_clause_50 : decode cX12_clause 50 = .ok (.invokestatic 521, 3) := db_X12_clause_38.2.2.2.2.2.1
theorem dX12_clause_53 : decode cX12_clause 53 = .ok (.ifCond .eq 7, 3) := db_X12_clause_38.2.2.2.2.2.2.1
theorem dX12_clause_60 : decode cX12_clause 60 = .ok (.iconst 0, 1) := db_X12_clause_38.2.2.2.2.2.2.2.1
theorem dX12_clause_61 : decode cX12_clause 61 = .ok (.istore 4, 2) := db_X12_clause_38.2.2.2.2.2.2.2.2.1
theorem dX12_clause_63 : decode cX12_clause 63 = .ok (.iload 4, 2) := db_X12_clause_38.2.2.2.2.2.2.2.2.2.1
theorem dX12_clause_65 : decode cX12_clause 65 = .ok (.ifCond .eq 12, 3) := db_X12_clause_38.2.2.2.2.2.2.2.2.2.2.1
theorem dX12_clause_77 : decode cX12_clause 77 = .ok (.aload_n 0, 1) := db_X12_clause_38.2.2.2.2.2.2.2.2.2.2.2.1
theorem dX12_clause_78 : decode cX12_clause 78 = .ok (.iload_n 2, 1) := db_X12_clause_38.2.2.2.2.2.2.2.2.2.2.2.2.1
theorem dX12_clause_79 : decode cX12_clause 79 = .ok (.iload_n 1, 1) := db_X12_clause_38.2.2.2.2.2.2.2.2.2.2.2.2.2.1
theorem dX12_clause_80 : decode cX12_clause 80 = .ok (.isub, 1) := db_X12_clause_38.2.2.2.2.2.2.2.2.2.2.2.2.2.2.1
theorem dX12_clause_81 : decode cX12_clause 81 = .ok (.putfield 550, 3) := db_X12_clause_38.2.2.2.2.2.2.2.2.2.2.2.2.2.2.2
theorem dX12_clause_84 : decode cX12_clause 84 = .ok (.return_, 1) := by decide +kernel
theorem db_X12_heard_0 : decode cX12_heard 0 = .ok (.aload_n 0, 1) ∧ decode cX12_heard 1 = .ok (.getfield 188, 3) ∧ decode cX12_heard 4 = .ok (.iload_n 1, 1) ∧ decode cX12_heard 5 = .ok (.iconst 1, 1) ∧ decode cX12_heard 6 = .ok (.bastore, 1) ∧ decode cX12_heard 7 = .ok (.aload_n 0, 1) ∧ decode cX12_heard 8 = .ok (.getfield 191, 3) ∧ decode cX12_heard 11 = .ok (.iload_n 1, 1) ∧ decode cX12_heard 12 = .ok (.aload_n 0, 1) ∧ decode cX12_heard 13 = .ok (.getfield 330, 3) ∧ decode cX12_heard 16 = .ok (.iastore, 1) ∧ decode cX12_heard 17 = .ok (.iconst 0, 1) ∧ decode cX12_heard 18 = .ok (.istore_n 3, 1) ∧ decode cX12_heard 19 = .ok (.iconst 0, 1) ∧ decode cX12_heard 20 = .ok (.istore 4, 2) ∧ decode cX12_heard 22 = .ok (.iload 4, 2) := by decide +kernel
theorem dX12_heard_0 : decode cX12_heard 0 = .ok (.aload_n 0, 1) := db_X12_heard_0.1
theorem dX12_heard_1 : decode cX12_heard 1 = .ok (.getfield 188, 3) := db_X12_heard_0.2.1
theorem dX12_heard_4 : decode cX12_heard 4 = .ok (.iload_n 1, 1) := db_X12_heard_0.2.2.1
theorem dX12_heard_5 : decode cX12_heard 5 = .ok (.iconst 1, 1) := db_X12_heard_0.2.2.2.1
theorem dX12_heard_6 : decode cX12_heard 6 = .ok (.bastore, 1) := db_X12_heard_0.2.2.2.2.1
theorem dX12_heard_7 : decode cX12_heard 7 = .ok (.aload_n 0, 1) := db_X12_heard_0.2.2.2.2.2.1
theorem dX12_heard_8 : decode cX12_heard 8 = .ok (.getfield 191, 3) := db_X12_heard_0.2.2.2.2.2.2.1
theorem dX12_heard_11 : decode cX12_heard 11 = .ok (.iload_n 1, 1) := db_X12_heard_0.2.2.2.2.2.2.2.1
theorem dX12_heard_12 : decode cX12_heard 12 = .ok (.aload_n 0, 1) := db_X12_heard_0.2.2.2.2.2.2.2.2.1
theorem dX12_heard_13 : decode cX12_heard 13 = .ok (.getfield 330, 3) := db_X12_heard_0.2.2.2.2.2.2.2.2.2.1
theorem dX12_heard_16 : decode cX12_heard 16 = .ok (.iastore, 1) := db_X12_heard_0.2.2.2.2.2.2.2.2.2.2.1
theorem dX12_heard_17 : decode cX12_heard 17 = .ok (.iconst 0, 1) := db_X12_heard_0.2.2.2.2.2.2.2.2.2.2.2.1
theorem dX12_heard_18 : decode cX12_heard 18 = .ok (.istore_n 3, 1) := db_X12_heard_0.2.2.2.2.2.2.2.2.2.2.2.2.1
theorem dX12_heard_19 : decode cX12_heard 19 = .ok (.iconst 0, 1) := db_X12_heard_0.2.2.2.2.2.2.2.2.2.2.2.2.2.1
theorem dX12_heard_20 : decode cX12_heard 20 = .ok (.istore 4, 2) := db_X12_heard_0.2.2.2.2.2.2.2.2.2.2.2.2.2.2.1
theorem dX12_heard_22 : decode cX12_heard 22 = .ok (.iload 4, 2) := db_X12_heard_0.2.2.2.2.2.2.2.2.2.2.2.2.2.2.2
theorem db_X12_heard_24 : decode cX12_heard 24 = .ok (.aload_n 0, 1) ∧ decode cX12_heard 25 = .ok (.getfield 327, 3) ∧ decode cX12_heard 28 = .ok (.if_icmp .ge 74, 3) ∧ decode cX12_heard 31 = .ok (.aload_n 0, 1) ∧ decode cX12_heard 32 = .ok (.getfield 77, 3) ∧ decode cX12_heard 35 = .ok (.aload_n 0, 1) ∧ decode cX12_heard 36 = .ok (.getfield 321, 3) ∧ decode cX12_heard 39 = .ok (.baload, 1) ∧ decode cX12_heard 40 = .ok (.ifCond .eq 62, 3) ∧ decode cX12_heard 43 = .ok (.bipush 20, 2) ∧ decode cX12_heard 45 = .ok (.iload 4, 2) ∧ decode cX12_heard 47 = .ok (.iadd, 1) ∧ decode cX12_heard 48 = .ok (.istore 5, 2) ∧ decode cX12_heard 50 = .ok (.aload_n 0, 1) ∧ decode cX12_heard 51 = .ok (.getfield 188, 3) ∧ decode cX12_heard 54 = .ok (.aload_n 0, 1) := by decide +kernel
theorem dX12_heard_24 : decode cX12_heard 24 = .ok (.aload_n 0, 1) := db_X12_heard_24.1
theorem dX12_heard_25 : decode cX12_heard 25 = .ok (.getfield 327, 3) := db_X12_heard_24.2.1
theorem dX12_heard_28 : decode cX12_heard 28 = .ok (.if_icmp .ge 74, 3) := db_X12_heard_24.2.2.1
theorem dX12_heard_31 : decode cX12_heard 31 = .ok (.aload_n 0, 1) := db_X12_heard_24.2.2.2.1
theorem dX12_heard_32 : decode cX12_heard 32 = .ok (.getfield 77, 3) := db_X12_heard_24.2.2.2.2.1
theorem dX12_heard_35 : decode cX12_heard 35 = .ok (.aload_n 0, 1) := db_X12_heard_24.2.2.2.2.2.1
theorem dX12_heard_36 : decode cX12_heard 36 = .ok (.getfield 321, 3) := db_X12_heard_24.2.2.2.2.2.2.1
theorem dX12_heard_39 : decode cX12_heard 39 = .ok (.baload, 1) := db_X12_heard_24.2.2.2.2.2.2.2.1
theorem dX12_heard_40 : decode cX12_heard 40 = .ok (.ifCond .eq 62, 3) := db_X12_heard_24.2.2.2.2.2.2.2.2.1
theorem dX12_heard_43 : decode cX12_heard 43 = .ok (.bipush 20, 2) := db_X12_heard_24.2.2.2.2.2.2.2.2.2.1
theorem dX12_heard_45 : decode cX12_heard 45 = .ok (.iload 4, 2) := db_X12_heard_24.2.2.2.2.2.2.2.2.2.2.1
theorem dX12_heard_47 : decode cX12_heard 47 = .ok (.iadd, 1) := db_X12_heard_24.2.2.2.2.2.2.2.2.2.2.2.1
theorem dX12_heard_48 : decode cX12_heard 48 = .ok (.istore 5, 2) := db_X12_heard_24.2.2.2.2.2.2.2.2.2.2.2.2.1
theorem dX12_heard_50 : decode cX12_heard 50 = .ok (.aload_n 0, 1) := db_X12_heard_24.2.2.2.2.2.2.2.2.2.2.2.2.2.1
theorem dX12_heard_51 : decode cX12_heard 51 = .ok (.getfield 188, 3) := db_X12_heard_24.2.2.2.2.2.2.2.2.2.2.2.2.2.2.1
theorem dX12_heard_54 : decode cX12_heard 54 = .ok (.aload_n 0, 1) := db_X12_heard_24.2.2.2.2.2.2.2.2.2.2.2.2.2.2.2
theorem db_X12_heard_55 : decode cX12_heard 55 = .ok (.getfield 179, 3) ∧ decode cX12_heard 58 = .ok (.iload 5, 2) ∧ decode cX12_heard 60 = .ok (.iaload, 1) ∧ decode cX12_heard 61 = .ok (.baload, 1) ∧ decode cX12_heard 62 = .ok (.ifCond .ne 34, 3) ∧ decode cX12_heard 96 = .ok (.iinc 4 1, 3) ∧ decode cX12_heard 99 = .ok (.goto (-77), 3) ∧ decode cX12_heard 102 = .ok (.iconst 0, 1) ∧ decode cX12_heard 103 = .ok (.istore 4, 2) ∧ decode cX12_heard 105 = .ok (.iload 4, 2) ∧ decode cX12_heard 107 = .ok (.aload_n 0, 1) ∧ decode cX12_heard 108 = .ok (.getfield 327, 3) ∧ decode cX12_heard 111 = .ok (.if_icmp .ge 48, 3) ∧ decode cX12_heard 114 = .ok (.aload_n 0, 1) ∧ decode cX12_heard 115 = .ok (.getfield 77, 3) ∧ decode cX12_heard 118 = .ok (.aload_n 0, 1) := by decide +kernel
theorem dX12_heard_55 : decode cX12_heard 55 = .ok (.getfield 179, 3) := db_X12_heard_55.1
theorem dX12_heard_58 : decode cX12_heard 58 = .ok (.iload 5, 2) := db_X12_heard_55.2.1
theorem dX12_heard_60 : decode cX12_heard 60 = .ok (.iaload, 1) := db_X12_heard_55.2.2.1
theorem dX12_heard_61 : decode cX12_heard 61 = .ok (.baload, 1) := db_X12_heard_55.2.2.2.1
theorem dX12_heard_62 : decode cX12_heard 62 = .ok (.ifCond .ne 34, 3) := db_X12_heard_55.2.2.2.2.1
theorem dX12_heard_96 : decode cX12_heard 96 = .ok (.iinc 4 1, 3) := db_X12_heard_55.2.2.2.2.2.1
theorem dX12_heard_99 : decode cX12_heard 99 = .ok (.goto (-77), 3) := db_X12_heard_55.2.2.2.2.2.2.1
theorem dX12_heard_102 : decode cX12_heard 102 = .ok (.iconst 0, 1) := db_X12_heard_55.2.2.2.2.2.2.2.1
theorem dX12_heard_103 : decode cX12_heard 103 = .ok (.istore 4, 2) := db_X12_heard_55.2.2.2.2.2.2.2.2.1
theorem dX12_heard_105 : decode cX12_heard 105 = .ok (.iload 4, 2) := db_X12_heard_55.2.2.2.2.2.2.2.2.2.1
theorem dX12_heard_107 : decode cX12_heard 107 = .ok (.aload_n 0, 1) := db_X12_heard_55.2.2.2.2.2.2.2.2.2.2.1
theorem dX12_heard_108 : decode cX12_heard 108 = .ok (.getfield 327, 3) := db_X12_heard_55.2.2.2.2.2.2.2.2.2.2.2.1
theorem dX12_heard_111 : decode cX12_heard 111 = .ok (.if_icmp .ge 48, 3) := db_X12_heard_55.2.2.2.2.2.2.2.2.2.2.2.2.1
theorem dX12_heard_114 : decode cX12_heard 114 = .ok (.aload_n 0, 1) := db_X12_heard_55.2.2.2.2.2.2.2.2.2.2.2.2.2.1
theorem dX12_heard_115 : decode cX12_heard 115 = .ok (.getfield 77, 3) := db_X12_heard_55.2.2.2.2.2.2.2.2.2.2.2.2.2.2.1
theorem dX12_heard_118 : decode cX12_heard 118 = .ok (.aload_n 0, 1) := db_X12_heard_55.2.2.2.2.2.2.2.2.2.2.2.2.2.2.2
theorem db_X12_heard_119 : decode cX12_heard 119 = .ok (.getfield 321, 3) ∧ decode cX12_heard 122 = .ok (.baload, 1) ∧ decode cX12_heard 123 = .ok (.ifCond .eq 36, 3) ∧ decode cX12_heard 126 = .ok (.aload_n 0, 1) ∧ decode cX12_heard 127 = .ok (.iload_n 1, 1) ∧ decode cX12_heard 128 = .ok (.iload 4, 2) ∧ decode cX12_heard 130 = .ok (.invokevirtual 352, 3) ∧ decode cX12_heard 133 = .ok (.ifCond .eq 20, 3) ∧ decode cX12_heard 136 = .ok (.iload_n 3, 1) ∧ decode cX12_heard 137 = .ok (.iload 4, 2) ∧ decode cX12_heard 139 = .ok (.ishr, 1) ∧ decode cX12_heard 140 = .ok (.iconst 1, 1) ∧ decode cX12_heard 141 = .ok (.iand, 1) ∧ decode cX12_heard 142 = .ok (.ifCond .ne 11, 3) ∧ decode cX12_heard 145 = .ok (.aload_n 0, 1) ∧ decode cX12_heard 146 = .ok (.iload_n 1, 1) := by decide +kernel
theorem dX12_heard_119 : decode cX12_heard 119 = .ok (.getfield 321, 3) := db_X12_heard_119.1
theorem dX12_heard_122 : decode cX12_heard 122 = .ok (.baload, 1) := db_X12_heard_119.2.1
theorem dX12_heard_123 : decode cX12_heard 123 = .ok (.ifCond .eq 36, 3) := db_X12_heard_119.2.2.1
theorem dX12_heard_126 : decode cX12_heard 126 = .ok (.aload_n 0, 1) := db_X12_heard_119.2.2.2.1
theorem dX12_heard_127 : decode cX12_heard 127 = .ok (.iload_n 1, 1) := db_X12_heard_119.2.2.2.2.1
theorem dX12_heard_128 : decode cX12_heard 128 = .ok (.iload 4, 2) := db_X12_heard_119.2.2.2.2.2.1
theorem dX12_heard_130 : decode cX12_heard 130 = .ok (.invokevirtual 352, 3) := db_X12_heard_119.2.2.2.2.2.2.1
theorem dX12_heard_133 : decode cX12_heard 133 = .ok (.ifCond .eq 20, 3) := db_X12_heard_119.2.2.2.2.2.2.2.1
theorem dX12_heard_136 : decode cX12_heard 136 = .ok (.iload_n 3, 1) := db_X12_heard_119.2.2.2.2.2.2.2.2.1
theorem dX12_heard_137 : decode cX12_heard 137 = .ok (.iload 4, 2) := db_X12_heard_119.2.2.2.2.2.2.2.2.2.1
theorem dX12_heard_139 : decode cX12_heard 139 = .ok (.ishr, 1) := db_X12_heard_119.2.2.2.2.2.2.2.2.2.2.1
theorem dX12_heard_140 : decode cX12_heard 140 = .ok (.iconst 1, 1) := db_X12_heard_119.2.2.2.2.2.2.2.2.2.2.2.1
theorem dX12_heard_141 : decode cX12_heard 141 = .ok (.iand, 1) := db_X12_heard_119.2.2.2.2.2.2.2.2.2.2.2.2.1
theorem dX12_heard_142 : decode cX12_heard 142 = .ok (.ifCond .ne 11, 3) := db_X12_heard_119.2.2.2.2.2.2.2.2.2.2.2.2.2.1
theorem dX12_heard_145 : decode cX12_heard 145 = .ok (.aload_n 0, 1) := db_X12_heard_119.2.2.2.2.2.2.2.2.2.2.2.2.2.2.1
theorem dX12_heard_146 : decode cX12_heard 146 = .ok (.iload_n 1, 1) := db_X12_heard_119.2.2.2.2.2.2.2.2.2.2.2.2.2.2.2
theorem db_X12_heard_147 : decode cX12_heard 147 = .ok (.iload 4, 2) ∧ decode cX12_heard 149 = .ok (.iload_n 2, 1) ∧ decode cX12_heard 150 = .ok (.invokevirtual 681, 3) ∧ decode cX12_heard 153 = .ok (.iinc 4 1, 3) ∧ decode cX12_heard 156 = .ok (.goto (-51), 3) ∧ decode cX12_heard 159 = .ok (.return_, 1) := by decide +kernel
theorem dX12_heard_147 : decode cX12_heard 147 = .ok (.iload 4, 2) := db_X12_heard_147.1
theorem dX12_heard_149 : decode cX12_heard 149 = .ok (.iload_n 2, 1) := db_X12_heard_147.2.1
theorem dX12_heard_150 : decode cX12_heard 150 = .ok (.invokevirtual 681, 3) := db_X12_heard_147.2.2.1
theorem dX12_heard_153 : decode cX12_heard 153 = .ok (.iinc 4 1, 3) := db_X12_heard_147.2.2.2.1
theorem dX12_heard_156 : decode cX12_heard 156 = .ok (.goto (-51), 3) := db_X12_heard_147.2.2.2.2.1
theorem dX12_heard_159 : decode cX12_heard 159 = .ok (.return_, 1) := db_X12_heard_147.2.2.2.2.2
theorem db_X12_heardOfShard_0 : decode cX12_heardOfShard 0 = .ok (.bipush 20, 2) ∧ decode cX12_heardOfShard 2 = .ok (.iload_n 2, 1) ∧ decode cX12_heardOfShard 3 = .ok (.iadd, 1) ∧ decode cX12_heardOfShard 4 = .ok (.istore 4, 2) ∧ decode cX12_heardOfShard 6 = .ok (.aload_n 0, 1) ∧ decode cX12_heardOfShard 7 = .ok (.getfield 179, 3) ∧ decode cX12_heardOfShard 10 = .ok (.iload 4, 2) ∧ decode cX12_heardOfShard 12 = .ok (.iaload, 1) ∧ decode cX12_heardOfShard 13 = .ok (.iload_n 1, 1) ∧ decode cX12_heardOfShard 14 = .ok (.if_icmp .ne 7, 3) ∧ decode cX12_heardOfShard 17 = .ok (.iconst 1, 1) ∧ decode cX12_heardOfShard 18 = .ok (.goto 4, 3) ∧ decode cX12_heardOfShard 21 = .ok (.iconst 0, 1) ∧ decode cX12_heardOfShard 22 = .ok (.istore 5, 2) ∧ decode cX12_heardOfShard 24 = .ok (.iload_n 3, 1) ∧ decode cX12_heardOfShard 25 = .ok (.ifCond .eq 27, 3) := by decide +kernel
theorem dX12_heardOfShard_0 : decode cX12_heardOfShard 0 = .ok (.bipush 20, 2) := db_X12_heardOfShard_0.1
theorem dX12_heardOfShard_2 : decode cX12_heardOfShard 2 = .ok (.iload_n 2, 1) := db_X12_heardOfShard_0.2.1
theorem dX12_heardOfShard_3 : decode cX12_heardOfShard 3 = .ok (.iadd, 1) := db_X12_heardOfShard_0.2.2.1
theorem dX12_heardOfShard_4 : decode cX12_heardOfShard 4 = .ok (.istore 4, 2) := db_X12_heardOfShard_0.2.2.2.1
theorem dX12_heardOfShard_6 : decode cX12_heardOfShard 6 = .ok (.aload_n 0, 1) := db_X12_heardOfShard_0.2.2.2.2.1
theorem dX12_heardOfShard_7 : decode cX12_heardOfShard 7 = .ok (.getfield 179, 3) := db_X12_heardOfShard_0.2.2.2.2.2.1
theorem dX12_heardOfShard_10 : decode cX12_heardOfShard 10 = .ok (.iload 4, 2) := db_X12_heardOfShard_0.2.2.2.2.2.2.1
theorem dX12_heardOfShard_12 : decode cX12_heardOfShard 12 = .ok (.iaload, 1) := db_X12_heardOfShard_0.2.2.2.2.2.2.2.1
theorem dX12_heardOfShard_13 : decode cX12_heardOfShard 13 = .ok (.iload_n 1, 1) := db_X12_heardOfShard_0.2.2.2.2.2.2.2.2.1
theorem dX12_heardOfShard_14 : decode cX12_heardOfShard 14 = .ok (.if_icmp .ne 7, 3) := db_X12_heardOfShard_0.2.2.2.2.2.2.2.2.2.1
theorem dX12_heardOfShard_17 : decode cX12_heardOfShard 17 = .ok (.iconst 1, 1) := db_X12_heardOfShard_0.2.2.2.2.2.2.2.2.2.2.1
theorem dX12_heardOfShard_18 : decode cX12_heardOfShard 18 = .ok (.goto 4, 3) := db_X12_heardOfShard_0.2.2.2.2.2.2.2.2.2.2.2.1
theorem dX12_heardOfShard_21 : decode cX12_heardOfShard 21 = .ok (.iconst 0, 1) := db_X12_heardOfShard_0.2.2.2.2.2.2.2.2.2.2.2.2.1
theorem dX12_heardOfShard_22 : decode cX12_heardOfShard 22 = .ok (.istore 5, 2) := db_X12_heardOfShard_0.2.2.2.2.2.2.2.2.2.2.2.2.2.1
theorem dX12_heardOfShard_24 : decode cX12_heardOfShard 24 = .ok (.iload_n 3, 1) := db_X12_heardOfShard_0.2.2.2.2.2.2.2.2.2.2.2.2.2.2.1
theorem dX12_heardOfShard_25 : decode cX12_heardOfShard 25 = .ok (.ifCond .eq 27, 3) := db_X12_heardOfShard_0.2.2.2.2.2.2.2.2.2.2.2.2.2.2.2
theorem db_X12_heardOfShard_52 : decode cX12_heardOfShard 52 = .ok (.aload_n 0, 1) ∧ decode cX12_heardOfShard 53 = .ok (.getfield 222, 3) ∧ decode cX12_heardOfShard 56 = .ok (.bipush 6, 2) ∧ decode cX12_heardOfShard 58 = .ok (.iconst 2, 1) ∧ decode cX12_heardOfShard 59 = .ok (.iload_n 2, 1) ∧ decode cX12_heardOfShard 60 = .ok (.imul, 1) ∧ decode cX12_heardOfShard 61 = .ok (.iadd, 1) ∧ decode cX12_heardOfShard 62 = .ok (.iaload, 1) ∧ decode cX12_heardOfShard 63 = .ok (.aload_n 0, 1) ∧ decode cX12_heardOfShard 64 = .ok (.getfield 185, 3) ∧ decode cX12_heardOfShard 67 = .ok (.iload 4, 2) ∧ decode cX12_heardOfShard 69 = .ok (.iaload, 1) ∧ decode cX12_heardOfShard 70 = .ok (.if_icmp .ge 12, 3) ∧ decode cX12_heardOfShard 82 = .ok (.iload 5, 2) ∧ decode cX12_heardOfShard 84 = .ok (.ifCond .eq 31, 3) ∧ decode cX12_heardOfShard 87 = .ok (.aload_n 0, 1) := by decide +kernel
theorem dX12_heardOfShard_52 : decode cX12_heardOfShard 52 = .ok (.aload_n 0, 1) := db_X12_heardOfShard_52.1
theorem dX12_heardOfShard_53 : decode cX12_heardOfShard 53 = .ok (.getfield 222, 3) := db_X12_heardOfShard_52.2.1
theorem dX12_heardOfShard_56 : decode cX12_heardOfShard 56 = .ok (.bipush 6, 2) := db_X12_heardOfShard_52.2.2.1
theorem dX12_heardOfShard_58 : decode cX12_heardOfShard 58 = .ok (.iconst 2, 1) := db_X12_heardOfShard_52.2.2.2.1
theorem dX12_heardOfShard_59 : decode cX12_heardOfShard 59 = .ok (.iload_n 2, 1) := db_X12_heardOfShard_52.2.2.2.2.1
theorem dX12_heardOfShard_60 : decode cX12_heardOfShard 60 = .ok (.imul, 1) := db_X12_heardOfShard_52.2.2.2.2.2.1
theorem dX12_heardOfShard_61 : decode cX12_heardOfShard 61 = .ok (.iadd, 1) := db_X12_heardOfShard_52.2.2.2.2.2.2.1
theorem dX12_heardOfShard_62 : decode cX12_heardOfShard 62 = .ok (.iaload, 1) := db_X12_heardOfShard_52.2.2.2.2.2.2.2.1
theorem dX12_heardOfShard_63 : decode cX12_heardOfShard 63 = .ok (.aload_n 0, 1) := db_X12_heardOfShard_52.2.2.2.2.2.2.2.2.1
theorem dX12_heardOfShard_64 : decode cX12_heardOfShard 64 = .ok (.getfield 185, 3) := db_X12_heardOfShard_52.2.2.2.2.2.2.2.2.2.1
theorem dX12_heardOfShard_67 : decode cX12_heardOfShard 67 = .ok (.iload 4, 2) := db_X12_heardOfShard_52.2.2.2.2.2.2.2.2.2.2.1
theorem dX12_heardOfShard_69 : decode cX12_heardOfShard 69 = .ok (.iaload, 1) := db_X12_heardOfShard_52.2.2.2.2.2.2.2.2.2.2.2.1
theorem dX12_heardOfShard_70 : decode cX12_heardOfShard 70 = .ok (.if_icmp .ge 12, 3) := db_X12_heardOfShard_52.2.2.2.2.2.2.2.2.2.2.2.2.1
theorem dX12_heardOfShard_82 : decode cX12_heardOfShard 82 = .ok (.iload 5, 2) := db_X12_heardOfShard_52.2.2.2.2.2.2.2.2.2.2.2.2.2.1
theorem dX12_heardOfShard_84 : decode cX12_heardOfShard 84 = .ok (.ifCond .eq 31, 3) := db_X12_heardOfShard_52.2.2.2.2.2.2.2.2.2.2.2.2.2.2.1
theorem dX12_heardOfShard_87 : decode cX12_heardOfShard 87 = .ok (.aload_n 0, 1) := db_X12_heardOfShard_52.2.2.2.2.2.2.2.2.2.2.2.2.2.2.2
theorem db_X12_heardOfShard_88 : decode cX12_heardOfShard 88 = .ok (.getfield 222, 3) ∧ decode cX12_heardOfShard 91 = .ok (.bipush 7, 2) ∧ decode cX12_heardOfShard 93 = .ok (.iconst 2, 1) ∧ decode cX12_heardOfShard 94 = .ok (.iload_n 2, 1) ∧ decode cX12_heardOfShard 95 = .ok (.imul, 1) ∧ decode cX12_heardOfShard 96 = .ok (.iadd, 1) ∧ decode cX12_heardOfShard 97 = .ok (.iaload, 1) ∧ decode cX12_heardOfShard 98 = .ok (.aload_n 0, 1) ∧ decode cX12_heardOfShard 99 = .ok (.getfield 176, 3) ∧ decode cX12_heardOfShard 102 = .ok (.iload 4, 2) ∧ decode cX12_heardOfShard 104 = .ok (.iaload, 1) ∧ decode cX12_heardOfShard 105 = .ok (.if_icmp .eq 10, 3) ∧ decode cX12_heardOfShard 115 = .ok (.return_, 1) := by decide +kernel
theorem dX12_heardOfShard_88 : decode cX12_heardOfShard 88 = .ok (.getfield 222, 3) := db_X12_heardOfShard_88.1
theorem dX12_heardOfShard_91 : decode cX12_heardOfShard 91 = .ok (.bipush 7, 2) := db_X12_heardOfShard_88.2.1
theorem dX12_heardOfShard_93 : decode cX12_heardOfShard 93 = .ok (.iconst 2, 1) := db_X12_heardOfShard_88.2.2.1
theorem dX12_heardOfShard_94 : decode cX12_heardOfShard 94 = .ok (.iload_n 2, 1) := db_X12_heardOfShard_88.2.2.2.1
theorem dX12_heardOfShard_95 : decode cX12_heardOfShard 95 = .ok (.imul, 1) := db_X12_heardOfShard_88.2.2.2.2.1
theorem dX12_heardOfShard_96 : decode cX12_heardOfShard 96 = .ok (.iadd, 1) := db_X12_heardOfShard_88.2.2.2.2.2.1
theorem dX12_heardOfShard_97 : decode cX12_heardOfShard 97 = .ok (.iaload, 1) := db_X12_heardOfShard_88.2.2.2.2.2.2.1
theorem dX12_heardOfShard_98 : decode cX12_heardOfShard 98 = .ok (.aload_n 0, 1) := db_X12_heardOfShard_88.2.2.2.2.2.2.2.1
theorem dX12_heardOfShard_99 : decode cX12_heardOfShard 99 = .ok (.getfield 176, 3) := db_X12_heardOfShard_88.2.2.2.2.2.2.2.2.1
theorem dX12_heardOfShard_102 : decode cX12_heardOfShard 102 = .ok (.iload 4, 2) := db_X12_heardOfShard_88.2.2.2.2.2.2.2.2.2.1
theorem dX12_heardOfShard_104 : decode cX12_heardOfShard 104 = .ok (.iaload, 1) := db_X12_heardOfShard_88.2.2.2.2.2.2.2.2.2.2.1
theorem dX12_heardOfShard_105 : decode cX12_heardOfShard 105 = .ok (.if_icmp .eq 10, 3) := db_X12_heardOfShard_88.2.2.2.2.2.2.2.2.2.2.2.1
theorem dX12_heardOfShard_115 : decode cX12_heardOfShard 115 = .ok (.return_, 1) := db_X12_heardOfShard_88.2.2.2.2.2.2.2.2.2.2.2.2
theorem db_X12_keeperTick_0 : decode cX12_keeperTick 0 = .ok (.iconst 0, 1) ∧ decode cX12_keeperTick 1 = .ok (.istore_n 1, 1) ∧ decode cX12_keeperTick 2 = .ok (.iload_n 1, 1) ∧ decode cX12_keeperTick 3 = .ok (.aload_n 0, 1) ∧ decode cX12_keeperTick 4 = .ok (.getfield 321, 3) ∧ decode cX12_keeperTick 7 = .ok (.if_icmp .ge 165, 3) ∧ decode cX12_keeperTick 10 = .ok (.aload_n 0, 1) ∧ decode cX12_keeperTick 11 = .ok (.getfield 77, 3) ∧ decode cX12_keeperTick 14 = .ok (.aload_n 0, 1) ∧ decode cX12_keeperTick 15 = .ok (.getfield 321, 3) ∧ decode cX12_keeperTick 18 = .ok (.baload, 1) ∧ decode cX12_keeperTick 19 = .ok (.ifCond .eq 153, 3) ∧ decode cX12_keeperTick 22 = .ok (.aload_n 0, 1) ∧ decode cX12_keeperTick 23 = .ok (.getfield 188, 3) ∧ decode cX12_keeperTick 26 = .ok (.iload_n 1, 1) ∧ decode cX12_keeperTick 27 = .ok (.baload, 1) := by decide +kernel
theorem dX12_keeperTick_0 : decode cX12_keeperTick 0 = .ok (.iconst 0, 1) := db_X12_keeperTick_0.1
theorem dX12_keeperTick_1 : decode cX12_keeperTick 1 = .ok (.istore_n 1, 1) := db_X12_keeperTick_0.2.1
theorem dX12_keeperTick_2 : decode cX12_keeperTick 2 = .ok (.iload_n 1, 1) := db_X12_keeperTick_0.2.2.1
theorem dX12_keeperTick_3 : decode cX12_keeperTick 3 = .ok (.aload_n 0, 1) := db_X12_keeperTick_0.2.2.2.1
theorem dX12_keeperTick_4 : decode cX12_keeperTick 4 = .ok (.getfield 321, 3) := db_X12_keeperTick_0.2.2.2.2.1
theorem dX12_keeperTick_7 : decode cX12_keeperTick 7 = .ok (.if_icmp .ge 165, 3) := db_X12_keeperTick_0.2.2.2.2.2.1
theorem dX12_keeperTick_10 : decode cX12_keeperTick 10 = .ok (.aload_n 0, 1) := db_X12_keeperTick_0.2.2.2.2.2.2.1
theorem dX12_keeperTick_11 : decode cX12_keeperTick 11 = .ok (.getfield 77, 3) := db_X12_keeperTick_0.2.2.2.2.2.2.2.1
theorem dX12_keeperTick_14 : decode cX12_keeperTick 14 = .ok (.aload_n 0, 1) := db_X12_keeperTick_0.2.2.2.2.2.2.2.2.1
theorem dX12_keeperTick_15 : decode cX12_keeperTick 15 = .ok (.getfield 321, 3) := db_X12_keeperTick_0.2.2.2.2.2.2.2.2.2.1
theorem dX12_keeperTick_18 : decode cX12_keeperTick 18 = .ok (.baload, 1) := db_X12_keeperTick_0.2.2.2.2.2.2.2.2.2.2.1
theorem dX12_keeperTick_19 : decode cX12_keeperTick 19 = .ok (.ifCond .eq 153, 3) := db_X12_keeperTick_0.2.2.2.2.2.2.2.2.2.2.2.1
theorem dX12_keeperTick_22 : decode cX12_keeperTick 22 = .ok (.aload_n 0, 1) := db_X12_keeperTick_0.2.2.2.2.2.2.2.2.2.2.2.2.1
theorem dX12_keeperTick_23 : decode cX12_keeperTick 23 = .ok (.getfield 188, 3) := db_X12_keeperTick_0.2.2.2.2.2.2.2.2.2.2.2.2.2.1
theorem dX12_keeperTick_26 : decode cX12_keeperTick 26 = .ok (.iload_n 1, 1) := db_X12_keeperTick_0.2.2.2.2.2.2.2.2.2.2.2.2.2.2.1
theorem dX12_keeperTick_27 : decode cX12_keeperTick 27 = .ok (.baload, 1) := db_X12_keeperTick_0.2.2.2.2.2.2.2.2.2.2.2.2.2.2.2
theorem db_X12_keeperTick_28 : decode cX12_keeperTick 28 = .ok (.ifCond .eq 138, 3) ∧ decode cX12_keeperTick 31 = .ok (.aload_n 0, 1) ∧ decode cX12_keeperTick 32 = .ok (.getfield 330, 3) ∧ decode cX12_keeperTick 35 = .ok (.aload_n 0, 1) ∧ decode cX12_keeperTick 36 = .ok (.getfield 191, 3) ∧ decode cX12_keeperTick 39 = .ok (.iload_n 1, 1) ∧ decode cX12_keeperTick 40 = .ok (.iaload, 1) ∧ decode cX12_keeperTick 41 = .ok (.isub, 1) ∧ decode cX12_keeperTick 42 = .ok (.bipush 8, 2) ∧ decode cX12_keeperTick 44 = .ok (.if_icmp .lt 122, 3) ∧ decode cX12_keeperTick 166 = .ok (.iinc 1 1, 3) ∧ decode cX12_keeperTick 169 = .ok (.goto (-167), 3) ∧ decode cX12_keeperTick 172 = .ok (.return_, 1) := by decide +kernel
theorem dX12_keeperTick_28 : decode cX12_keeperTick 28 = .ok (.ifCond .eq 138, 3) := db_X12_keeperTick_28.1
theorem dX12_keeperTick_31 : decode cX12_keeperTick 31 = .ok (.aload_n 0, 1) := db_X12_keeperTick_28.2.1
theorem dX12_keeperTick_32 : decode cX12_keeperTick 32 = .ok (.getfield 330, 3) := db_X12_keeperTick_28.2.2.1
theorem dX12_keeperTick_35 : decode cX12_keeperTick 35 = .ok (.aload_n 0, 1) := db_X12_keeperTick_28.2.2.2.1
theorem dX12_keeperTick_36 : decode cX12_keeperTick 36 = .ok (.getfield 191, 3) := db_X12_keeperTick_28.2.2.2.2.1
theorem dX12_keeperTick_39 : decode cX12_keeperTick 39 = .ok (.iload_n 1, 1) := db_X12_keeperTick_28.2.2.2.2.2.1
theorem dX12_keeperTick_40 : decode cX12_keeperTick 40 = .ok (.iaload, 1) := db_X12_keeperTick_28.2.2.2.2.2.2.1
theorem dX12_keeperTick_41 : decode cX12_keeperTick 41 = .ok (.isub, 1) := db_X12_keeperTick_28.2.2.2.2.2.2.2.1
theorem dX12_keeperTick_42 : decode cX12_keeperTick 42 = .ok (.bipush 8, 2) := db_X12_keeperTick_28.2.2.2.2.2.2.2.2.1
theorem dX12_keeperTick_44 : decode cX12_keeperTick 44 = .ok (.if_icmp .lt 122, 3) := db_X12_keeperTick_28.2.2.2.2.2.2.2.2.2.1
theorem dX12_keeperTick_166 : decode cX12_keeperTick 166 = .ok (.iinc 1 1, 3) := db_X12_keeperTick_28.2.2.2.2.2.2.2.2.2.2.1
theorem dX12_keeperTick_169 : decode cX12_keeperTick 169 = .ok (.goto (-167), 3) := db_X12_keeperTick_28.2.2.2.2.2.2.2.2.2.2.2.1
theorem dX12_keeperTick_172 : decode cX12_keeperTick 172 = .ok (.return_, 1) := db_X12_keeperTick_28.2.2.2.2.2.2.2.2.2.2.2.2
theorem db_X12_primaryTick_0 : decode cX12_primaryTick 0 = .ok (.iconst 5, 1) ∧ decode cX12_primaryTick 1 = .ok (.iload_n 1, 1) ∧ decode cX12_primaryTick 2 = .ok (.imul, 1) ∧ decode cX12_primaryTick 3 = .ok (.iload_n 2, 1) ∧ decode cX12_primaryTick 4 = .ok (.iadd, 1) ∧ decode cX12_primaryTick 5 = .ok (.istore_n 3, 1) ∧ decode cX12_primaryTick 6 = .ok (.aload_n 0, 1) ∧ decode cX12_primaryTick 7 = .ok (.getfield 161, 3) ∧ decode cX12_primaryTick 10 = .ok (.iload_n 3, 1) ∧ decode cX12_primaryTick 11 = .ok (.iaload, 1) ∧ decode cX12_primaryTick 12 = .ok (.aload_n 0, 1) ∧ decode cX12_primaryTick 13 = .ok (.getfield 131, 3) ∧ decode cX12_primaryTick 16 = .ok (.iload_n 1, 1) ∧ decode cX12_primaryTick 17 = .ok (.iaload, 1) ∧ decode cX12_primaryTick 18 = .ok (.if_icmp .ne 18, 3) ∧ decode cX12_primaryTick 21 = .ok (.aload_n 0, 1) := by decide +kernel
theorem dX12_primaryTick_0 : decode cX12_primaryTick 0 = .ok (.iconst 5, 1) := db_X12_primaryTick_0.1
theorem dX12_primaryTick_1 : decode cX12_primaryTick 1 = .ok (.iload_n 1, 1) := db_X12_primaryTick_0.2.1
theorem dX12_primaryTick_2 : decode cX12_primaryTick 2 = .ok (.imul, 1) := db_X12_primaryTick_0.2.2.1
theorem dX12_primaryTick_3 : decode cX12_primaryTick 3 = .ok (.iload_n 2, 1) := db_X12_primaryTick_0.2.2.2.1
theorem dX12_primaryTick_4 : decode cX12_primaryTick 4 = .ok (.iadd, 1) := db_X12_primaryTick_0.2.2.2.2.1
theorem dX12_primaryTick_5 : decode cX12_primaryTick 5 = .ok (.istore_n 3, 1) := db_X12_primaryTick_0.2.2.2.2.2.1
theorem dX12_primaryTick_6 : decode cX12_primaryTick 6 = .ok (.aload_n 0, 1) := db_X12_primaryTick_0.2.2.2.2.2.2.1
theorem dX12_primaryTick_7 : decode cX12_primaryTick 7 = .ok (.getfield 161, 3) := db_X12_primaryTick_0.2.2.2.2.2.2.2.1
theorem dX12_primaryTick_10 : decode cX12_primaryTick 10 = .ok (.iload_n 3, 1) := db_X12_primaryTick_0.2.2.2.2.2.2.2.2.1
theorem dX12_primaryTick_11 : decode cX12_primaryTick 11 = .ok (.iaload, 1) := db_X12_primaryTick_0.2.2.2.2.2.2.2.2.2.1
theorem dX12_primaryTick_12 : decode cX12_primaryTick 12 = .ok (.aload_n 0, 1) := db_X12_primaryTick_0.2.2.2.2.2.2.2.2.2.2.1
theorem dX12_primaryTick_13 : decode cX12_primaryTick 13 = .ok (.getfield 131, 3) := db_X12_primaryTick_0.2.2.2.2.2.2.2.2.2.2.2.1
theorem dX12_primaryTick_16 : decode cX12_primaryTick 16 = .ok (.iload_n 1, 1) := db_X12_primaryTick_0.2.2.2.2.2.2.2.2.2.2.2.2.1
theorem dX12_primaryTick_17 : decode cX12_primaryTick 17 = .ok (.iaload, 1) := db_X12_primaryTick_0.2.2.2.2.2.2.2.2.2.2.2.2.2.1
theorem dX12_primaryTick_18 : decode cX12_primaryTick 18 = .ok (.if_icmp .ne 18, 3) := db_X12_primaryTick_0.2.2.2.2.2.2.2.2.2.2.2.2.2.2.1
theorem dX12_primaryTick_21 : decode cX12_primaryTick 21 = .ok (.aload_n 0, 1) := db_X12_primaryTick_0.2.2.2.2.2.2.2.2.2.2.2.2.2.2.2
theorem db_X12_primaryTick_22 : decode cX12_primaryTick 22 = .ok (.getfield 164, 3) ∧ decode cX12_primaryTick 25 = .ok (.iload_n 3, 1) ∧ decode cX12_primaryTick 26 = .ok (.iaload, 1) ∧ decode cX12_primaryTick 27 = .ok (.aload_n 0, 1) ∧ decode cX12_primaryTick 28 = .ok (.getfield 137, 3) ∧ decode cX12_primaryTick 31 = .ok (.iload_n 1, 1) ∧ decode cX12_primaryTick 32 = .ok (.iaload, 1) ∧ decode cX12_primaryTick 33 = .ok (.if_icmp .ge 7, 3) ∧ decode cX12_primaryTick 40 = .ok (.iconst 0, 1) ∧ decode cX12_primaryTick 41 = .ok (.istore 4, 2) ∧ decode cX12_primaryTick 43 = .ok (.aload_n 0, 1) ∧ decode cX12_primaryTick 44 = .ok (.getfield 158, 3) ∧ decode cX12_primaryTick 47 = .ok (.iload_n 3, 1) ∧ decode cX12_primaryTick 48 = .ok (.iaload, 1) ∧ decode cX12_primaryTick 49 = .ok (.iconst 4, 1) ∧ decode cX12_primaryTick 50 = .ok (.if_icmp .ne 26, 3) := by decide +kernel
theorem dX12_primaryTick_22 : decode cX12_primaryTick 22 = .ok (.getfield 164, 3) := db_X12_primaryTick_22.1
theorem dX12_primaryTick_25 : decode cX12_primaryTick 25 = .ok (.iload_n 3, 1) := db_X12_primaryTick_22.2.1
theorem dX12_primaryTick_26 : decode cX12_primaryTick 26 = .ok (.iaload, 1) := db_X12_primaryTick_22.2.2.1
theorem dX12_primaryTick_27 : decode cX12_primaryTick 27 = .ok (.aload_n 0, 1) := db_X12_primaryTick_22.2.2.2.1
theorem dX12_primaryTick_28 : decode cX12_primaryTick 28 = .ok (.getfield 137, 3) := db_X12_primaryTick_22.2.2.2.2.1
theorem dX12_primaryTick_31 : decode cX12_primaryTick 31 = .ok (.iload_n 1, 1) := db_X12_primaryTick_22.2.2.2.2.2.1
theorem dX12_primaryTick_32 : decode cX12_primaryTick 32 = .ok (.iaload, 1) := db_X12_primaryTick_22.2.2.2.2.2.2.1
theorem dX12_primaryTick_33 : decode cX12_primaryTick 33 = .ok (.if_icmp .ge 7, 3) := db_X12_primaryTick_22.2.2.2.2.2.2.2.1
theorem dX12_primaryTick_40 : decode cX12_primaryTick 40 = .ok (.iconst 0, 1) := db_X12_primaryTick_22.2.2.2.2.2.2.2.2.1
theorem dX12_primaryTick_41 : decode cX12_primaryTick 41 = .ok (.istore 4, 2) := db_X12_primaryTick_22.2.2.2.2.2.2.2.2.2.1
theorem dX12_primaryTick_43 : decode cX12_primaryTick 43 = .ok (.aload_n 0, 1) := db_X12_primaryTick_22.2.2.2.2.2.2.2.2.2.2.1
theorem dX12_primaryTick_44 : decode cX12_primaryTick 44 = .ok (.getfield 158, 3) := db_X12_primaryTick_22.2.2.2.2.2.2.2.2.2.2.2.1
theorem dX12_primaryTick_47 : decode cX12_primaryTick 47 = .ok (.iload_n 3, 1) := db_X12_primaryTick_22.2.2.2.2.2.2.2.2.2.2.2.2.1
theorem dX12_primaryTick_48 : decode cX12_primaryTick 48 = .ok (.iaload, 1) := db_X12_primaryTick_22.2.2.2.2.2.2.2.2.2.2.2.2.2.1
theorem dX12_primaryTick_49 : decode cX12_primaryTick 49 = .ok (.iconst 4, 1) := db_X12_primaryTick_22.2.2.2.2.2.2.2.2.2.2.2.2.2.2.1
theorem dX12_primaryTick_50 : decode cX12_primaryTick 50 = .ok (.if_icmp .ne 26, 3) := db_X12_primaryTick_22.2.2.2.2.2.2.2.2.2.2.2.2.2.2.2
theorem db_X12_primaryTick_76 : decode cX12_primaryTick 76 = .ok (.iload 4, 2) ∧ decode cX12_primaryTick 78 = .ok (.ifCond .ne 45, 3) ∧ decode cX12_primaryTick 81 = .ok (.aload_n 0, 1) ∧ decode cX12_primaryTick 82 = .ok (.getfield 167, 3) ∧ decode cX12_primaryTick 85 = .ok (.iload_n 3, 1) ∧ decode cX12_primaryTick 86 = .ok (.aload_n 0, 1) ∧ decode cX12_primaryTick 87 = .ok (.getfield 330, 3) ∧ decode cX12_primaryTick 90 = .ok (.iastore, 1) ∧ decode cX12_primaryTick 91 = .ok (.aload_n 0, 1) ∧ decode cX12_primaryTick 92 = .ok (.getfield 158, 3) ∧ decode cX12_primaryTick 95 = .ok (.iload_n 3, 1) ∧ decode cX12_primaryTick 96 = .ok (.iaload, 1) ∧ decode cX12_primaryTick 97 = .ok (.iconst 2, 1) ∧ decode cX12_primaryTick 98 = .ok (.if_icmp .ne 24, 3) ∧ decode cX12_primaryTick 122 = .ok (.return_, 1) := by decide +kernel
theorem dX12_primaryTick_76 : decode cX12_primaryTick 76 = .ok (.iload 4, 2) := db_X12_primaryTick_76.1
theorem dX12_primaryTick_78 : decode cX12_primaryTick 78 = .ok (.ifCond .ne 45, 3) := db_X12_primaryTick_76.2.1
theorem dX12_primaryTick_81 : decode cX12_primaryTick 81 = .ok (.aload_n 0, 1) := db_X12_primaryTick_76.2.2.1
theorem dX12_primaryTick_82 : decode cX12_primaryTick 82 = .ok (.getfield 167, 3) := db_X12_primaryTick_76.2.2.2.1
theorem dX12_primaryTick_85 : decode cX12_primaryTick 85 = .ok (.iload_n 3, 1) := db_X12_primaryTick_76.2.2.2.2.1
theorem dX12_primaryTick_86 : decode cX12_primaryTick 86 = .ok (.aload_n 0, 1) := db_X12_primaryTick_76.2.2.2.2.2.1
theorem dX12_primaryTick_87 : decode cX12_primaryTick 87 = .ok (.getfield 330, 3) := db_X12_primaryTick_76.2.2.2.2.2.2.1
theorem dX12_primaryTick_90 : decode cX12_primaryTick 90 = .ok (.iastore, 1) := db_X12_primaryTick_76.2.2.2.2.2.2.2.1
theorem dX12_primaryTick_91 : decode cX12_primaryTick 91 = .ok (.aload_n 0, 1) := db_X12_primaryTick_76.2.2.2.2.2.2.2.2.1
theorem dX12_primaryTick_92 : decode cX12_primaryTick 92 = .ok (.getfield 158, 3) := db_X12_primaryTick_76.2.2.2.2.2.2.2.2.2.1
theorem dX12_primaryTick_95 : decode cX12_primaryTick 95 = .ok (.iload_n 3, 1) := db_X12_primaryTick_76.2.2.2.2.2.2.2.2.2.2.1
theorem dX12_primaryTick_96 : decode cX12_primaryTick 96 = .ok (.iaload, 1) := db_X12_primaryTick_76.2.2.2.2.2.2.2.2.2.2.2.1
theorem dX12_primaryTick_97 : decode cX12_primaryTick 97 = .ok (.iconst 2, 1) := db_X12_primaryTick_76.2.2.2.2.2.2.2.2.2.2.2.2.1
theorem dX12_primaryTick_98 : decode cX12_primaryTick 98 = .ok (.if_icmp .ne 24, 3) := db_X12_primaryTick_76.2.2.2.2.2.2.2.2.2.2.2.2.2.1
theorem dX12_primaryTick_122 : decode cX12_primaryTick 122 = .ok (.return_, 1) := db_X12_primaryTick_76.2.2.2.2.2.2.2.2.2.2.2.2.2.2
theorem db_X12_copyTick_0 : decode cX12_copyTick 0 = .ok (.aload_n 0, 1) ∧ decode cX12_copyTick 1 = .ok (.getfield 140, 3) ∧ decode cX12_copyTick 4 = .ok (.iload_n 1, 1) ∧ decode cX12_copyTick 5 = .ok (.iaload, 1) ∧ decode cX12_copyTick 6 = .ok (.iconst 2, 1) ∧ decode cX12_copyTick 7 = .ok (.if_icmp .ne 50, 3) ∧ decode cX12_copyTick 10 = .ok (.iconst 0, 1) ∧ decode cX12_copyTick 11 = .ok (.istore_n 2, 1) ∧ decode cX12_copyTick 12 = .ok (.iload_n 2, 1) ∧ decode cX12_copyTick 13 = .ok (.aload_n 0, 1) ∧ decode cX12_copyTick 14 = .ok (.getfield 321, 3) ∧ decode cX12_copyTick 17 = .ok (.if_icmp .ge 37, 3) ∧ decode cX12_copyTick 20 = .ok (.aload_n 0, 1) ∧ decode cX12_copyTick 21 = .ok (.iload_n 1, 1) ∧ decode cX12_copyTick 22 = .ok (.iload_n 2, 1) ∧ decode cX12_copyTick 23 = .ok (.invokevirtual 431, 3) := by decide +kernel
theorem dX12_copyTick_0 : decode cX12_copyTick 0 = .ok (.aload_n 0, 1) := db_X12_copyTick_0.1
theorem dX12_copyTick_1 : decode cX12_copyTick 1 = .ok (.getfield 140, 3) := db_X12_copyTick_0.2.1
theorem dX12_copyTick_4 : decode cX12_copyTick 4 = .ok (.iload_n 1, 1) := db_X12_copyTick_0.2.2.1
theorem dX12_copyTick_5 : decode cX12_copyTick 5 = .ok (.iaload, 1) := db_X12_copyTick_0.2.2.2.1
theorem dX12_copyTick_6 : decode cX12_copyTick 6 = .ok (.iconst 2, 1) := db_X12_copyTick_0.2.2.2.2.1
theorem dX12_copyTick_7 : decode cX12_copyTick 7 = .ok (.if_icmp .ne 50, 3) := db_X12_copyTick_0.2.2.2.2.2.1
theorem dX12_copyTick_10 : decode cX12_copyTick 10 = .ok (.iconst 0, 1) := db_X12_copyTick_0.2.2.2.2.2.2.1
theorem dX12_copyTick_11 : decode cX12_copyTick 11 = .ok (.istore_n 2, 1) := db_X12_copyTick_0.2.2.2.2.2.2.2.1
theorem dX12_copyTick_12 : decode cX12_copyTick 12 = .ok (.iload_n 2, 1) := db_X12_copyTick_0.2.2.2.2.2.2.2.2.1
theorem dX12_copyTick_13 : decode cX12_copyTick 13 = .ok (.aload_n 0, 1) := db_X12_copyTick_0.2.2.2.2.2.2.2.2.2.1
theorem dX12_copyTick_14 : decode cX12_copyTick 14 = .ok (.getfield 321, 3) := db_X12_copyTick_0.2.2.2.2.2.2.2.2.2.2.1
theorem dX12_copyTick_17 : decode cX12_copyTick 17 = .ok (.if_icmp .ge 37, 3) := db_X12_copyTick_0.2.2.2.2.2.2.2.2.2.2.2.1
theorem dX12_copyTick_20 : decode cX12_copyTick 20 = .ok (.aload_n 0, 1) := db_X12_copyTick_0.2.2.2.2.2.2.2.2.2.2.2.2.1
theorem dX12_copyTick_21 : decode cX12_copyTick 21 = .ok (.iload_n 1, 1) := db_X12_copyTick_0.2.2.2.2.2.2.2.2.2.2.2.2.2.1
theorem dX12_copyTick_22 : decode cX12_copyTick 22 = .ok (.iload_n 2, 1) := db_X12_copyTick_0.2.2.2.2.2.2.2.2.2.2.2.2.2.2.1
theorem dX12_copyTick_23 : decode cX12_copyTick 23 = .ok (.invokevirtual 431, 3) := db_X12_copyTick_0.2.2.2.2.2.2.2.2.2.2.2.2.2.2.2
theorem db_X12_copyTick_26 : decode cX12_copyTick 26 = .ok (.ifCond .eq 22, 3) ∧ decode cX12_copyTick 29 = .ok (.aload_n 0, 1) ∧ decode cX12_copyTick 30 = .ok (.getfield 158, 3) ∧ decode cX12_copyTick 33 = .ok (.iconst 5, 1) ∧ decode cX12_copyTick 34 = .ok (.iload_n 1, 1) ∧ decode cX12_copyTick 35 = .ok (.imul, 1) ∧ decode cX12_copyTick 36 = .ok (.iload_n 2, 1) ∧ decode cX12_copyTick 37 = .ok (.iadd, 1) ∧ decode cX12_copyTick 38 = .ok (.iaload, 1) ∧ decode cX12_copyTick 39 = .ok (.ifCond .le 9, 3) ∧ decode cX12_copyTick 42 = .ok (.aload_n 0, 1) ∧ decode cX12_copyTick 43 = .ok (.iload_n 1, 1) ∧ decode cX12_copyTick 44 = .ok (.iload_n 2, 1) ∧ decode cX12_copyTick 45 = .ok (.invokevirtual 690, 3) ∧ decode cX12_copyTick 48 = .ok (.iinc 2 1, 3) ∧ decode cX12_copyTick 51 = .ok (.goto (-39), 3) := by decide +kernel
theorem dX12_copyTick_26 : decode cX12_copyTick 26 = .ok (.ifCond .eq 22, 3) := db_X12_copyTick_26.1
theorem dX12_copyTick_29 : decode cX12_copyTick 29 = .ok (.aload_n 0, 1) := db_X12_copyTick_26.2.1
theorem dX12_copyTick_30 : decode cX12_copyTick 30 = .ok (.getfield 158, 3) := db_X12_copyTick_26.2.2.1
theorem dX12_copyTick_33 : decode cX12_copyTick 33 = .ok (.iconst 5, 1) := db_X12_copyTick_26.2.2.2.1
theorem dX12_copyTick_34 : decode cX12_copyTick 34 = .ok (.iload_n 1, 1) := db_X12_copyTick_26.2.2.2.2.1
theorem dX12_copyTick_35 : decode cX12_copyTick 35 = .ok (.imul, 1) := db_X12_copyTick_26.2.2.2.2.2.1
theorem dX12_copyTick_36 : decode cX12_copyTick 36 = .ok (.iload_n 2, 1) := db_X12_copyTick_26.2.2.2.2.2.2.1
theorem dX12_copyTick_37 : decode cX12_copyTick 37 = .ok (.iadd, 1) := db_X12_copyTick_26.2.2.2.2.2.2.2.1
theorem dX12_copyTick_38 : decode cX12_copyTick 38 = .ok (.iaload, 1) := db_X12_copyTick_26.2.2.2.2.2.2.2.2.1
theorem dX12_copyTick_39 : decode cX12_copyTick 39 = .ok (.ifCond .le 9, 3) := db_X12_copyTick_26.2.2.2.2.2.2.2.2.2.1
theorem dX12_copyTick_42 : decode cX12_copyTick 42 = .ok (.aload_n 0, 1) := db_X12_copyTick_26.2.2.2.2.2.2.2.2.2.2.1
theorem dX12_copyTick_43 : decode cX12_copyTick 43 = .ok (.iload_n 1, 1) := db_X12_copyTick_26.2.2.2.2.2.2.2.2.2.2.2.1
theorem dX12_copyTick_44 : decode cX12_copyTick 44 = .ok (.iload_n 2, 1) := db_X12_copyTick_26.2.2.2.2.2.2.2.2.2.2.2.2.1
theorem dX12_copyTick_45 : decode cX12_copyTick 45 = .ok (.invokevirtual 690, 3) := db_X12_copyTick_26.2.2.2.2.2.2.2.2.2.2.2.2.2.1
theorem dX12_copyTick_48 : decode cX12_copyTick 48 = .ok (.iinc 2 1, 3) := db_X12_copyTick_26.2.2.2.2.2.2.2.2.2.2.2.2.2.2.1
theorem dX12_copyTick_51 : decode cX12_copyTick 51 = .ok (.goto (-39), 3) := db_X12_copyTick_26.2.2.2.2.2.2.2.2.2.2.2.2.2.2.2
theorem db_X12_copyTick_54 : decode cX12_copyTick 54 = .ok (.goto 41, 3) ∧ decode cX12_copyTick 57 = .ok (.aload_n 0, 1) ∧ decode cX12_copyTick 58 = .ok (.getfield 140, 3) ∧ decode cX12_copyTick 61 = .ok (.iload_n 1, 1) ∧ decode cX12_copyTick 62 = .ok (.iaload, 1) ∧ decode cX12_copyTick 63 = .ok (.ifCond .ne 32, 3) ∧ decode cX12_copyTick 95 = .ok (.return_, 1) := by decide +kernel
theorem dX12_copyTick_54 : decode cX12_copyTick 54 = .ok (.goto 41, 3) := db_X12_copyTick_54.1
theorem dX12_copyTick_57 : decode cX12_copyTick 57 = .ok (.aload_n 0, 1) := db_X12_copyTick_54.2.1
theorem dX12_copyTick_58 : decode cX12_copyTick 58 = .ok (.getfield 140, 3) := db_X12_copyTick_54.2.2.1
theorem dX12_copyTick_61 : decode cX12_copyTick 61 = .ok (.iload_n 1, 1) := db_X12_copyTick_54.2.2.2.1
theorem dX12_copyTick_62 : decode cX12_copyTick 62 = .ok (.iaload, 1) := db_X12_copyTick_54.2.2.2.2.1
theorem dX12_copyTick_63 : decode cX12_copyTick 63 = .ok (.ifCond .ne 32, 3) := db_X12_copyTick_54.2.2.2.2.2.1
theorem dX12_copyTick_95 : decode cX12_copyTick 95 = .ok (.return_, 1) := db_X12_copyTick_54.2.2.2.2.2.2
theorem db_X12_nodeTick_0 : decode cX12_nodeTick 0 = .ok (.iconst 0, 1) ∧ decode cX12_nodeTick 1 = .ok (.istore_n 2, 1) ∧ decode cX12_nodeTick 2 = .ok (.iload_n 2, 1) ∧ decode cX12_nodeTick 3 = .ok (.aload_n 0, 1) ∧ decode cX12_nodeTick 4 = .ok (.getfield 327, 3) ∧ decode cX12_nodeTick 7 = .ok (.if_icmp .ge 28, 3) ∧ decode cX12_nodeTick 10 = .ok (.aload_n 0, 1) ∧ decode cX12_nodeTick 11 = .ok (.iload_n 1, 1) ∧ decode cX12_nodeTick 12 = .ok (.iload_n 2, 1) ∧ decode cX12_nodeTick 13 = .ok (.invokevirtual 352, 3) ∧ decode cX12_nodeTick 16 = .ok (.ifCond .eq 13, 3) ∧ decode cX12_nodeTick 19 = .ok (.aload_n 0, 1) ∧ decode cX12_nodeTick 20 = .ok (.aload_n 0, 1) ∧ decode cX12_nodeTick 21 = .ok (.iload_n 1, 1) ∧ decode cX12_nodeTick 22 = .ok (.iload_n 2, 1) ∧ decode cX12_nodeTick 23 = .ok (.invokevirtual 364, 3) := by decide +kernel
theorem dX12_nodeTick_0 : decode cX12_nodeTick 0 = .ok (.iconst 0, 1) := db_X12_nodeTick_0.1
theorem dX12_nodeTick_1 : decode cX12_nodeTick 1 = .ok (.istore_n 2, 1) := db_X12_nodeTick_0.2.1
theorem dX12_nodeTick_2 : decode cX12_nodeTick 2 = .ok (.iload_n 2, 1) := db_X12_nodeTick_0.2.2.1
theorem dX12_nodeTick_3 : decode cX12_nodeTick 3 = .ok (.aload_n 0, 1) := db_X12_nodeTick_0.2.2.2.1
theorem dX12_nodeTick_4 : decode cX12_nodeTick 4 = .ok (.getfield 327, 3) := db_X12_nodeTick_0.2.2.2.2.1
theorem dX12_nodeTick_7 : decode cX12_nodeTick 7 = .ok (.if_icmp .ge 28, 3) := db_X12_nodeTick_0.2.2.2.2.2.1
theorem dX12_nodeTick_10 : decode cX12_nodeTick 10 = .ok (.aload_n 0, 1) := db_X12_nodeTick_0.2.2.2.2.2.2.1
theorem dX12_nodeTick_11 : decode cX12_nodeTick 11 = .ok (.iload_n 1, 1) := db_X12_nodeTick_0.2.2.2.2.2.2.2.1
theorem dX12_nodeTick_12 : decode cX12_nodeTick 12 = .ok (.iload_n 2, 1) := db_X12_nodeTick_0.2.2.2.2.2.2.2.2.1
theorem dX12_nodeTick_13 : decode cX12_nodeTick 13 = .ok (.invokevirtual 352, 3) := db_X12_nodeTick_0.2.2.2.2.2.2.2.2.2.1
theorem dX12_nodeTick_16 : decode cX12_nodeTick 16 = .ok (.ifCond .eq 13, 3) := db_X12_nodeTick_0.2.2.2.2.2.2.2.2.2.2.1
theorem dX12_nodeTick_19 : decode cX12_nodeTick 19 = .ok (.aload_n 0, 1) := db_X12_nodeTick_0.2.2.2.2.2.2.2.2.2.2.2.1
theorem dX12_nodeTick_20 : decode cX12_nodeTick 20 = .ok (.aload_n 0, 1) := db_X12_nodeTick_0.2.2.2.2.2.2.2.2.2.2.2.2.1
theorem dX12_nodeTick_21 : decode cX12_nodeTick 21 = .ok (.iload_n 1, 1) := db_X12_nodeTick_0.2.2.2.2.2.2.2.2.2.2.2.2.2.1
theorem dX12_nodeTick_22 : decode cX12_nodeTick 22 = .ok (.iload_n 2, 1) := db_X12_nodeTick_0.2.2.2.2.2.2.2.2.2.2.2.2.2.2.1
theorem dX12_nodeTick_23 : decode cX12_nodeTick 23 = .ok (.invokevirtual 364, 3) := db_X12_nodeTick_0.2.2.2.2.2.2.2.2.2.2.2.2.2.2.2
theorem db_X12_nodeTick_26 : decode cX12_nodeTick 26 = .ok (.invokevirtual 693, 3) ∧ decode cX12_nodeTick 29 = .ok (.iinc 2 1, 3) ∧ decode cX12_nodeTick 32 = .ok (.goto (-30), 3) ∧ decode cX12_nodeTick 35 = .ok (.aload_n 0, 1) ∧ decode cX12_nodeTick 36 = .ok (.getfield 330, 3) ∧ decode cX12_nodeTick 39 = .ok (.iconst 2, 1) ∧ decode cX12_nodeTick 40 = .ok (.irem, 1) ∧ decode cX12_nodeTick 41 = .ok (.ifCond .ne 123, 3) ∧ decode cX12_nodeTick 44 = .ok (.aload_n 0, 1) ∧ decode cX12_nodeTick 45 = .ok (.getfield 219, 3) ∧ decode cX12_nodeTick 48 = .ok (.iconst 0, 1) ∧ decode cX12_nodeTick 49 = .ok (.bipush 16, 2) ∧ decode cX12_nodeTick 51 = .ok (.iastore, 1) ∧ decode cX12_nodeTick 52 = .ok (.iconst 1, 1) ∧ decode cX12_nodeTick 53 = .ok (.istore_n 2, 1) ∧ decode cX12_nodeTick 54 = .ok (.iload_n 2, 1) := by decide +kernel
theorem dX12_nodeTick_26 : decode cX12_nodeTick 26 = .ok (.invokevirtual 693, 3) := db_X12_nodeTick_26.1
theorem dX12_nodeTick_29 : decode cX12_nodeTick 29 = .ok (.iinc 2 1, 3) := db_X12_nodeTick_26.2.1
theorem dX12_nodeTick_32 : decode cX12_nodeTick 32 = .ok (.goto (-30), 3) := db_X12_nodeTick_26.2.2.1
theorem dX12_nodeTick_35 : decode cX12_nodeTick 35 = .ok (.aload_n 0, 1) := db_X12_nodeTick_26.2.2.2.1
theorem dX12_nodeTick_36 : decode cX12_nodeTick 36 = .ok (.getfield 330, 3) := db_X12_nodeTick_26.2.2.2.2.1
theorem dX12_nodeTick_39 : decode cX12_nodeTick 39 = .ok (.iconst 2, 1) := db_X12_nodeTick_26.2.2.2.2.2.1
theorem dX12_nodeTick_40 : decode cX12_nodeTick 40 = .ok (.irem, 1) := db_X12_nodeTick_26.2.2.2.2.2.2.1
theorem dX12_nodeTick_41 : decode cX12_nodeTick 41 = .ok (.ifCond .ne 123, 3) := db_X12_nodeTick_26.2.2.2.2.2.2.2.1
theorem dX12_nodeTick_44 : decode cX12_nodeTick 44 = .ok (.aload_n 0, 1) := db_X12_nodeTick_26.2.2.2.2.2.2.2.2.1
theorem dX12_nodeTick_45 : decode cX12_nodeTick 45 = .ok (.getfield 219, 3) := db_X12_nodeTick_26.2.2.2.2.2.2.2.2.2.1
theorem dX12_nodeTick_48 : decode cX12_nodeTick 48 = .ok (.iconst 0, 1) := db_X12_nodeTick_26.2.2.2.2.2.2.2.2.2.2.1
theorem dX12_nodeTick_49 : decode cX12_nodeTick 49 = .ok (.bipush 16, 2) := db_X12_nodeTick_26.2.2.2.2.2.2.2.2.2.2.2.1
theorem dX12_nodeTick_51 : decode cX12_nodeTick 51 = .ok (.iastore, 1) := db_X12_nodeTick_26.2.2.2.2.2.2.2.2.2.2.2.2.1
theorem dX12_nodeTick_52 : decode cX12_nodeTick 52 = .ok (.iconst 1, 1) := db_X12_nodeTick_26.2.2.2.2.2.2.2.2.2.2.2.2.2.1
theorem dX12_nodeTick_53 : decode cX12_nodeTick 53 = .ok (.istore_n 2, 1) := db_X12_nodeTick_26.2.2.2.2.2.2.2.2.2.2.2.2.2.2.1
theorem dX12_nodeTick_54 : decode cX12_nodeTick 54 = .ok (.iload_n 2, 1) := db_X12_nodeTick_26.2.2.2.2.2.2.2.2.2.2.2.2.2.2.2
theorem db_X12_nodeTick_55 : decode cX12_nodeTick 55 = .ok (.bipush 14, 2) ∧ decode cX12_nodeTick 57 = .ok (.if_icmp .ge 16, 3) ∧ decode cX12_nodeTick 60 = .ok (.aload_n 0, 1) ∧ decode cX12_nodeTick 61 = .ok (.getfield 219, 3) ∧ decode cX12_nodeTick 64 = .ok (.iload_n 2, 1) ∧ decode cX12_nodeTick 65 = .ok (.iconst 0, 1) ∧ decode cX12_nodeTick 66 = .ok (.iastore, 1) ∧ decode cX12_nodeTick 67 = .ok (.iinc 2 1, 3) ∧ decode cX12_nodeTick 70 = .ok (.goto (-16), 3) ∧ decode cX12_nodeTick 73 = .ok (.iconst 0, 1) ∧ decode cX12_nodeTick 74 = .ok (.istore_n 2, 1) ∧ decode cX12_nodeTick 75 = .ok (.iload_n 2, 1) ∧ decode cX12_nodeTick 76 = .ok (.aload_n 0, 1) ∧ decode cX12_nodeTick 77 = .ok (.getfield 327, 3) ∧ decode cX12_nodeTick 80 = .ok (.if_icmp .ge 73, 3) ∧ decode cX12_nodeTick 83 = .ok (.aload_n 0, 1) := by decide +kernel
theorem dX12_nodeTick_55 : decode cX12_nodeTick 55 = .ok (.bipush 14, 2) := db_X12_nodeTick_55.1
theorem dX12_nodeTick_57 : decode cX12_nodeTick 57 = .ok (.if_icmp .ge 16, 3) := db_X12_nodeTick_55.2.1
theorem dX12_nodeTick_60 : decode cX12_nodeTick 60 = .ok (.aload_n 0, 1) := db_X12_nodeTick_55.2.2.1
theorem dX12_nodeTick_61 : decode cX12_nodeTick 61 = .ok (.getfield 219, 3) := db_X12_nodeTick_55.2.2.2.1
theorem dX12_nodeTick_64 : decode cX12_nodeTick 64 = .ok (.iload_n 2, 1) := db_X12_nodeTick_55.2.2.2.2.1
theorem dX12_nodeTick_65 : decode cX12_nodeTick 65 = .ok (.iconst 0, 1) := db_X12_nodeTick_55.2.2.2.2.2.1
theorem dX12_nodeTick_66 : decode cX12_nodeTick 66 = .ok (.iastore, 1) := db_X12_nodeTick_55.2.2.2.2.2.2.1
theorem dX12_nodeTick_67 : decode cX12_nodeTick 67 = .ok (.iinc 2 1, 3) := db_X12_nodeTick_55.2.2.2.2.2.2.2.1
theorem dX12_nodeTick_70 : decode cX12_nodeTick 70 = .ok (.goto (-16), 3) := db_X12_nodeTick_55.2.2.2.2.2.2.2.2.1
theorem dX12_nodeTick_73 : decode cX12_nodeTick 73 = .ok (.iconst 0, 1) := db_X12_nodeTick_55.2.2.2.2.2.2.2.2.2.1
theorem dX12_nodeTick_74 : decode cX12_nodeTick 74 = .ok (.istore_n 2, 1) := db_X12_nodeTick_55.2.2.2.2.2.2.2.2.2.2.1
theorem dX12_nodeTick_75 : decode cX12_nodeTick 75 = .ok (.iload_n 2, 1) := db_X12_nodeTick_55.2.2.2.2.2.2.2.2.2.2.2.1
theorem dX12_nodeTick_76 : decode cX12_nodeTick 76 = .ok (.aload_n 0, 1) := db_X12_nodeTick_55.2.2.2.2.2.2.2.2.2.2.2.2.1
theorem dX12_nodeTick_77 : decode cX12_nodeTick 77 = .ok (.getfield 327, 3) := db_X12_nodeTick_55.2.2.2.2.2.2.2.2.2.2.2.2.2.1
theorem dX12_nodeTick_80 : decode cX12_nodeTick 80 = .ok (.if_icmp .ge 73, 3) := db_X12_nodeTick_55.2.2.2.2.2.2.2.2.2.2.2.2.2.2.1
theorem dX12_nodeTick_83 : decode cX12_nodeTick 83 = .ok (.aload_n 0, 1) := db_X12_nodeTick_55.2.2.2.2.2.2.2.2.2.2.2.2.2.2.2
theorem db_X12_nodeTick_84 : decode cX12_nodeTick 84 = .ok (.iload_n 1, 1) ∧ decode cX12_nodeTick 85 = .ok (.iload_n 2, 1) ∧ decode cX12_nodeTick 86 = .ok (.invokevirtual 352, 3) ∧ decode cX12_nodeTick 89 = .ok (.ifCond .eq 58, 3) ∧ decode cX12_nodeTick 92 = .ok (.aload_n 0, 1) ∧ decode cX12_nodeTick 93 = .ok (.iload_n 1, 1) ∧ decode cX12_nodeTick 94 = .ok (.iload_n 2, 1) ∧ decode cX12_nodeTick 95 = .ok (.invokevirtual 364, 3) ∧ decode cX12_nodeTick 98 = .ok (.istore_n 3, 1) ∧ decode cX12_nodeTick 99 = .ok (.aload_n 0, 1) ∧ decode cX12_nodeTick 100 = .ok (.getfield 219, 3) ∧ decode cX12_nodeTick 103 = .ok (.bipush 6, 2) ∧ decode cX12_nodeTick 105 = .ok (.iconst 2, 1) ∧ decode cX12_nodeTick 106 = .ok (.iload_n 2, 1) ∧ decode cX12_nodeTick 107 = .ok (.imul, 1) ∧ decode cX12_nodeTick 108 = .ok (.iadd, 1) := by decide +kernel
theorem dX12_nodeTick_84 : decode cX12_nodeTick 84 = .ok (.iload_n 1, 1) := db_X12_nodeTick_84.1
theorem dX12_nodeTick_85 : decode cX12_nodeTick 85 = .ok (.iload_n 2, 1) := db_X12_nodeTick_84.2.1
theorem dX12_nodeTick_86 : decode cX12_nodeTick 86 = .ok (.invokevirtual 352, 3) := db_X12_nodeTick_84.2.2.1
theorem dX12_nodeTick_89 : decode cX12_nodeTick 89 = .ok (.ifCond .eq 58, 3) := db_X12_nodeTick_84.2.2.2.1
theorem dX12_nodeTick_92 : decode cX12_nodeTick 92 = .ok (.aload_n 0, 1) := db_X12_nodeTick_84.2.2.2.2.1
theorem dX12_nodeTick_93 : decode cX12_nodeTick 93 = .ok (.iload_n 1, 1) := db_X12_nodeTick_84.2.2.2.2.2.1
theorem dX12_nodeTick_94 : decode cX12_nodeTick 94 = .ok (.iload_n 2, 1) := db_X12_nodeTick_84.2.2.2.2.2.2.1
theorem dX12_nodeTick_95 : decode cX12_nodeTick 95 = .ok (.invokevirtual 364, 3) := db_X12_nodeTick_84.2.2.2.2.2.2.2.1
theorem dX12_nodeTick_98 : decode cX12_nodeTick 98 = .ok (.istore_n 3, 1) := db_X12_nodeTick_84.2.2.2.2.2.2.2.2.1
theorem dX12_nodeTick_99 : decode cX12_nodeTick 99 = .ok (.aload_n 0, 1) := db_X12_nodeTick_84.2.2.2.2.2.2.2.2.2.1
theorem dX12_nodeTick_100 : decode cX12_nodeTick 100 = .ok (.getfield 219, 3) := db_X12_nodeTick_84.2.2.2.2.2.2.2.2.2.2.1
theorem dX12_nodeTick_103 : decode cX12_nodeTick 103 = .ok (.bipush 6, 2) := db_X12_nodeTick_84.2.2.2.2.2.2.2.2.2.2.2.1
theorem dX12_nodeTick_105 : decode cX12_nodeTick 105 = .ok (.iconst 2, 1) := db_X12_nodeTick_84.2.2.2.2.2.2.2.2.2.2.2.2.1
theorem dX12_nodeTick_106 : decode cX12_nodeTick 106 = .ok (.iload_n 2, 1) := db_X12_nodeTick_84.2.2.2.2.2.2.2.2.2.2.2.2.2.1
theorem dX12_nodeTick_107 : decode cX12_nodeTick 107 = .ok (.imul, 1) := db_X12_nodeTick_84.2.2.2.2.2.2.2.2.2.2.2.2.2.2.1
theorem dX12_nodeTick_108 : decode cX12_nodeTick 108 = .ok (.iadd, 1) := db_X12_nodeTick_84.2.2.2.2.2.2.2.2.2.2.2.2.2.2.2
theorem db_X12_nodeTick_109 : decode cX12_nodeTick 109 = .ok (.aload_n 0, 1) ∧ decode cX12_nodeTick 110 = .ok (.getfield 185, 3) ∧ decode cX12_nodeTick 113 = .ok (.iload_n 3, 1) ∧ decode cX12_nodeTick 114 = .ok (.iaload, 1) ∧ decode cX12_nodeTick 115 = .ok (.iastore, 1) ∧ decode cX12_nodeTick 116 = .ok (.aload_n 0, 1) ∧ decode cX12_nodeTick 117 = .ok (.getfield 219, 3) ∧ decode cX12_nodeTick 120 = .ok (.bipush 7, 2) ∧ decode cX12_nodeTick 122 = .ok (.iconst 2, 1) ∧ decode cX12_nodeTick 123 = .ok (.iload_n 2, 1) ∧ decode cX12_nodeTick 124 = .ok (.imul, 1) ∧ decode cX12_nodeTick 125 = .ok (.iadd, 1) ∧ decode cX12_nodeTick 126 = .ok (.aload_n 0, 1) ∧ decode cX12_nodeTick 127 = .ok (.getfield 140, 3) ∧ decode cX12_nodeTick 130 = .ok (.iload_n 3, 1) ∧ decode cX12_nodeTick 131 = .ok (.iaload, 1) := by decide +kernel
theorem dX12_nodeTick_109 : decode cX12_nodeTick 109 = .ok (.aload_n 0, 1) := db_X12_nodeTick_109.1
theorem dX12_nodeTick_110 : decode cX12_nodeTick 110 = .ok (.getfield 185, 3) := db_X12_nodeTick_109.2.1
theorem dX12_nodeTick_113 : decode cX12_nodeTick 113 = .ok (.iload_n 3, 1) := db_X12_nodeTick_109.2.2.1
theorem dX12_nodeTick_114 : decode cX12_nodeTick 114 = .ok (.iaload, 1) := db_X12_nodeTick_109.2.2.2.1
theorem dX12_nodeTick_115 : decode cX12_nodeTick 115 = .ok (.iastore, 1) := db_X12_nodeTick_109.2.2.2.2.1
theorem dX12_nodeTick_116 : decode cX12_nodeTick 116 = .ok (.aload_n 0, 1) := db_X12_nodeTick_109.2.2.2.2.2.1
theorem dX12_nodeTick_117 : decode cX12_nodeTick 117 = .ok (.getfield 219, 3) := db_X12_nodeTick_109.2.2.2.2.2.2.1
theorem dX12_nodeTick_120 : decode cX12_nodeTick 120 = .ok (.bipush 7, 2) := db_X12_nodeTick_109.2.2.2.2.2.2.2.1
theorem dX12_nodeTick_122 : decode cX12_nodeTick 122 = .ok (.iconst 2, 1) := db_X12_nodeTick_109.2.2.2.2.2.2.2.2.1
theorem dX12_nodeTick_123 : decode cX12_nodeTick 123 = .ok (.iload_n 2, 1) := db_X12_nodeTick_109.2.2.2.2.2.2.2.2.2.1
theorem dX12_nodeTick_124 : decode cX12_nodeTick 124 = .ok (.imul, 1) := db_X12_nodeTick_109.2.2.2.2.2.2.2.2.2.2.1
theorem dX12_nodeTick_125 : decode cX12_nodeTick 125 = .ok (.iadd, 1) := db_X12_nodeTick_109.2.2.2.2.2.2.2.2.2.2.2.1
theorem dX12_nodeTick_126 : decode cX12_nodeTick 126 = .ok (.aload_n 0, 1) := db_X12_nodeTick_109.2.2.2.2.2.2.2.2.2.2.2.2.1
theorem dX12_nodeTick_127 : decode cX12_nodeTick 127 = .ok (.getfield 140, 3) := db_X12_nodeTick_109.2.2.2.2.2.2.2.2.2.2.2.2.2.1
theorem dX12_nodeTick_130 : decode cX12_nodeTick 130 = .ok (.iload_n 3, 1) := db_X12_nodeTick_109.2.2.2.2.2.2.2.2.2.2.2.2.2.2.1
theorem dX12_nodeTick_131 : decode cX12_nodeTick 131 = .ok (.iaload, 1) := db_X12_nodeTick_109.2.2.2.2.2.2.2.2.2.2.2.2.2.2.2
theorem db_X12_nodeTick_132 : decode cX12_nodeTick 132 = .ok (.iconst 2, 1) ∧ decode cX12_nodeTick 133 = .ok (.if_icmp .ne 12, 3) ∧ decode cX12_nodeTick 136 = .ok (.aload_n 0, 1) ∧ decode cX12_nodeTick 137 = .ok (.getfield 125, 3) ∧ decode cX12_nodeTick 140 = .ok (.iload_n 3, 1) ∧ decode cX12_nodeTick 141 = .ok (.iaload, 1) ∧ decode cX12_nodeTick 142 = .ok (.goto 4, 3) ∧ decode cX12_nodeTick 145 = .ok (.iconst 0, 1) ∧ decode cX12_nodeTick 146 = .ok (.iastore, 1) ∧ decode cX12_nodeTick 147 = .ok (.iinc 2 1, 3) ∧ decode cX12_nodeTick 150 = .ok (.goto (-75), 3) ∧ decode cX12_nodeTick 153 = .ok (.aload_n 0, 1) ∧ decode cX12_nodeTick 154 = .ok (.iload_n 1, 1) ∧ decode cX12_nodeTick 155 = .ok (.aload_n 0, 1) ∧ decode cX12_nodeTick 156 = .ok (.getfield 321, 3) ∧ decode cX12_nodeTick 159 = .ok (.bipush 14, 2) := by decide +kernel
theorem dX12_nodeTick_132 : decode cX12_nodeTick 132 = .ok (.iconst 2, 1) := db_X12_nodeTick_132.1
theorem dX12_nodeTick_133 : decode cX12_nodeTick 133 = .ok (.if_icmp .ne 12, 3) := db_X12_nodeTick_132.2.1
theorem dX12_nodeTick_136 : decode cX12_nodeTick 136 = .ok (.aload_n 0, 1) := db_X12_nodeTick_132.2.2.1
theorem dX12_nodeTick_137 : decode cX12_nodeTick 137 = .ok (.getfield 125, 3) := db_X12_nodeTick_132.2.2.2.1
theorem dX12_nodeTick_140 : decode cX12_nodeTick 140 = .ok (.iload_n 3, 1) := db_X12_nodeTick_132.2.2.2.2.1
theorem dX12_nodeTick_141 : decode cX12_nodeTick 141 = .ok (.iaload, 1) := db_X12_nodeTick_132.2.2.2.2.2.1
theorem dX12_nodeTick_142 : decode cX12_nodeTick 142 = .ok (.goto 4, 3) := db_X12_nodeTick_132.2.2.2.2.2.2.1
theorem dX12_nodeTick_145 : decode cX12_nodeTick 145 = .ok (.iconst 0, 1) := db_X12_nodeTick_132.2.2.2.2.2.2.2.1
theorem dX12_nodeTick_146 : decode cX12_nodeTick 146 = .ok (.iastore, 1) := db_X12_nodeTick_132.2.2.2.2.2.2.2.2.1
theorem dX12_nodeTick_147 : decode cX12_nodeTick 147 = .ok (.iinc 2 1, 3) := db_X12_nodeTick_132.2.2.2.2.2.2.2.2.2.1
theorem dX12_nodeTick_150 : decode cX12_nodeTick 150 = .ok (.goto (-75), 3) := db_X12_nodeTick_132.2.2.2.2.2.2.2.2.2.2.1
theorem dX12_nodeTick_153 : decode cX12_nodeTick 153 = .ok (.aload_n 0, 1) := db_X12_nodeTick_132.2.2.2.2.2.2.2.2.2.2.2.1
theorem dX12_nodeTick_154 : decode cX12_nodeTick 154 = .ok (.iload_n 1, 1) := db_X12_nodeTick_132.2.2.2.2.2.2.2.2.2.2.2.2.1
theorem dX12_nodeTick_155 : decode cX12_nodeTick 155 = .ok (.aload_n 0, 1) := db_X12_nodeTick_132.2.2.2.2.2.2.2.2.2.2.2.2.2.1
theorem dX12_nodeTick_156 : decode cX12_nodeTick 156 = .ok (.getfield 321, 3) := db_X12_nodeTick_132.2.2.2.2.2.2.2.2.2.2.2.2.2.2.1
theorem dX12_nodeTick_159 : decode cX12_nodeTick 159 = .ok (.bipush 14, 2) := db_X12_nodeTick_132.2.2.2.2.2.2.2.2.2.2.2.2.2.2.2
theorem db_X12_nodeTick_161 : decode cX12_nodeTick 161 = .ok (.invokevirtual 446, 3) ∧ decode cX12_nodeTick 164 = .ok (.bipush 8, 2) ∧ decode cX12_nodeTick 166 = .ok (.iload_n 1, 1) ∧ decode cX12_nodeTick 167 = .ok (.imul, 1) ∧ decode cX12_nodeTick 168 = .ok (.istore_n 2, 1) ∧ decode cX12_nodeTick 169 = .ok (.iload_n 2, 1) ∧ decode cX12_nodeTick 170 = .ok (.bipush 8, 2) ∧ decode cX12_nodeTick 172 = .ok (.iload_n 1, 1) ∧ decode cX12_nodeTick 173 = .ok (.imul, 1) ∧ decode cX12_nodeTick 174 = .ok (.bipush 8, 2) ∧ decode cX12_nodeTick 176 = .ok (.iadd, 1) ∧ decode cX12_nodeTick 177 = .ok (.if_icmp .ge 45, 3) ∧ decode cX12_nodeTick 180 = .ok (.aload_n 0, 1) ∧ decode cX12_nodeTick 181 = .ok (.getfield 225, 3) ∧ decode cX12_nodeTick 184 = .ok (.iload_n 2, 1) ∧ decode cX12_nodeTick 185 = .ok (.aload_n 0, 1) := by decide +kernel
theorem dX12_nodeTick_161 : decode cX12_nodeTick 161 = .ok (.invokevirtual 446, 3) := db_X12_nodeTick_161.1
theorem dX12_nodeTick_164 : decode cX12_nodeTick 164 = .ok (.bipush 8, 2) := db_X12_nodeTick_161.2.1
theorem dX12_nodeTick_166 : decode cX12_nodeTick 166 = .ok (.iload_n 1, 1) := db_X12_nodeTick_161.2.2.1
theorem dX12_nodeTick_167 : decode cX12_nodeTick 167 = .ok (.imul, 1) := db_X12_nodeTick_161.2.2.2.1
theorem dX12_nodeTick_168 : decode cX12_nodeTick 168 = .ok (.istore_n 2, 1) := db_X12_nodeTick_161.2.2.2.2.1
theorem dX12_nodeTick_169 : decode cX12_nodeTick 169 = .ok (.iload_n 2, 1) := db_X12_nodeTick_161.2.2.2.2.2.1
theorem dX12_nodeTick_170 : decode cX12_nodeTick 170 = .ok (.bipush 8, 2) := db_X12_nodeTick_161.2.2.2.2.2.2.1
theorem dX12_nodeTick_172 : decode cX12_nodeTick 172 = .ok (.iload_n 1, 1) := db_X12_nodeTick_161.2.2.2.2.2.2.2.1
theorem dX12_nodeTick_173 : decode cX12_nodeTick 173 = .ok (.imul, 1) := db_X12_nodeTick_161.2.2.2.2.2.2.2.2.1
theorem dX12_nodeTick_174 : decode cX12_nodeTick 174 = .ok (.bipush 8, 2) := db_X12_nodeTick_161.2.2.2.2.2.2.2.2.2.1
theorem dX12_nodeTick_176 : decode cX12_nodeTick 176 = .ok (.iadd, 1) := db_X12_nodeTick_161.2.2.2.2.2.2.2.2.2.2.1
theorem dX12_nodeTick_177 : decode cX12_nodeTick 177 = .ok (.if_icmp .ge 45, 3) := db_X12_nodeTick_161.2.2.2.2.2.2.2.2.2.2.2.1
theorem dX12_nodeTick_180 : decode cX12_nodeTick 180 = .ok (.aload_n 0, 1) := db_X12_nodeTick_161.2.2.2.2.2.2.2.2.2.2.2.2.1
theorem dX12_nodeTick_181 : decode cX12_nodeTick 181 = .ok (.getfield 225, 3) := db_X12_nodeTick_161.2.2.2.2.2.2.2.2.2.2.2.2.2.1
theorem dX12_nodeTick_184 : decode cX12_nodeTick 184 = .ok (.iload_n 2, 1) := db_X12_nodeTick_161.2.2.2.2.2.2.2.2.2.2.2.2.2.2.1
theorem dX12_nodeTick_185 : decode cX12_nodeTick 185 = .ok (.aload_n 0, 1) := db_X12_nodeTick_161.2.2.2.2.2.2.2.2.2.2.2.2.2.2.2
theorem db_X12_nodeTick_186 : decode cX12_nodeTick 186 = .ok (.getfield 225, 3) ∧ decode cX12_nodeTick 189 = .ok (.iload_n 2, 1) ∧ decode cX12_nodeTick 190 = .ok (.baload, 1) ∧ decode cX12_nodeTick 191 = .ok (.ifCond .eq 23, 3) ∧ decode cX12_nodeTick 214 = .ok (.iconst 0, 1) ∧ decode cX12_nodeTick 215 = .ok (.bastore, 1) ∧ decode cX12_nodeTick 216 = .ok (.iinc 2 1, 3) ∧ decode cX12_nodeTick 219 = .ok (.goto (-50), 3) ∧ decode cX12_nodeTick 222 = .ok (.iconst 0, 1) ∧ decode cX12_nodeTick 223 = .ok (.istore_n 2, 1) ∧ decode cX12_nodeTick 224 = .ok (.iload_n 2, 1) ∧ decode cX12_nodeTick 225 = .ok (.aload_n 0, 1) ∧ decode cX12_nodeTick 226 = .ok (.getfield 333, 3) ∧ decode cX12_nodeTick 229 = .ok (.if_icmp .ge 34, 3) ∧ decode cX12_nodeTick 263 = .ok (.return_, 1) := by decide +kernel
theorem dX12_nodeTick_186 : decode cX12_nodeTick 186 = .ok (.getfield 225, 3) := db_X12_nodeTick_186.1
theorem dX12_nodeTick_189 : decode cX12_nodeTick 189 = .ok (.iload_n 2, 1) := db_X12_nodeTick_186.2.1
theorem dX12_nodeTick_190 : decode cX12_nodeTick 190 = .ok (.baload, 1) := db_X12_nodeTick_186.2.2.1
theorem dX12_nodeTick_191 : decode cX12_nodeTick 191 = .ok (.ifCond .eq 23, 3) := db_X12_nodeTick_186.2.2.2.1
theorem dX12_nodeTick_214 : decode cX12_nodeTick 214 = .ok (.iconst 0, 1) := db_X12_nodeTick_186.2.2.2.2.1
theorem dX12_nodeTick_215 : decode cX12_nodeTick 215 = .ok (.bastore, 1) := db_X12_nodeTick_186.2.2.2.2.2.1
theorem dX12_nodeTick_216 : decode cX12_nodeTick 216 = .ok (.iinc 2 1, 3) := db_X12_nodeTick_186.2.2.2.2.2.2.1
theorem dX12_nodeTick_219 : decode cX12_nodeTick 219 = .ok (.goto (-50), 3) := db_X12_nodeTick_186.2.2.2.2.2.2.2.1
theorem dX12_nodeTick_222 : decode cX12_nodeTick 222 = .ok (.iconst 0, 1) := db_X12_nodeTick_186.2.2.2.2.2.2.2.2.1
theorem dX12_nodeTick_223 : decode cX12_nodeTick 223 = .ok (.istore_n 2, 1) := db_X12_nodeTick_186.2.2.2.2.2.2.2.2.2.1
theorem dX12_nodeTick_224 : decode cX12_nodeTick 224 = .ok (.iload_n 2, 1) := db_X12_nodeTick_186.2.2.2.2.2.2.2.2.2.2.1
theorem dX12_nodeTick_225 : decode cX12_nodeTick 225 = .ok (.aload_n 0, 1) := db_X12_nodeTick_186.2.2.2.2.2.2.2.2.2.2.2.1
theorem dX12_nodeTick_226 : decode cX12_nodeTick 226 = .ok (.getfield 333, 3) := db_X12_nodeTick_186.2.2.2.2.2.2.2.2.2.2.2.2.1
theorem dX12_nodeTick_229 : decode cX12_nodeTick 229 = .ok (.if_icmp .ge 34, 3) := db_X12_nodeTick_186.2.2.2.2.2.2.2.2.2.2.2.2.2.1
theorem dX12_nodeTick_263 : decode cX12_nodeTick 263 = .ok (.return_, 1) := db_X12_nodeTick_186.2.2.2.2.2.2.2.2.2.2.2.2.2.2
