theorem dX12_isOther_0 : decode cX12_isOther 0 = .ok (.iload_n 2, 1) := by decide +kernel
theorem dX12_isOther_1 : decode cX12_isOther 1 = .ok (.iload_n 1, 1) := by decide +kernel
theorem dX12_isOther_2 : decode cX12_isOther 2 = .ok (.iconst 4, 1) := by decide +kernel
theorem dX12_isOther_3 : decode cX12_isOther 3 = .ok (.idiv, 1) := by decide +kernel
theorem dX12_isOther_4 : decode cX12_isOther 4 = .ok (.if_icmp .eq 18, 3) := by decide +kernel
theorem dX12_isOther_7 : decode cX12_isOther 7 = .ok (.aload_n 0, 1) := by decide +kernel
theorem dX12_isOther_8 : decode cX12_isOther 8 = .ok (.iload_n 2, 1) := by decide +kernel
theorem dX12_isOther_9 : decode cX12_isOther 9 = .ok (.iload_n 1, 1) := by decide +kernel
theorem dX12_isOther_10 : decode cX12_isOther 10 = .ok (.iconst 4, 1) := by decide +kernel
theorem dX12_isOther_11 : decode cX12_isOther 11 = .ok (.irem, 1) := by decide +kernel
theorem dX12_isOther_12 : decode cX12_isOther 12 = .ok (.invokevirtual 352, 3) := by decide +kernel
theorem dX12_isOther_15 : decode cX12_isOther 15 = .ok (.ifCond .eq 7, 3) := by decide +kernel
theorem dX12_isOther_18 : decode cX12_isOther 18 = .ok (.iconst 1, 1) := by decide +kernel
theorem dX12_isOther_19 : decode cX12_isOther 19 = .ok (.goto 4, 3) := by decide +kernel
theorem dX12_isOther_22 : decode cX12_isOther 22 = .ok (.iconst 0, 1) := by decide +kernel
theorem dX12_isOther_23 : decode cX12_isOther 23 = .ok (.ireturn, 1) := by decide +kernel
theorem dX12_send_0 : decode cX12_send 0 = .ok (.bipush 6, 2) := by decide +kernel
theorem dX12_send_2 : decode cX12_send 2 = .ok (.iload_n 1, 1) := by decide +kernel
theorem dX12_send_3 : decode cX12_send 3 = .ok (.imul, 1) := by decide +kernel
theorem dX12_send_4 : decode cX12_send 4 = .ok (.iload_n 2, 1) := by decide +kernel
theorem dX12_send_5 : decode cX12_send 5 = .ok (.iadd, 1) := by decide +kernel
theorem dX12_send_6 : decode cX12_send 6 = .ok (.istore 4, 2) := by decide +kernel
theorem dX12_send_8 : decode cX12_send 8 = .ok (.aload_n 0, 1) := by decide +kernel
theorem dX12_send_9 : decode cX12_send 9 = .ok (.getfield 209, 3) := by decide +kernel
theorem dX12_send_12 : decode cX12_send 12 = .ok (.iload 4, 2) := by decide +kernel
theorem dX12_send_14 : decode cX12_send 14 = .ok (.iaload, 1) := by decide +kernel
theorem dX12_send_15 : decode cX12_send 15 = .ok (.bipush 60, 2) := by decide +kernel
theorem dX12_send_17 : decode cX12_send 17 = .ok (.if_icmp .ne 14, 3) := by decide +kernel
theorem dX12_send_20 : decode cX12_send 20 = .ok (.aload_n 0, 1) := by decide +kernel
theorem dX12_send_21 : decode cX12_send 21 = .ok (.dup, 1) := by decide +kernel
theorem dX12_send_22 : decode cX12_send 22 = .ok (.getfield 345, 3) := by decide +kernel
theorem dX12_send_25 : decode cX12_send 25 = .ok (.iconst 1, 1) := by decide +kernel
theorem dX12_send_26 : decode cX12_send 26 = .ok (.iadd, 1) := by decide +kernel
theorem dX12_send_27 : decode cX12_send 27 = .ok (.putfield 345, 3) := by decide +kernel
theorem dX12_send_30 : decode cX12_send 30 = .ok (.return_, 1) := by decide +kernel
theorem dX12_send_31 : decode cX12_send 31 = .ok (.iload 4, 2) := by decide +kernel
theorem dX12_send_33 : decode cX12_send 33 = .ok (.bipush 60, 2) := by decide +kernel
theorem dX12_send_35 : decode cX12_send 35 = .ok (.imul, 1) := by decide +kernel
theorem dX12_send_36 : decode cX12_send 36 = .ok (.aload_n 0, 1) := by decide +kernel
theorem dX12_send_37 : decode cX12_send 37 = .ok (.getfield 212, 3) := by decide +kernel
theorem dX12_send_40 : decode cX12_send 40 = .ok (.iload 4, 2) := by decide +kernel
theorem dX12_send_42 : decode cX12_send 42 = .ok (.iaload, 1) := by decide +kernel
theorem dX12_send_43 : decode cX12_send 43 = .ok (.aload_n 0, 1) := by decide +kernel
theorem dX12_send_44 : decode cX12_send 44 = .ok (.getfield 209, 3) := by decide +kernel
theorem dX12_send_47 : decode cX12_send 47 = .ok (.iload 4, 2) := by decide +kernel
theorem dX12_send_49 : decode cX12_send 49 = .ok (.iaload, 1) := by decide +kernel
theorem dX12_send_50 : decode cX12_send 50 = .ok (.iadd, 1) := by decide +kernel
theorem dX12_send_51 : decode cX12_send 51 = .ok (.bipush 60, 2) := by decide +kernel
theorem dX12_send_53 : decode cX12_send 53 = .ok (.irem, 1) := by decide +kernel
theorem dX12_send_54 : decode cX12_send 54 = .ok (.iadd, 1) := by decide +kernel
theorem dX12_send_55 : decode cX12_send 55 = .ok (.bipush 34, 2) := by decide +kernel
theorem dX12_send_57 : decode cX12_send 57 = .ok (.imul, 1) := by decide +kernel
theorem dX12_send_58 : decode cX12_send 58 = .ok (.istore 5, 2) := by decide +kernel
theorem dX12_send_60 : decode cX12_send 60 = .ok (.iconst 0, 1) := by decide +kernel
theorem dX12_send_61 : decode cX12_send 61 = .ok (.istore 6, 2) := by decide +kernel
theorem dX12_send_63 : decode cX12_send 63 = .ok (.iload 6, 2) := by decide +kernel
theorem dX12_send_65 : decode cX12_send 65 = .ok (.bipush 34, 2) := by decide +kernel
theorem dX12_send_67 : decode cX12_send 67 = .ok (.if_icmp .ge 36, 3) := by decide +kernel
theorem dX12_send_70 : decode cX12_send 70 = .ok (.aload_n 0, 1) := by decide +kernel
theorem dX12_send_71 : decode cX12_send 71 = .ok (.getfield 216, 3) := by decide +kernel
theorem dX12_send_74 : decode cX12_send 74 = .ok (.iload 5, 2) := by decide +kernel
theorem dX12_send_76 : decode cX12_send 76 = .ok (.iload 6, 2) := by decide +kernel
theorem dX12_send_78 : decode cX12_send 78 = .ok (.iadd, 1) := by decide +kernel
theorem dX12_send_79 : decode cX12_send 79 = .ok (.iload 6, 2) := by decide +kernel
theorem dX12_send_81 : decode cX12_send 81 = .ok (.iload_n 3, 1) := by decide +kernel
theorem dX12_send_82 : decode cX12_send 82 = .ok (.if_icmp .ge 13, 3) := by decide +kernel
theorem dX12_send_85 : decode cX12_send 85 = .ok (.aload_n 0, 1) := by decide +kernel
theorem dX12_send_86 : decode cX12_send 86 = .ok (.getfield 219, 3) := by decide +kernel
theorem dX12_send_89 : decode cX12_send 89 = .ok (.iload 6, 2) := by decide +kernel
theorem dX12_send_91 : decode cX12_send 91 = .ok (.iaload, 1) := by decide +kernel
theorem dX12_send_92 : decode cX12_send 92 = .ok (.goto 4, 3) := by decide +kernel
theorem dX12_send_95 : decode cX12_send 95 = .ok (.iconst 0, 1) := by decide +kernel
theorem dX12_send_96 : decode cX12_send 96 = .ok (.iastore, 1) := by decide +kernel
theorem dX12_send_97 : decode cX12_send 97 = .ok (.iinc 6 1, 3) := by decide +kernel
theorem dX12_send_100 : decode cX12_send 100 = .ok (.goto (-37), 3) := by decide +kernel
theorem dX12_send_103 : decode cX12_send 103 = .ok (.aload_n 0, 1) := by decide +kernel
theorem dX12_send_104 : decode cX12_send 104 = .ok (.getfield 209, 3) := by decide +kernel
theorem dX12_send_107 : decode cX12_send 107 = .ok (.iload 4, 2) := by decide +kernel
theorem dX12_send_109 : decode cX12_send 109 = .ok (.dup2, 1) := by decide +kernel
theorem dX12_send_110 : decode cX12_send 110 = .ok (.iaload, 1) := by decide +kernel
theorem dX12_send_111 : decode cX12_send 111 = .ok (.iconst 1, 1) := by decide +kernel
theorem dX12_send_112 : decode cX12_send 112 = .ok (.iadd, 1) := by decide +kernel
theorem dX12_send_113 : decode cX12_send 113 = .ok (.iastore, 1) := by decide +kernel
theorem dX12_send_114 : decode cX12_send 114 = .ok (.return_, 1) := by decide +kernel
theorem dX12_takeFirst_0 : decode cX12_takeFirst 0 = .ok (.bipush 6, 2) := by decide +kernel
theorem dX12_takeFirst_2 : decode cX12_takeFirst 2 = .ok (.iload_n 1, 1) := by decide +kernel
theorem dX12_takeFirst_3 : decode cX12_takeFirst 3 = .ok (.imul, 1) := by decide +kernel
theorem dX12_takeFirst_4 : decode cX12_takeFirst 4 = .ok (.iload_n 2, 1) := by decide +kernel
theorem dX12_takeFirst_5 : decode cX12_takeFirst 5 = .ok (.iadd, 1) := by decide +kernel
theorem dX12_takeFirst_6 : decode cX12_takeFirst 6 = .ok (.istore_n 3, 1) := by decide +kernel
theorem dX12_takeFirst_7 : decode cX12_takeFirst 7 = .ok (.iload_n 3, 1) := by decide +kernel
theorem dX12_takeFirst_8 : decode cX12_takeFirst 8 = .ok (.bipush 60, 2) := by decide +kernel
theorem dX12_takeFirst_10 : decode cX12_takeFirst 10 = .ok (.imul, 1) := by decide +kernel
theorem dX12_takeFirst_11 : decode cX12_takeFirst 11 = .ok (.aload_n 0, 1) := by decide +kernel
theorem dX12_takeFirst_12 : decode cX12_takeFirst 12 = .ok (.getfield 212, 3) := by decide +kernel
theorem dX12_takeFirst_15 : decode cX12_takeFirst 15 = .ok (.iload_n 3, 1) := by decide +kernel
theorem dX12_takeFirst_16 : decode cX12_takeFirst 16 = .ok (.iaload, 1) := by decide +kernel
theorem dX12_takeFirst_17 : decode cX12_takeFirst 17 = .ok (.iadd, 1) := by decide +kernel
theorem dX12_takeFirst_18 : decode cX12_takeFirst 18 = .ok (.bipush 34, 2) := by decide +kernel
theorem dX12_takeFirst_20 : decode cX12_takeFirst 20 = .ok (.imul, 1) := by decide +kernel
theorem dX12_takeFirst_21 : decode cX12_takeFirst 21 = .ok (.istore 4, 2) := by decide +kernel
theorem dX12_takeFirst_23 : decode cX12_takeFirst 23 = .ok (.iconst 0, 1) := by decide +kernel
theorem dX12_takeFirst_24 : decode cX12_takeFirst 24 = .ok (.istore 5, 2) := by decide +kernel
theorem dX12_takeFirst_26 : decode cX12_takeFirst 26 = .ok (.iload 5, 2) := by decide +kernel
theorem dX12_takeFirst_28 : decode cX12_takeFirst 28 = .ok (.bipush 34, 2) := by decide +kernel
theorem dX12_takeFirst_30 : decode cX12_takeFirst 30 = .ok (.if_icmp .ge 26, 3) := by decide +kernel
theorem dX12_takeFirst_33 : decode cX12_takeFirst 33 = .ok (.aload_n 0, 1) := by decide +kernel
theorem dX12_takeFirst_34 : decode cX12_takeFirst 34 = .ok (.getfield 222, 3) := by decide +kernel
theorem dX12_takeFirst_37 : decode cX12_takeFirst 37 = .ok (.iload 5, 2) := by decide +kernel
theorem dX12_takeFirst_39 : decode cX12_takeFirst 39 = .ok (.aload_n 0, 1) := by decide +kernel
theorem dX12_takeFirst_40 : decode cX12_takeFirst 40 = .ok (.getfield 216, 3) := by decide +kernel
theorem dX12_takeFirst_43 : decode cX12_takeFirst 43 = .ok (.iload 4, 2) := by decide +kernel
theorem dX12_takeFirst_45 : decode cX12_takeFirst 45 = .ok (.iload 5, 2) := by decide +kernel
theorem dX12_takeFirst_47 : decode cX12_takeFirst 47 = .ok (.iadd, 1) := by decide +kernel
theorem dX12_takeFirst_48 : decode cX12_takeFirst 48 = .ok (.iaload, 1) := by decide +kernel
theorem dX12_takeFirst_49 : decode cX12_takeFirst 49 = .ok (.iastore, 1) := by decide +kernel
theorem dX12_takeFirst_50 : decode cX12_takeFirst 50 = .ok (.iinc 5 1, 3) := by decide +kernel
theorem dX12_takeFirst_53 : decode cX12_takeFirst 53 = .ok (.goto (-27), 3) := by decide +kernel
theorem dX12_takeFirst_56 : decode cX12_takeFirst 56 = .ok (.aload_n 0, 1) := by decide +kernel
theorem dX12_takeFirst_57 : decode cX12_takeFirst 57 = .ok (.getfield 212, 3) := by decide +kernel
theorem dX12_takeFirst_60 : decode cX12_takeFirst 60 = .ok (.iload_n 3, 1) := by decide +kernel
theorem dX12_takeFirst_61 : decode cX12_takeFirst 61 = .ok (.aload_n 0, 1) := by decide +kernel
theorem dX12_takeFirst_62 : decode cX12_takeFirst 62 = .ok (.getfield 212, 3) := by decide +kernel
theorem dX12_takeFirst_65 : decode cX12_takeFirst 65 = .ok (.iload_n 3, 1) := by decide +kernel
theorem dX12_takeFirst_66 : decode cX12_takeFirst 66 = .ok (.iaload, 1) := by decide +kernel
theorem dX12_takeFirst_67 : decode cX12_takeFirst 67 = .ok (.iconst 1, 1) := by decide +kernel
theorem dX12_takeFirst_68 : decode cX12_takeFirst 68 = .ok (.iadd, 1) := by decide +kernel
theorem dX12_takeFirst_69 : decode cX12_takeFirst 69 = .ok (.bipush 60, 2) := by decide +kernel
theorem dX12_takeFirst_71 : decode cX12_takeFirst 71 = .ok (.irem, 1) := by decide +kernel
theorem dX12_takeFirst_72 : decode cX12_takeFirst 72 = .ok (.iastore, 1) := by decide +kernel
theorem dX12_takeFirst_73 : decode cX12_takeFirst 73 = .ok (.aload_n 0, 1) := by decide +kernel
theorem dX12_takeFirst_74 : decode cX12_takeFirst 74 = .ok (.getfield 209, 3) := by decide +kernel
theorem dX12_takeFirst_77 : decode cX12_takeFirst 77 = .ok (.iload_n 3, 1) := by decide +kernel
theorem dX12_takeFirst_78 : decode cX12_takeFirst 78 = .ok (.dup2, 1) := by decide +kernel
theorem dX12_takeFirst_79 : decode cX12_takeFirst 79 = .ok (.iaload, 1) := by decide +kernel
theorem dX12_takeFirst_80 : decode cX12_takeFirst 80 = .ok (.iconst 1, 1) := by decide +kernel
theorem dX12_takeFirst_81 : decode cX12_takeFirst 81 = .ok (.isub, 1) := by decide +kernel
theorem dX12_takeFirst_82 : decode cX12_takeFirst 82 = .ok (.iastore, 1) := by decide +kernel
theorem dX12_takeFirst_83 : decode cX12_takeFirst 83 = .ok (.aload_n 0, 1) := by decide +kernel
theorem dX12_takeFirst_84 : decode cX12_takeFirst 84 = .ok (.getfield 222, 3) := by decide +kernel
theorem dX12_takeFirst_87 : decode cX12_takeFirst 87 = .ok (.iconst 0, 1) := by decide +kernel
theorem dX12_takeFirst_88 : decode cX12_takeFirst 88 = .ok (.iaload, 1) := by decide +kernel
theorem dX12_takeFirst_89 : decode cX12_takeFirst 89 = .ok (.ireturn, 1) := by decide +kernel
theorem dX12_sendSimple_0 : decode cX12_sendSimple 0 = .ok (.aload_n 0, 1) := by decide +kernel
theorem dX12_sendSimple_1 : decode cX12_sendSimple 1 = .ok (.getfield 219, 3) := by decide +kernel
theorem dX12_sendSimple_4 : decode cX12_sendSimple 4 = .ok (.iconst 0, 1) := by decide +kernel
theorem dX12_sendSimple_5 : decode cX12_sendSimple 5 = .ok (.iload_n 3, 1) := by decide +kernel
theorem dX12_sendSimple_6 : decode cX12_sendSimple 6 = .ok (.iastore, 1) := by decide +kernel
theorem dX12_sendSimple_7 : decode cX12_sendSimple 7 = .ok (.aload_n 0, 1) := by decide +kernel
theorem dX12_sendSimple_8 : decode cX12_sendSimple 8 = .ok (.getfield 219, 3) := by decide +kernel
theorem dX12_sendSimple_11 : decode cX12_sendSimple 11 = .ok (.iconst 1, 1) := by decide +kernel
theorem dX12_sendSimple_12 : decode cX12_sendSimple 12 = .ok (.iload 4, 2) := by decide +kernel
theorem dX12_sendSimple_14 : decode cX12_sendSimple 14 = .ok (.iastore, 1) := by decide +kernel
theorem dX12_sendSimple_15 : decode cX12_sendSimple 15 = .ok (.aload_n 0, 1) := by decide +kernel
theorem dX12_sendSimple_16 : decode cX12_sendSimple 16 = .ok (.getfield 219, 3) := by decide +kernel
theorem dX12_sendSimple_19 : decode cX12_sendSimple 19 = .ok (.iconst 2, 1) := by decide +kernel
theorem dX12_sendSimple_20 : decode cX12_sendSimple 20 = .ok (.iload 5, 2) := by decide +kernel
theorem dX12_sendSimple_22 : decode cX12_sendSimple 22 = .ok (.iastore, 1) := by decide +kernel
theorem dX12_sendSimple_23 : decode cX12_sendSimple 23 = .ok (.aload_n 0, 1) := by decide +kernel
theorem dX12_sendSimple_24 : decode cX12_sendSimple 24 = .ok (.iload_n 1, 1) := by decide +kernel
theorem dX12_sendSimple_25 : decode cX12_sendSimple 25 = .ok (.iload_n 2, 1) := by decide +kernel
theorem dX12_sendSimple_26 : decode cX12_sendSimple 26 = .ok (.iconst 3, 1) := by decide +kernel
theorem dX12_sendSimple_27 : decode cX12_sendSimple 27 = .ok (.invokevirtual 446, 3) := by decide +kernel
theorem dX12_sendSimple_30 : decode cX12_sendSimple 30 = .ok (.return_, 1) := by decide +kernel
theorem dX12_fall_0 : decode cX12_fall 0 = .ok (.aload_n 0, 1) := by decide +kernel
theorem dX12_fall_1 : decode cX12_fall 1 = .ok (.getfield 77, 3) := by decide +kernel
theorem dX12_fall_4 : decode cX12_fall 4 = .ok (.iload_n 1, 1) := by decide +kernel
theorem dX12_fall_5 : decode cX12_fall 5 = .ok (.iconst 0, 1) := by decide +kernel
theorem dX12_fall_6 : decode cX12_fall 6 = .ok (.bastore, 1) := by decide +kernel
theorem dX12_fall_7 : decode cX12_fall 7 = .ok (.iconst 0, 1) := by decide +kernel
theorem dX12_fall_8 : decode cX12_fall 8 = .ok (.istore_n 2, 1) := by decide +kernel
theorem dX12_fall_9 : decode cX12_fall 9 = .ok (.iconst 0, 1) := by decide +kernel
theorem dX12_fall_10 : decode cX12_fall 10 = .ok (.istore_n 3, 1) := by decide +kernel
theorem dX12_fall_11 : decode cX12_fall 11 = .ok (.iload_n 3, 1) := by decide +kernel
theorem dX12_fall_12 : decode cX12_fall 12 = .ok (.aload_n 0, 1) := by decide +kernel
theorem dX12_fall_13 : decode cX12_fall 13 = .ok (.getfield 333, 3) := by decide +kernel
theorem dX12_fall_16 : decode cX12_fall 16 = .ok (.if_icmp .ge 46, 3) := by decide +kernel
theorem dX12_fall_19 : decode cX12_fall 19 = .ok (.iload_n 1, 1) := by decide +kernel
theorem dX12_fall_20 : decode cX12_fall 20 = .ok (.aload_n 0, 1) := by decide +kernel
theorem dX12_fall_21 : decode cX12_fall 21 = .ok (.getfield 321, 3) := by decide +kernel
theorem dX12_fall_24 : decode cX12_fall 24 = .ok (.if_icmp .ge 38, 3) := by decide +kernel
theorem dX12_fall_27 : decode cX12_fall 27 = .ok (.aload_n 0, 1) := by decide +kernel
theorem dX12_fall_28 : decode cX12_fall 28 = .ok (.getfield 19, 3) := by decide +kernel
theorem dX12_fall_31 : decode cX12_fall 31 = .ok (.iload_n 3, 1) := by decide +kernel
theorem dX12_fall_32 : decode cX12_fall 32 = .ok (.iaload, 1) := by decide +kernel
theorem dX12_fall_33 : decode cX12_fall 33 = .ok (.iload_n 1, 1) := by decide +kernel
theorem dX12_fall_34 : decode cX12_fall 34 = .ok (.if_icmp .ne 22, 3) := by decide +kernel
theorem dX12_fall_37 : decode cX12_fall 37 = .ok (.aload_n 0, 1) := by decide +kernel
theorem dX12_fall_38 : decode cX12_fall 38 = .ok (.getfield 22, 3) := by decide +kernel
theorem dX12_fall_41 : decode cX12_fall 41 = .ok (.iload_n 3, 1) := by decide +kernel
theorem dX12_fall_42 : decode cX12_fall 42 = .ok (.iaload, 1) := by decide +kernel
theorem dX12_fall_43 : decode cX12_fall 43 = .ok (.ifCond .ne 13, 3) := by decide +kernel
theorem dX12_fall_46 : decode cX12_fall 46 = .ok (.aload_n 0, 1) := by decide +kernel
theorem dX12_fall_47 : decode cX12_fall 47 = .ok (.getfield 22, 3) := by decide +kernel
theorem dX12_fall_50 : decode cX12_fall 50 = .ok (.iload_n 3, 1) := by decide +kernel
theorem dX12_fall_51 : decode cX12_fall 51 = .ok (.iconst 2, 1) := by decide +kernel
theorem dX12_fall_52 : decode cX12_fall 52 = .ok (.iastore, 1) := by decide +kernel
theorem dX12_fall_53 : decode cX12_fall 53 = .ok (.iinc 2 1, 3) := by decide +kernel
theorem dX12_fall_56 : decode cX12_fall 56 = .ok (.iinc 3 1, 3) := by decide +kernel
theorem dX12_fall_59 : decode cX12_fall 59 = .ok (.goto (-48), 3) := by decide +kernel
theorem dX12_fall_62 : decode cX12_fall 62 = .ok (.iconst 0, 1) := by decide +kernel
theorem dX12_fall_63 : decode cX12_fall 63 = .ok (.istore_n 3, 1) := by decide +kernel
theorem dX12_fall_64 : decode cX12_fall 64 = .ok (.iload_n 3, 1) := by decide +kernel
theorem dX12_fall_65 : decode cX12_fall 65 = .ok (.bipush 8, 2) := by decide +kernel
theorem dX12_fall_67 : decode cX12_fall 67 = .ok (.if_icmp .ge 29, 3) := by decide +kernel
theorem dX12_fall_70 : decode cX12_fall 70 = .ok (.iload_n 1, 1) := by decide +kernel
theorem dX12_fall_71 : decode cX12_fall 71 = .ok (.aload_n 0, 1) := by decide +kernel
theorem dX12_fall_72 : decode cX12_fall 72 = .ok (.getfield 321, 3) := by decide +kernel
theorem dX12_fall_75 : decode cX12_fall 75 = .ok (.if_icmp .ge 21, 3) := by decide +kernel
theorem dX12_fall_78 : decode cX12_fall 78 = .ok (.aload_n 0, 1) := by decide +kernel
theorem dX12_fall_79 : decode cX12_fall 79 = .ok (.getfield 225, 3) := by decide +kernel
theorem dX12_fall_82 : decode cX12_fall 82 = .ok (.bipush 8, 2) := by decide +kernel
theorem dX12_fall_84 : decode cX12_fall 84 = .ok (.iload_n 1, 1) := by decide +kernel
theorem dX12_fall_85 : decode cX12_fall 85 = .ok (.imul, 1) := by decide +kernel
theorem dX12_fall_86 : decode cX12_fall 86 = .ok (.iload_n 3, 1) := by decide +kernel
theorem dX12_fall_87 : decode cX12_fall 87 = .ok (.iadd, 1) := by decide +kernel
theorem dX12_fall_88 : decode cX12_fall 88 = .ok (.iconst 0, 1) := by decide +kernel
theorem dX12_fall_89 : decode cX12_fall 89 = .ok (.bastore, 1) := by decide +kernel
theorem dX12_fall_90 : decode cX12_fall 90 = .ok (.iinc 3 1, 3) := by decide +kernel
theorem dX12_fall_93 : decode cX12_fall 93 = .ok (.goto (-29), 3) := by decide +kernel
theorem dX12_fall_96 : decode cX12_fall 96 = .ok (.iload_n 2, 1) := by decide +kernel
theorem dX12_fall_97 : decode cX12_fall 97 = .ok (.ireturn, 1) := by decide +kernel
theorem dX12_u1_0 : decode cX12_u1 0 = .ok (.aload_n 0, 1) := by decide +kernel
theorem dX12_u1_1 : decode cX12_u1 1 = .ok (.getfield 87, 3) := by decide +kernel
theorem dX12_u1_4 : decode cX12_u1 4 = .ok (.iload_n 1, 1) := by decide +kernel
theorem dX12_u1_5 : decode cX12_u1 5 = .ok (.baload, 1) := by decide +kernel
theorem dX12_u1_6 : decode cX12_u1 6 = .ok (.sipush 255, 3) := by decide +kernel
theorem dX12_u1_9 : decode cX12_u1 9 = .ok (.iand, 1) := by decide +kernel
theorem dX12_u1_10 : decode cX12_u1 10 = .ok (.ireturn, 1) := by decide +kernel
theorem dX12_liveRequest_0 : decode cX12_liveRequest 0 = .ok (.iconst 5, 1) := by decide +kernel
theorem dX12_liveRequest_1 : decode cX12_liveRequest 1 = .ok (.iload_n 1, 1) := by decide +kernel
theorem dX12_liveRequest_2 : decode cX12_liveRequest 2 = .ok (.imul, 1) := by decide +kernel
theorem dX12_liveRequest_3 : decode cX12_liveRequest 3 = .ok (.istore_n 3, 1) := by decide +kernel
theorem dX12_liveRequest_4 : decode cX12_liveRequest 4 = .ok (.iload_n 3, 1) := by decide +kernel
theorem dX12_liveRequest_5 : decode cX12_liveRequest 5 = .ok (.iconst 5, 1) := by decide +kernel
theorem dX12_liveRequest_6 : decode cX12_liveRequest 6 = .ok (.iload_n 1, 1) := by decide +kernel
theorem dX12_liveRequest_7 : decode cX12_liveRequest 7 = .ok (.imul, 1) := by decide +kernel
theorem dX12_liveRequest_8 : decode cX12_liveRequest 8 = .ok (.aload_n 0, 1) := by decide +kernel
theorem dX12_liveRequest_9 : decode cX12_liveRequest 9 = .ok (.getfield 194, 3) := by decide +kernel
theorem dX12_liveRequest_12 : decode cX12_liveRequest 12 = .ok (.iload_n 1, 1) := by decide +kernel
theorem dX12_liveRequest_13 : decode cX12_liveRequest 13 = .ok (.iaload, 1) := by decide +kernel
theorem dX12_liveRequest_14 : decode cX12_liveRequest 14 = .ok (.iadd, 1) := by decide +kernel
theorem dX12_liveRequest_15 : decode cX12_liveRequest 15 = .ok (.if_icmp .ge 73, 3) := by decide +kernel
theorem dX12_liveRequest_18 : decode cX12_liveRequest 18 = .ok (.iconst 0, 1) := by decide +kernel
theorem dX12_liveRequest_19 : decode cX12_liveRequest 19 = .ok (.istore 4, 2) := by decide +kernel
theorem dX12_liveRequest_21 : decode cX12_liveRequest 21 = .ok (.iload 4, 2) := by decide +kernel
theorem dX12_liveRequest_23 : decode cX12_liveRequest 23 = .ok (.aload_n 0, 1) := by decide +kernel
theorem dX12_liveRequest_24 : decode cX12_liveRequest 24 = .ok (.getfield 197, 3) := by decide +kernel
theorem dX12_liveRequest_27 : decode cX12_liveRequest 27 = .ok (.iload_n 3, 1) := by decide +kernel
theorem dX12_liveRequest_28 : decode cX12_liveRequest 28 = .ok (.iaload, 1) := by decide +kernel
theorem dX12_liveRequest_29 : decode cX12_liveRequest 29 = .ok (.if_icmp .ge 53, 3) := by decide +kernel
theorem dX12_liveRequest_32 : decode cX12_liveRequest 32 = .ok (.aload_n 0, 1) := by decide +kernel
theorem dX12_liveRequest_33 : decode cX12_liveRequest 33 = .ok (.getfield 206, 3) := by decide +kernel
theorem dX12_liveRequest_36 : decode cX12_liveRequest 36 = .ok (.bipush 100, 2) := by decide +kernel
theorem dX12_liveRequest_38 : decode cX12_liveRequest 38 = .ok (.iload_n 3, 1) := by decide +kernel
theorem dX12_liveRequest_39 : decode cX12_liveRequest 39 = .ok (.imul, 1) := by decide +kernel
theorem dX12_liveRequest_40 : decode cX12_liveRequest 40 = .ok (.iload 4, 2) := by decide +kernel
theorem dX12_liveRequest_42 : decode cX12_liveRequest 42 = .ok (.iadd, 1) := by decide +kernel
theorem dX12_liveRequest_43 : decode cX12_liveRequest 43 = .ok (.baload, 1) := by decide +kernel
theorem dX12_liveRequest_44 : decode cX12_liveRequest 44 = .ok (.ifCond .eq 32, 3) := by decide +kernel
theorem dX12_liveRequest_47 : decode cX12_liveRequest 47 = .ok (.aload_n 0, 1) := by decide +kernel
theorem dX12_liveRequest_48 : decode cX12_liveRequest 48 = .ok (.getfield 200, 3) := by decide +kernel
theorem dX12_liveRequest_51 : decode cX12_liveRequest 51 = .ok (.bipush 100, 2) := by decide +kernel
theorem dX12_liveRequest_53 : decode cX12_liveRequest 53 = .ok (.iload_n 3, 1) := by decide +kernel
theorem dX12_liveRequest_54 : decode cX12_liveRequest 54 = .ok (.imul, 1) := by decide +kernel
theorem dX12_liveRequest_55 : decode cX12_liveRequest 55 = .ok (.iload 4, 2) := by decide +kernel
theorem dX12_liveRequest_57 : decode cX12_liveRequest 57 = .ok (.iadd, 1) := by decide +kernel
theorem dX12_liveRequest_58 : decode cX12_liveRequest 58 = .ok (.iaload, 1) := by decide +kernel
theorem dX12_liveRequest_59 : decode cX12_liveRequest 59 = .ok (.iload_n 2, 1) := by decide +kernel
theorem dX12_liveRequest_60 : decode cX12_liveRequest 60 = .ok (.if_icmp .ne 16, 3) := by decide +kernel
theorem dX12_liveRequest_63 : decode cX12_liveRequest 63 = .ok (.aload_n 0, 1) := by decide +kernel
theorem dX12_liveRequest_64 : decode cX12_liveRequest 64 = .ok (.getfield 203, 3) := by decide +kernel
theorem dX12_liveRequest_67 : decode cX12_liveRequest 67 = .ok (.bipush 100, 2) := by decide +kernel
theorem dX12_liveRequest_69 : decode cX12_liveRequest 69 = .ok (.iload_n 3, 1) := by decide +kernel
theorem dX12_liveRequest_70 : decode cX12_liveRequest 70 = .ok (.imul, 1) := by decide +kernel
theorem dX12_liveRequest_71 : decode cX12_liveRequest 71 = .ok (.iload 4, 2) := by decide +kernel
theorem dX12_liveRequest_73 : decode cX12_liveRequest 73 = .ok (.iadd, 1) := by decide +kernel
theorem dX12_liveRequest_74 : decode cX12_liveRequest 74 = .ok (.iaload, 1) := by decide +kernel
theorem dX12_liveRequest_75 : decode cX12_liveRequest 75 = .ok (.ireturn, 1) := by decide +kernel
theorem dX12_liveRequest_76 : decode cX12_liveRequest 76 = .ok (.iinc 4 1, 3) := by decide +kernel
theorem dX12_liveRequest_79 : decode cX12_liveRequest 79 = .ok (.goto (-58), 3) := by decide +kernel
theorem dX12_liveRequest_82 : decode cX12_liveRequest 82 = .ok (.iinc 3 1, 3) := by decide +kernel
theorem dX12_liveRequest_85 : decode cX12_liveRequest 85 = .ok (.goto (-81), 3) := by decide +kernel
theorem dX12_liveRequest_88 : decode cX12_liveRequest 88 = .ok (.iconst (-1), 1) := by decide +kernel
theorem dX12_liveRequest_89 : decode cX12_liveRequest 89 = .ok (.ireturn, 1) := by decide +kernel
theorem dX12_isLetter_0 : decode cX12_isLetter 0 = .ok (.iload_n 0, 1) := by decide +kernel
theorem dX12_isLetter_1 : decode cX12_isLetter 1 = .ok (.bipush 97, 2) := by decide +kernel
theorem dX12_isLetter_3 : decode cX12_isLetter 3 = .ok (.if_icmp .lt 9, 3) := by decide +kernel
theorem dX12_isLetter_6 : decode cX12_isLetter 6 = .ok (.iload_n 0, 1) := by decide +kernel
theorem dX12_isLetter_7 : decode cX12_isLetter 7 = .ok (.bipush 122, 2) := by decide +kernel
theorem dX12_isLetter_9 : decode cX12_isLetter 9 = .ok (.if_icmp .le 15, 3) := by decide +kernel
theorem dX12_isLetter_12 : decode cX12_isLetter 12 = .ok (.iload_n 0, 1) := by decide +kernel
theorem dX12_isLetter_13 : decode cX12_isLetter 13 = .ok (.bipush 65, 2) := by decide +kernel
theorem dX12_isLetter_15 : decode cX12_isLetter 15 = .ok (.if_icmp .lt 13, 3) := by decide +kernel
theorem dX12_isLetter_18 : decode cX12_isLetter 18 = .ok (.iload_n 0, 1) := by decide +kernel
theorem dX12_isLetter_19 : decode cX12_isLetter 19 = .ok (.bipush 90, 2) := by decide +kernel
theorem dX12_isLetter_21 : decode cX12_isLetter 21 = .ok (.if_icmp .gt 7, 3) := by decide +kernel
theorem dX12_isLetter_24 : decode cX12_isLetter 24 = .ok (.iconst 1, 1) := by decide +kernel
theorem dX12_isLetter_25 : decode cX12_isLetter 25 = .ok (.goto 4, 3) := by decide +kernel
theorem dX12_isLetter_28 : decode cX12_isLetter 28 = .ok (.iconst 0, 1) := by decide +kernel
theorem dX12_isLetter_29 : decode cX12_isLetter 29 = .ok (.ireturn, 1) := by decide +kernel
theorem dX12_isRow_0 : decode cX12_isRow 0 = .ok (.iload_n 0, 1) := by decide +kernel
theorem dX12_isRow_1 : decode cX12_isRow 1 = .ok (.invokestatic 499, 3) := by decide +kernel
theorem dX12_isRow_4 : decode cX12_isRow 4 = .ok (.ifCond .ne 15, 3) := by decide +kernel
theorem dX12_isRow_7 : decode cX12_isRow 7 = .ok (.iload_n 0, 1) := by decide +kernel
theorem dX12_isRow_8 : decode cX12_isRow 8 = .ok (.bipush 48, 2) := by decide +kernel
theorem dX12_isRow_10 : decode cX12_isRow 10 = .ok (.if_icmp .lt 13, 3) := by decide +kernel
theorem dX12_isRow_13 : decode cX12_isRow 13 = .ok (.iload_n 0, 1) := by decide +kernel
theorem dX12_isRow_14 : decode cX12_isRow 14 = .ok (.bipush 57, 2) := by decide +kernel
theorem dX12_isRow_16 : decode cX12_isRow 16 = .ok (.if_icmp .gt 7, 3) := by decide +kernel
theorem dX12_isRow_19 : decode cX12_isRow 19 = .ok (.iconst 1, 1) := by decide +kernel
theorem dX12_isRow_20 : decode cX12_isRow 20 = .ok (.goto 4, 3) := by decide +kernel
theorem dX12_isRow_23 : decode cX12_isRow 23 = .ok (.iconst 0, 1) := by decide +kernel
theorem dX12_isRow_24 : decode cX12_isRow 24 = .ok (.ireturn, 1) := by decide +kernel
theorem dX12_sign_0 : decode cX12_sign 0 = .ok (.aload_n 0, 1) := by decide +kernel
theorem dX12_sign_1 : decode cX12_sign 1 = .ok (.getfield 537, 3) := by decide +kernel
theorem dX12_sign_4 : decode cX12_sign 4 = .ok (.aload_n 0, 1) := by decide +kernel
theorem dX12_sign_5 : decode cX12_sign 5 = .ok (.getfield 540, 3) := by decide +kernel
theorem dX12_sign_8 : decode cX12_sign 8 = .ok (.if_icmp .ge 15, 3) := by decide +kernel
theorem dX12_sign_11 : decode cX12_sign 11 = .ok (.aload_n 0, 1) := by decide +kernel
theorem dX12_sign_12 : decode cX12_sign 12 = .ok (.getfield 47, 3) := by decide +kernel
theorem dX12_sign_15 : decode cX12_sign 15 = .ok (.aload_n 0, 1) := by decide +kernel
theorem dX12_sign_16 : decode cX12_sign 16 = .ok (.getfield 537, 3) := by decide +kernel
theorem dX12_sign_19 : decode cX12_sign 19 = .ok (.iaload, 1) := by decide +kernel
theorem dX12_sign_20 : decode cX12_sign 20 = .ok (.goto 4, 3) := by decide +kernel
theorem dX12_sign_23 : decode cX12_sign 23 = .ok (.iconst (-1), 1) := by decide +kernel
theorem dX12_sign_24 : decode cX12_sign 24 = .ok (.ireturn, 1) := by decide +kernel
theorem dX12_skipBlanks_0 : decode cX12_skipBlanks 0 = .ok (.aload_n 0, 1) := by decide +kernel
theorem dX12_skipBlanks_1 : decode cX12_skipBlanks 1 = .ok (.invokevirtual 543, 3) := by decide +kernel
theorem dX12_skipBlanks_4 : decode cX12_skipBlanks 4 = .ok (.bipush 32, 2) := by decide +kernel
theorem dX12_skipBlanks_6 : decode cX12_skipBlanks 6 = .ok (.if_icmp .ne 16, 3) := by decide +kernel
theorem dX12_skipBlanks_9 : decode cX12_skipBlanks 9 = .ok (.aload_n 0, 1) := by decide +kernel
theorem dX12_skipBlanks_10 : decode cX12_skipBlanks 10 = .ok (.dup, 1) := by decide +kernel
theorem dX12_skipBlanks_11 : decode cX12_skipBlanks 11 = .ok (.getfield 537, 3) := by decide +kernel
theorem dX12_skipBlanks_14 : decode cX12_skipBlanks 14 = .ok (.iconst 1, 1) := by decide +kernel
theorem dX12_skipBlanks_15 : decode cX12_skipBlanks 15 = .ok (.iadd, 1) := by decide +kernel
theorem dX12_skipBlanks_16 : decode cX12_skipBlanks 16 = .ok (.putfield 537, 3) := by decide +kernel
theorem dX12_skipBlanks_19 : decode cX12_skipBlanks 19 = .ok (.goto (-19), 3) := by decide +kernel
theorem dX12_skipBlanks_22 : decode cX12_skipBlanks 22 = .ok (.return_, 1) := by decide +kernel
theorem dX12_question_0 : decode cX12_question 0 = .ok (.aload_n 0, 1) := by decide +kernel
theorem dX12_question_1 : decode cX12_question 1 = .ok (.iload_n 1, 1) := by decide +kernel
theorem dX12_question_2 : decode cX12_question 2 = .ok (.putfield 537, 3) := by decide +kernel
theorem dX12_question_5 : decode cX12_question 5 = .ok (.aload_n 0, 1) := by decide +kernel
theorem dX12_question_6 : decode cX12_question 6 = .ok (.iload_n 1, 1) := by decide +kernel
theorem dX12_question_7 : decode cX12_question 7 = .ok (.iload_n 2, 1) := by decide +kernel
theorem dX12_question_8 : decode cX12_question 8 = .ok (.iadd, 1) := by decide +kernel
theorem dX12_question_9 : decode cX12_question 9 = .ok (.putfield 540, 3) := by decide +kernel
theorem dX12_question_12 : decode cX12_question 12 = .ok (.aload_n 0, 1) := by decide +kernel
theorem dX12_question_13 : decode cX12_question 13 = .ok (.iconst 0, 1) := by decide +kernel
theorem dX12_question_14 : decode cX12_question 14 = .ok (.putfield 547, 3) := by decide +kernel
theorem dX12_question_17 : decode cX12_question 17 = .ok (.aload_n 0, 1) := by decide +kernel
theorem dX12_question_18 : decode cX12_question 18 = .ok (.iconst (-1), 1) := by decide +kernel
theorem dX12_question_19 : decode cX12_question 19 = .ok (.putfield 550, 3) := by decide +kernel
theorem dX12_question_22 : decode cX12_question 22 = .ok (.aload_n 0, 1) := by decide +kernel
theorem dX12_question_23 : decode cX12_question 23 = .ok (.invokevirtual 553, 3) := by decide +kernel
theorem dX12_question_26 : decode cX12_question 26 = .ok (.iconst 1, 1) := by decide +kernel
theorem dX12_question_27 : decode cX12_question 27 = .ok (.istore_n 3, 1) := by decide +kernel
theorem dX12_question_28 : decode cX12_question 28 = .ok (.iload_n 3, 1) := by decide +kernel
theorem dX12_question_29 : decode cX12_question 29 = .ok (.ifCond .eq 84, 3) := by decide +kernel
theorem dX12_question_32 : decode cX12_question 32 = .ok (.aload_n 0, 1) := by decide +kernel
theorem dX12_question_33 : decode cX12_question 33 = .ok (.getfield 550, 3) := by decide +kernel
theorem dX12_question_36 : decode cX12_question 36 = .ok (.iconst (-1), 1) := by decide +kernel
theorem dX12_question_37 : decode cX12_question 37 = .ok (.if_icmp .ne 76, 3) := by decide +kernel
theorem dX12_question_40 : decode cX12_question 40 = .ok (.aload_n 0, 1) := by decide +kernel
theorem dX12_question_41 : decode cX12_question 41 = .ok (.iload_n 1, 1) := by decide +kernel
theorem dX12_question_42 : decode cX12_question 42 = .ok (.invokevirtual 556, 3) := by decide +kernel
theorem dX12_question_45 : decode cX12_question 45 = .ok (.aload_n 0, 1) := by decide +kernel
theorem dX12_question_46 : decode cX12_question 46 = .ok (.getfield 550, 3) := by decide +kernel
theorem dX12_question_49 : decode cX12_question 49 = .ok (.iconst (-1), 1) := by decide +kernel
theorem dX12_question_50 : decode cX12_question 50 = .ok (.if_icmp .ne (-22), 3) := by decide +kernel
theorem dX12_question_53 : decode cX12_question 53 = .ok (.aload_n 0, 1) := by decide +kernel
theorem dX12_question_54 : decode cX12_question 54 = .ok (.invokevirtual 543, 3) := by decide +kernel
theorem dX12_question_57 : decode cX12_question 57 = .ok (.bipush 32, 2) := by decide +kernel
theorem dX12_question_59 : decode cX12_question 59 = .ok (.if_icmp .ne 7, 3) := by decide +kernel
theorem dX12_question_62 : decode cX12_question 62 = .ok (.iconst 1, 1) := by decide +kernel
theorem dX12_question_63 : decode cX12_question 63 = .ok (.goto 4, 3) := by decide +kernel
theorem dX12_question_66 : decode cX12_question 66 = .ok (.iconst 0, 1) := by decide +kernel
theorem dX12_question_67 : decode cX12_question 67 = .ok (.istore 4, 2) := by decide +kernel
theorem dX12_question_69 : decode cX12_question 69 = .ok (.aload_n 0, 1) := by decide +kernel
theorem dX12_question_70 : decode cX12_question 70 = .ok (.invokevirtual 553, 3) := by decide +kernel
theorem dX12_question_73 : decode cX12_question 73 = .ok (.aload_n 0, 1) := by decide +kernel
theorem dX12_question_74 : decode cX12_question 74 = .ok (.invokevirtual 543, 3) := by decide +kernel
theorem dX12_question_77 : decode cX12_question 77 = .ok (.iconst (-1), 1) := by decide +kernel
theorem dX12_question_78 : decode cX12_question 78 = .ok (.if_icmp .eq 7, 3) := by decide +kernel
theorem dX12_question_81 : decode cX12_question 81 = .ok (.iconst 1, 1) := by decide +kernel
theorem dX12_question_82 : decode cX12_question 82 = .ok (.goto 4, 3) := by decide +kernel
theorem dX12_question_85 : decode cX12_question 85 = .ok (.iconst 0, 1) := by decide +kernel
theorem dX12_question_86 : decode cX12_question 86 = .ok (.istore_n 3, 1) := by decide +kernel
theorem dX12_question_87 : decode cX12_question 87 = .ok (.aload_n 0, 1) := by decide +kernel
theorem dX12_question_88 : decode cX12_question 88 = .ok (.iload_n 3, 1) := by decide +kernel
theorem dX12_question_89 : decode cX12_question 89 = .ok (.ifCond .eq 17, 3) := by decide +kernel
theorem dX12_question_92 : decode cX12_question 92 = .ok (.iload 4, 2) := by decide +kernel
theorem dX12_question_94 : decode cX12_question 94 = .ok (.ifCond .ne 12, 3) := by decide +kernel
theorem dX12_question_97 : decode cX12_question 97 = .ok (.aload_n 0, 1) := by decide +kernel
theorem dX12_question_98 : decode cX12_question 98 = .ok (.getfield 537, 3) := by decide +kernel
theorem dX12_question_101 : decode cX12_question 101 = .ok (.iload_n 1, 1) := by decide +kernel
theorem dX12_question_102 : decode cX12_question 102 = .ok (.isub, 1) := by decide +kernel
theorem dX12_question_103 : decode cX12_question 103 = .ok (.goto 4, 3) := by decide +kernel
theorem dX12_question_106 : decode cX12_question 106 = .ok (.iconst (-1), 1) := by decide +kernel
theorem dX12_question_107 : decode cX12_question 107 = .ok (.putfield 550, 3) := by decide +kernel
theorem dX12_question_110 : decode cX12_question 110 = .ok (.goto (-82), 3) := by decide +kernel
theorem dX12_question_113 : decode cX12_question 113 = .ok (.return_, 1) := by decide +kernel
theorem dX12_clause_0 : decode cX12_clause 0 = .ok (.aload_n 0, 1) := by decide +kernel
theorem dX12_clause_1 : decode cX12_clause 1 = .ok (.getfield 537, 3) := by decide +kernel
theorem dX12_clause_4 : decode cX12_clause 4 = .ok (.istore_n 2, 1) := by decide +kernel
theorem dX12_clause_5 : decode cX12_clause 5 = .ok (.aload_n 0, 1) := by decide +kernel
theorem dX12_clause_6 : decode cX12_clause 6 = .ok (.invokevirtual 543, 3) := by decide +kernel
theorem dX12_clause_9 : decode cX12_clause 9 = .ok (.bipush 43, 2) := by decide +kernel
theorem dX12_clause_11 : decode cX12_clause 11 = .ok (.if_icmp .ne 7, 3) := by decide +kernel
theorem dX12_clause_14 : decode cX12_clause 14 = .ok (.iconst 1, 1) := by decide +kernel
theorem dX12_clause_15 : decode cX12_clause 15 = .ok (.goto 17, 3) := by decide +kernel
theorem dX12_clause_18 : decode cX12_clause 18 = .ok (.aload_n 0, 1) := by decide +kernel
theorem dX12_clause_19 : decode cX12_clause 19 = .ok (.invokevirtual 543, 3) := by decide +kernel
theorem dX12_clause_22 : decode cX12_clause 22 = .ok (.bipush 45, 2) := by decide +kernel
theorem dX12_clause_24 : decode cX12_clause 24 = .ok (.if_icmp .ne 7, 3) := by decide +kernel
theorem dX12_clause_27 : decode cX12_clause 27 = .ok (.iconst 2, 1) := by decide +kernel
theorem dX12_clause_28 : decode cX12_clause 28 = .ok (.goto 4, 3) := by decide +kernel
theorem dX12_clause_31 : decode cX12_clause 31 = .ok (.iconst 0, 1) := by decide +kernel
theorem dX12_clause_32 : decode cX12_clause 32 = .ok (.istore_n 3, 1) := by decide +kernel
theorem dX12_clause_33 : decode cX12_clause 33 = .ok (.iload_n 3, 1) := by decide +kernel
theorem dX12_clause_34 : decode cX12_clause 34 = .ok (.ifCond .gt 22, 3) := by decide +kernel
theorem dX12_clause_37 : decode cX12_clause 37 = .ok (.aload_n 0, 1) := by decide +kernel
theorem dX12_clause_38 : decode cX12_clause 38 = .ok (.invokevirtual 543, 3) := by decide +kernel
theorem dX12_clause_41 : decode cX12_clause 41 = .ok (.bipush 34, 2) := by decide +kernel
theorem dX12_clause_43 : decode cX12_clause 43 = .ok (.if_icmp .eq 13, 3) := by decide +kernel
theorem dX12_clause_46 : decode cX12_clause 46 = .ok (.aload_n 0, 1) := by decide +kernel
theorem dX12_clause_47 : decode cX12_clause 47 = .ok (.invokevirtual 543, 3) := by decide +kernel
theorem dX12_clause_50 : decode cX12_clause 50 = .ok (.invokestatic 521, 3) := by decide +kernel
theorem dX12_clause_53 : decode cX12_clause 53 = .ok (.ifCond .eq 7, 3) := by decide +kernel
theorem dX12_clause_56 : decode cX12_clause 56 = .ok (.iconst 1, 1) := by decide +kernel
theorem dX12_clause_57 : decode cX12_clause 57 = .ok (.goto 4, 3) := by decide +kernel
theorem dX12_clause_60 : decode cX12_clause 60 = .ok (.iconst 0, 1) := by decide +kernel
theorem dX12_clause_61 : decode cX12_clause 61 = .ok (.istore 4, 2) := by decide +kernel
theorem dX12_clause_63 : decode cX12_clause 63 = .ok (.iload 4, 2) := by decide +kernel
theorem dX12_clause_65 : decode cX12_clause 65 = .ok (.ifCond .eq 12, 3) := by decide +kernel
theorem dX12_clause_68 : decode cX12_clause 68 = .ok (.aload_n 0, 1) := by decide +kernel
theorem dX12_clause_69 : decode cX12_clause 69 = .ok (.getfield 547, 3) := by decide +kernel
theorem dX12_clause_72 : decode cX12_clause 72 = .ok (.bipush 6, 2) := by decide +kernel
theorem dX12_clause_74 : decode cX12_clause 74 = .ok (.if_icmp .ne 11, 3) := by decide +kernel
theorem dX12_clause_77 : decode cX12_clause 77 = .ok (.aload_n 0, 1) := by decide +kernel
theorem dX12_clause_78 : decode cX12_clause 78 = .ok (.iload_n 2, 1) := by decide +kernel
theorem dX12_clause_79 : decode cX12_clause 79 = .ok (.iload_n 1, 1) := by decide +kernel
theorem dX12_clause_80 : decode cX12_clause 80 = .ok (.isub, 1) := by decide +kernel
theorem dX12_clause_81 : decode cX12_clause 81 = .ok (.putfield 550, 3) := by decide +kernel
theorem dX12_clause_84 : decode cX12_clause 84 = .ok (.return_, 1) := by decide +kernel
theorem dX12_clause_85 : decode cX12_clause 85 = .ok (.aload_n 0, 1) := by decide +kernel
theorem dX12_clause_86 : decode cX12_clause 86 = .ok (.dup, 1) := by decide +kernel
theorem dX12_clause_87 : decode cX12_clause 87 = .ok (.getfield 537, 3) := by decide +kernel
theorem dX12_clause_90 : decode cX12_clause 90 = .ok (.iload_n 3, 1) := by decide +kernel
theorem dX12_clause_91 : decode cX12_clause 91 = .ok (.ifCond .le 7, 3) := by decide +kernel
theorem dX12_clause_94 : decode cX12_clause 94 = .ok (.iconst 1, 1) := by decide +kernel
theorem dX12_clause_95 : decode cX12_clause 95 = .ok (.goto 4, 3) := by decide +kernel
theorem dX12_clause_98 : decode cX12_clause 98 = .ok (.iconst 0, 1) := by decide +kernel
theorem dX12_clause_99 : decode cX12_clause 99 = .ok (.iadd, 1) := by decide +kernel
theorem dX12_clause_100 : decode cX12_clause 100 = .ok (.putfield 537, 3) := by decide +kernel
theorem dX12_clause_103 : decode cX12_clause 103 = .ok (.aload_n 0, 1) := by decide +kernel
theorem dX12_clause_104 : decode cX12_clause 104 = .ok (.getfield 547, 3) := by decide +kernel
theorem dX12_clause_107 : decode cX12_clause 107 = .ok (.istore 5, 2) := by decide +kernel
theorem dX12_clause_109 : decode cX12_clause 109 = .ok (.aload_n 0, 1) := by decide +kernel
theorem dX12_clause_110 : decode cX12_clause 110 = .ok (.dup, 1) := by decide +kernel
theorem dX12_clause_111 : decode cX12_clause 111 = .ok (.getfield 547, 3) := by decide +kernel
theorem dX12_clause_114 : decode cX12_clause 114 = .ok (.iconst 1, 1) := by decide +kernel
theorem dX12_clause_115 : decode cX12_clause 115 = .ok (.iadd, 1) := by decide +kernel
theorem dX12_clause_116 : decode cX12_clause 116 = .ok (.putfield 547, 3) := by decide +kernel
theorem dX12_clause_119 : decode cX12_clause 119 = .ok (.aload_n 0, 1) := by decide +kernel
theorem dX12_clause_120 : decode cX12_clause 120 = .ok (.getfield 262, 3) := by decide +kernel
theorem dX12_clause_123 : decode cX12_clause 123 = .ok (.iload 5, 2) := by decide +kernel
theorem dX12_clause_125 : decode cX12_clause 125 = .ok (.iload_n 3, 1) := by decide +kernel
theorem dX12_clause_126 : decode cX12_clause 126 = .ok (.iastore, 1) := by decide +kernel
theorem dX12_clause_127 : decode cX12_clause 127 = .ok (.aload_n 0, 1) := by decide +kernel
theorem dX12_clause_128 : decode cX12_clause 128 = .ok (.getfield 265, 3) := by decide +kernel
theorem dX12_clause_131 : decode cX12_clause 131 = .ok (.iload 5, 2) := by decide +kernel
theorem dX12_clause_133 : decode cX12_clause 133 = .ok (.iconst 0, 1) := by decide +kernel
theorem dX12_clause_134 : decode cX12_clause 134 = .ok (.bastore, 1) := by decide +kernel
theorem dX12_clause_135 : decode cX12_clause 135 = .ok (.aload_n 0, 1) := by decide +kernel
theorem dX12_clause_136 : decode cX12_clause 136 = .ok (.getfield 268, 3) := by decide +kernel
theorem dX12_clause_139 : decode cX12_clause 139 = .ok (.iload 5, 2) := by decide +kernel
theorem dX12_clause_141 : decode cX12_clause 141 = .ok (.iconst 0, 1) := by decide +kernel
theorem dX12_clause_142 : decode cX12_clause 142 = .ok (.iastore, 1) := by decide +kernel
theorem dX12_clause_143 : decode cX12_clause 143 = .ok (.aload_n 0, 1) := by decide +kernel
theorem dX12_clause_144 : decode cX12_clause 144 = .ok (.invokevirtual 543, 3) := by decide +kernel
theorem dX12_clause_147 : decode cX12_clause 147 = .ok (.invokestatic 521, 3) := by decide +kernel
theorem dX12_clause_150 : decode cX12_clause 150 = .ok (.ifCond .eq 22, 3) := by decide +kernel
theorem dX12_clause_153 : decode cX12_clause 153 = .ok (.aload_n 0, 1) := by decide +kernel
theorem dX12_clause_154 : decode cX12_clause 154 = .ok (.iload 5, 2) := by decide +kernel
theorem dX12_clause_156 : decode cX12_clause 156 = .ok (.iconst 0, 1) := by decide +kernel
theorem dX12_clause_157 : decode cX12_clause 157 = .ok (.iconst 1, 1) := by decide +kernel
theorem dX12_clause_158 : decode cX12_clause 158 = .ok (.invokevirtual 559, 3) := by decide +kernel
theorem dX12_clause_161 : decode cX12_clause 161 = .ok (.aload_n 0, 1) := by decide +kernel
theorem dX12_clause_162 : decode cX12_clause 162 = .ok (.getfield 268, 3) := by decide +kernel
theorem dX12_clause_165 : decode cX12_clause 165 = .ok (.iload 5, 2) := by decide +kernel
theorem dX12_clause_167 : decode cX12_clause 167 = .ok (.iconst 1, 1) := by decide +kernel
theorem dX12_clause_168 : decode cX12_clause 168 = .ok (.iastore, 1) := by decide +kernel
theorem dX12_clause_169 : decode cX12_clause 169 = .ok (.goto 42, 3) := by decide +kernel
theorem dX12_clause_172 : decode cX12_clause 172 = .ok (.aload_n 0, 1) := by decide +kernel
theorem dX12_clause_173 : decode cX12_clause 173 = .ok (.invokevirtual 543, 3) := by decide +kernel
theorem dX12_clause_176 : decode cX12_clause 176 = .ok (.bipush 34, 2) := by decide +kernel
theorem dX12_clause_178 : decode cX12_clause 178 = .ok (.if_icmp .ne 23, 3) := by decide +kernel
theorem dX12_clause_181 : decode cX12_clause 181 = .ok (.aload_n 0, 1) := by decide +kernel
theorem dX12_clause_182 : decode cX12_clause 182 = .ok (.dup, 1) := by decide +kernel
theorem dX12_clause_183 : decode cX12_clause 183 = .ok (.getfield 537, 3) := by decide +kernel
theorem dX12_clause_186 : decode cX12_clause 186 = .ok (.iconst 1, 1) := by decide +kernel
theorem dX12_clause_187 : decode cX12_clause 187 = .ok (.iadd, 1) := by decide +kernel
theorem dX12_clause_188 : decode cX12_clause 188 = .ok (.putfield 537, 3) := by decide +kernel
theorem dX12_clause_191 : decode cX12_clause 191 = .ok (.aload_n 0, 1) := by decide +kernel
theorem dX12_clause_192 : decode cX12_clause 192 = .ok (.iload 5, 2) := by decide +kernel
theorem dX12_clause_194 : decode cX12_clause 194 = .ok (.iload_n 1, 1) := by decide +kernel
theorem dX12_clause_195 : decode cX12_clause 195 = .ok (.invokevirtual 563, 3) := by decide +kernel
theorem dX12_clause_198 : decode cX12_clause 198 = .ok (.goto 13, 3) := by decide +kernel
theorem dX12_clause_201 : decode cX12_clause 201 = .ok (.aload_n 0, 1) := by decide +kernel
theorem dX12_clause_202 : decode cX12_clause 202 = .ok (.aload_n 0, 1) := by decide +kernel
theorem dX12_clause_203 : decode cX12_clause 203 = .ok (.getfield 537, 3) := by decide +kernel
theorem dX12_clause_206 : decode cX12_clause 206 = .ok (.iload_n 1, 1) := by decide +kernel
theorem dX12_clause_207 : decode cX12_clause 207 = .ok (.isub, 1) := by decide +kernel
theorem dX12_clause_208 : decode cX12_clause 208 = .ok (.putfield 550, 3) := by decide +kernel
theorem dX12_clause_211 : decode cX12_clause 211 = .ok (.iconst 0, 1) := by decide +kernel
theorem dX12_clause_212 : decode cX12_clause 212 = .ok (.istore 6, 2) := by decide +kernel
theorem dX12_clause_214 : decode cX12_clause 214 = .ok (.iconst 0, 1) := by decide +kernel
theorem dX12_clause_215 : decode cX12_clause 215 = .ok (.istore 7, 2) := by decide +kernel
theorem dX12_clause_217 : decode cX12_clause 217 = .ok (.iload 7, 2) := by decide +kernel
theorem dX12_clause_219 : decode cX12_clause 219 = .ok (.aload_n 0, 1) := by decide +kernel
theorem dX12_clause_220 : decode cX12_clause 220 = .ok (.getfield 268, 3) := by decide +kernel
theorem dX12_clause_223 : decode cX12_clause 223 = .ok (.iload 5, 2) := by decide +kernel
theorem dX12_clause_225 : decode cX12_clause 225 = .ok (.iaload, 1) := by decide +kernel
theorem dX12_clause_226 : decode cX12_clause 226 = .ok (.if_icmp .ge 36, 3) := by decide +kernel
theorem dX12_clause_229 : decode cX12_clause 229 = .ok (.iload 6, 2) := by decide +kernel
theorem dX12_clause_231 : decode cX12_clause 231 = .ok (.ifCond .ne 18, 3) := by decide +kernel
theorem dX12_clause_234 : decode cX12_clause 234 = .ok (.aload_n 0, 1) := by decide +kernel
theorem dX12_clause_235 : decode cX12_clause 235 = .ok (.getfield 271, 3) := by decide +kernel
theorem dX12_clause_238 : decode cX12_clause 238 = .ok (.iconst 4, 1) := by decide +kernel
theorem dX12_clause_239 : decode cX12_clause 239 = .ok (.iload 5, 2) := by decide +kernel
theorem dX12_clause_241 : decode cX12_clause 241 = .ok (.imul, 1) := by decide +kernel
theorem dX12_clause_242 : decode cX12_clause 242 = .ok (.iload 7, 2) := by decide +kernel
theorem dX12_clause_244 : decode cX12_clause 244 = .ok (.iadd, 1) := by decide +kernel
theorem dX12_clause_245 : decode cX12_clause 245 = .ok (.baload, 1) := by decide +kernel
theorem dX12_clause_246 : decode cX12_clause 246 = .ok (.ifCond .eq 7, 3) := by decide +kernel
theorem dX12_clause_249 : decode cX12_clause 249 = .ok (.iconst 1, 1) := by decide +kernel
theorem dX12_clause_250 : decode cX12_clause 250 = .ok (.goto 4, 3) := by decide +kernel
theorem dX12_clause_253 : decode cX12_clause 253 = .ok (.iconst 0, 1) := by decide +kernel
theorem dX12_clause_254 : decode cX12_clause 254 = .ok (.istore 6, 2) := by decide +kernel
theorem dX12_clause_256 : decode cX12_clause 256 = .ok (.iinc 7 1, 3) := by decide +kernel
theorem dX12_clause_259 : decode cX12_clause 259 = .ok (.goto (-42), 3) := by decide +kernel
theorem dX12_clause_262 : decode cX12_clause 262 = .ok (.aload_n 0, 1) := by decide +kernel
theorem dX12_clause_263 : decode cX12_clause 263 = .ok (.getfield 283, 3) := by decide +kernel
theorem dX12_clause_266 : decode cX12_clause 266 = .ok (.iload 5, 2) := by decide +kernel
theorem dX12_clause_268 : decode cX12_clause 268 = .ok (.iload 6, 2) := by decide +kernel
theorem dX12_clause_270 : decode cX12_clause 270 = .ok (.ifCond .ne 7, 3) := by decide +kernel
theorem dX12_clause_273 : decode cX12_clause 273 = .ok (.iconst 1, 1) := by decide +kernel
theorem dX12_clause_274 : decode cX12_clause 274 = .ok (.goto 4, 3) := by decide +kernel
theorem dX12_clause_277 : decode cX12_clause 277 = .ok (.iconst 0, 1) := by decide +kernel
theorem dX12_clause_278 : decode cX12_clause 278 = .ok (.bastore, 1) := by decide +kernel
theorem dX12_clause_279 : decode cX12_clause 279 = .ok (.return_, 1) := by decide +kernel
theorem dX12_heard_0 : decode cX12_heard 0 = .ok (.aload_n 0, 1) := by decide +kernel
theorem dX12_heard_1 : decode cX12_heard 1 = .ok (.getfield 188, 3) := by decide +kernel
theorem dX12_heard_4 : decode cX12_heard 4 = .ok (.iload_n 1, 1) := by decide +kernel
theorem dX12_heard_5 : decode cX12_heard 5 = .ok (.iconst 1, 1) := by decide +kernel
theorem dX12_heard_6 : decode cX12_heard 6 = .ok (.bastore, 1) := by decide +kernel
theorem dX12_heard_7 : decode cX12_heard 7 = .ok (.aload_n 0, 1) := by decide +kernel
theorem dX12_heard_8 : decode cX12_heard 8 = .ok (.getfield 191, 3) := by decide +kernel
theorem dX12_heard_11 : decode cX12_heard 11 = .ok (.iload_n 1, 1) := by decide +kernel
theorem dX12_heard_12 : decode cX12_heard 12 = .ok (.aload_n 0, 1) := by decide +kernel
theorem dX12_heard_13 : decode cX12_heard 13 = .ok (.getfield 330, 3) := by decide +kernel
theorem dX12_heard_16 : decode cX12_heard 16 = .ok (.iastore, 1) := by decide +kernel
theorem dX12_heard_17 : decode cX12_heard 17 = .ok (.iconst 0, 1) := by decide +kernel
theorem dX12_heard_18 : decode cX12_heard 18 = .ok (.istore_n 3, 1) := by decide +kernel
theorem dX12_heard_19 : decode cX12_heard 19 = .ok (.iconst 0, 1) := by decide +kernel
theorem dX12_heard_20 : decode cX12_heard 20 = .ok (.istore 4, 2) := by decide +kernel
theorem dX12_heard_22 : decode cX12_heard 22 = .ok (.iload 4, 2) := by decide +kernel
theorem dX12_heard_24 : decode cX12_heard 24 = .ok (.aload_n 0, 1) := by decide +kernel
theorem dX12_heard_25 : decode cX12_heard 25 = .ok (.getfield 327, 3) := by decide +kernel
theorem dX12_heard_28 : decode cX12_heard 28 = .ok (.if_icmp .ge 74, 3) := by decide +kernel
theorem dX12_heard_31 : decode cX12_heard 31 = .ok (.aload_n 0, 1) := by decide +kernel
theorem dX12_heard_32 : decode cX12_heard 32 = .ok (.getfield 77, 3) := by decide +kernel
theorem dX12_heard_35 : decode cX12_heard 35 = .ok (.aload_n 0, 1) := by decide +kernel
theorem dX12_heard_36 : decode cX12_heard 36 = .ok (.getfield 321, 3) := by decide +kernel
theorem dX12_heard_39 : decode cX12_heard 39 = .ok (.baload, 1) := by decide +kernel
theorem dX12_heard_40 : decode cX12_heard 40 = .ok (.ifCond .eq 62, 3) := by decide +kernel
theorem dX12_heard_43 : decode cX12_heard 43 = .ok (.bipush 20, 2) := by decide +kernel
theorem dX12_heard_45 : decode cX12_heard 45 = .ok (.iload 4, 2) := by decide +kernel
theorem dX12_heard_47 : decode cX12_heard 47 = .ok (.iadd, 1) := by decide +kernel
theorem dX12_heard_48 : decode cX12_heard 48 = .ok (.istore 5, 2) := by decide +kernel
theorem dX12_heard_50 : decode cX12_heard 50 = .ok (.aload_n 0, 1) := by decide +kernel
theorem dX12_heard_51 : decode cX12_heard 51 = .ok (.getfield 188, 3) := by decide +kernel
theorem dX12_heard_54 : decode cX12_heard 54 = .ok (.aload_n 0, 1) := by decide +kernel
theorem dX12_heard_55 : decode cX12_heard 55 = .ok (.getfield 179, 3) := by decide +kernel
theorem dX12_heard_58 : decode cX12_heard 58 = .ok (.iload 5, 2) := by decide +kernel
theorem dX12_heard_60 : decode cX12_heard 60 = .ok (.iaload, 1) := by decide +kernel
theorem dX12_heard_61 : decode cX12_heard 61 = .ok (.baload, 1) := by decide +kernel
theorem dX12_heard_62 : decode cX12_heard 62 = .ok (.ifCond .ne 34, 3) := by decide +kernel
theorem dX12_heard_65 : decode cX12_heard 65 = .ok (.aload_n 0, 1) := by decide +kernel
theorem dX12_heard_66 : decode cX12_heard 66 = .ok (.getfield 182, 3) := by decide +kernel
theorem dX12_heard_69 : decode cX12_heard 69 = .ok (.iload 5, 2) := by decide +kernel
theorem dX12_heard_71 : decode cX12_heard 71 = .ok (.iaload, 1) := by decide +kernel
theorem dX12_heard_72 : decode cX12_heard 72 = .ok (.iload_n 1, 1) := by decide +kernel
theorem dX12_heard_73 : decode cX12_heard 73 = .ok (.ishr, 1) := by decide +kernel
theorem dX12_heard_74 : decode cX12_heard 74 = .ok (.iconst 1, 1) := by decide +kernel
theorem dX12_heard_75 : decode cX12_heard 75 = .ok (.iand, 1) := by decide +kernel
theorem dX12_heard_76 : decode cX12_heard 76 = .ok (.iconst 1, 1) := by decide +kernel
theorem dX12_heard_77 : decode cX12_heard 77 = .ok (.if_icmp .ne 19, 3) := by decide +kernel
theorem dX12_heard_80 : decode cX12_heard 80 = .ok (.aload_n 0, 1) := by decide +kernel
theorem dX12_heard_81 : decode cX12_heard 81 = .ok (.iload 4, 2) := by decide +kernel
theorem dX12_heard_83 : decode cX12_heard 83 = .ok (.invokevirtual 678, 3) := by decide +kernel
theorem dX12_heard_86 : decode cX12_heard 86 = .ok (.ifCond .eq 10, 3) := by decide +kernel
theorem dX12_heard_89 : decode cX12_heard 89 = .ok (.iload_n 3, 1) := by decide +kernel
theorem dX12_heard_90 : decode cX12_heard 90 = .ok (.iconst 1, 1) := by decide +kernel
theorem dX12_heard_91 : decode cX12_heard 91 = .ok (.iload 4, 2) := by decide +kernel
theorem dX12_heard_93 : decode cX12_heard 93 = .ok (.ishl, 1) := by decide +kernel
theorem dX12_heard_94 : decode cX12_heard 94 = .ok (.ior, 1) := by decide +kernel
theorem dX12_heard_95 : decode cX12_heard 95 = .ok (.istore_n 3, 1) := by decide +kernel
theorem dX12_heard_96 : decode cX12_heard 96 = .ok (.iinc 4 1, 3) := by decide +kernel
theorem dX12_heard_99 : decode cX12_heard 99 = .ok (.goto (-77), 3) := by decide +kernel
theorem dX12_heard_102 : decode cX12_heard 102 = .ok (.iconst 0, 1) := by decide +kernel
theorem dX12_heard_103 : decode cX12_heard 103 = .ok (.istore 4, 2) := by decide +kernel
theorem dX12_heard_105 : decode cX12_heard 105 = .ok (.iload 4, 2) := by decide +kernel
theorem dX12_heard_107 : decode cX12_heard 107 = .ok (.aload_n 0, 1) := by decide +kernel
theorem dX12_heard_108 : decode cX12_heard 108 = .ok (.getfield 327, 3) := by decide +kernel
theorem dX12_heard_111 : decode cX12_heard 111 = .ok (.if_icmp .ge 48, 3) := by decide +kernel
theorem dX12_heard_114 : decode cX12_heard 114 = .ok (.aload_n 0, 1) := by decide +kernel
theorem dX12_heard_115 : decode cX12_heard 115 = .ok (.getfield 77, 3) := by decide +kernel
theorem dX12_heard_118 : decode cX12_heard 118 = .ok (.aload_n 0, 1) := by decide +kernel
theorem dX12_heard_119 : decode cX12_heard 119 = .ok (.getfield 321, 3) := by decide +kernel
theorem dX12_heard_122 : decode cX12_heard 122 = .ok (.baload, 1) := by decide +kernel
theorem dX12_heard_123 : decode cX12_heard 123 = .ok (.ifCond .eq 36, 3) := by decide +kernel
theorem dX12_heard_126 : decode cX12_heard 126 = .ok (.aload_n 0, 1) := by decide +kernel
theorem dX12_heard_127 : decode cX12_heard 127 = .ok (.iload_n 1, 1) := by decide +kernel
theorem dX12_heard_128 : decode cX12_heard 128 = .ok (.iload 4, 2) := by decide +kernel
theorem dX12_heard_130 : decode cX12_heard 130 = .ok (.invokevirtual 352, 3) := by decide +kernel
theorem dX12_heard_133 : decode cX12_heard 133 = .ok (.ifCond .eq 20, 3) := by decide +kernel
theorem dX12_heard_136 : decode cX12_heard 136 = .ok (.iload_n 3, 1) := by decide +kernel
theorem dX12_heard_137 : decode cX12_heard 137 = .ok (.iload 4, 2) := by decide +kernel
theorem dX12_heard_139 : decode cX12_heard 139 = .ok (.ishr, 1) := by decide +kernel
theorem dX12_heard_140 : decode cX12_heard 140 = .ok (.iconst 1, 1) := by decide +kernel
theorem dX12_heard_141 : decode cX12_heard 141 = .ok (.iand, 1) := by decide +kernel
theorem dX12_heard_142 : decode cX12_heard 142 = .ok (.ifCond .ne 11, 3) := by decide +kernel
theorem dX12_heard_145 : decode cX12_heard 145 = .ok (.aload_n 0, 1) := by decide +kernel
theorem dX12_heard_146 : decode cX12_heard 146 = .ok (.iload_n 1, 1) := by decide +kernel
theorem dX12_heard_147 : decode cX12_heard 147 = .ok (.iload 4, 2) := by decide +kernel
theorem dX12_heard_149 : decode cX12_heard 149 = .ok (.iload_n 2, 1) := by decide +kernel
theorem dX12_heard_150 : decode cX12_heard 150 = .ok (.invokevirtual 681, 3) := by decide +kernel
theorem dX12_heard_153 : decode cX12_heard 153 = .ok (.iinc 4 1, 3) := by decide +kernel
theorem dX12_heard_156 : decode cX12_heard 156 = .ok (.goto (-51), 3) := by decide +kernel
theorem dX12_heard_159 : decode cX12_heard 159 = .ok (.return_, 1) := by decide +kernel
theorem dX12_heardOfShard_0 : decode cX12_heardOfShard 0 = .ok (.bipush 20, 2) := by decide +kernel
theorem dX12_heardOfShard_2 : decode cX12_heardOfShard 2 = .ok (.iload_n 2, 1) := by decide +kernel
theorem dX12_heardOfShard_3 : decode cX12_heardOfShard 3 = .ok (.iadd, 1) := by decide +kernel
theorem dX12_heardOfShard_4 : decode cX12_heardOfShard 4 = .ok (.istore 4, 2) := by decide +kernel
theorem dX12_heardOfShard_6 : decode cX12_heardOfShard 6 = .ok (.aload_n 0, 1) := by decide +kernel
theorem dX12_heardOfShard_7 : decode cX12_heardOfShard 7 = .ok (.getfield 179, 3) := by decide +kernel
theorem dX12_heardOfShard_10 : decode cX12_heardOfShard 10 = .ok (.iload 4, 2) := by decide +kernel
theorem dX12_heardOfShard_12 : decode cX12_heardOfShard 12 = .ok (.iaload, 1) := by decide +kernel
theorem dX12_heardOfShard_13 : decode cX12_heardOfShard 13 = .ok (.iload_n 1, 1) := by decide +kernel
theorem dX12_heardOfShard_14 : decode cX12_heardOfShard 14 = .ok (.if_icmp .ne 7, 3) := by decide +kernel
theorem dX12_heardOfShard_17 : decode cX12_heardOfShard 17 = .ok (.iconst 1, 1) := by decide +kernel
theorem dX12_heardOfShard_18 : decode cX12_heardOfShard 18 = .ok (.goto 4, 3) := by decide +kernel
theorem dX12_heardOfShard_21 : decode cX12_heardOfShard 21 = .ok (.iconst 0, 1) := by decide +kernel
theorem dX12_heardOfShard_22 : decode cX12_heardOfShard 22 = .ok (.istore 5, 2) := by decide +kernel
theorem dX12_heardOfShard_24 : decode cX12_heardOfShard 24 = .ok (.iload_n 3, 1) := by decide +kernel
theorem dX12_heardOfShard_25 : decode cX12_heardOfShard 25 = .ok (.ifCond .eq 27, 3) := by decide +kernel
theorem dX12_heardOfShard_28 : decode cX12_heardOfShard 28 = .ok (.iload 5, 2) := by decide +kernel
theorem dX12_heardOfShard_30 : decode cX12_heardOfShard 30 = .ok (.ifCond .eq 13, 3) := by decide +kernel
theorem dX12_heardOfShard_33 : decode cX12_heardOfShard 33 = .ok (.aload_n 0, 1) := by decide +kernel
theorem dX12_heardOfShard_34 : decode cX12_heardOfShard 34 = .ok (.iload_n 2, 1) := by decide +kernel
theorem dX12_heardOfShard_35 : decode cX12_heardOfShard 35 = .ok (.invokevirtual 678, 3) := by decide +kernel
theorem dX12_heardOfShard_38 : decode cX12_heardOfShard 38 = .ok (.istore 6, 2) := by decide +kernel
theorem dX12_heardOfShard_40 : decode cX12_heardOfShard 40 = .ok (.goto 75, 3) := by decide +kernel
theorem dX12_heardOfShard_43 : decode cX12_heardOfShard 43 = .ok (.aload_n 0, 1) := by decide +kernel
theorem dX12_heardOfShard_44 : decode cX12_heardOfShard 44 = .ok (.iload_n 1, 1) := by decide +kernel
theorem dX12_heardOfShard_45 : decode cX12_heardOfShard 45 = .ok (.iload_n 2, 1) := by decide +kernel
theorem dX12_heardOfShard_46 : decode cX12_heardOfShard 46 = .ok (.invokevirtual 672, 3) := by decide +kernel
theorem dX12_heardOfShard_49 : decode cX12_heardOfShard 49 = .ok (.goto 66, 3) := by decide +kernel
theorem dX12_heardOfShard_52 : decode cX12_heardOfShard 52 = .ok (.aload_n 0, 1) := by decide +kernel
theorem dX12_heardOfShard_53 : decode cX12_heardOfShard 53 = .ok (.getfield 222, 3) := by decide +kernel
theorem dX12_heardOfShard_56 : decode cX12_heardOfShard 56 = .ok (.bipush 6, 2) := by decide +kernel
theorem dX12_heardOfShard_58 : decode cX12_heardOfShard 58 = .ok (.iconst 2, 1) := by decide +kernel
theorem dX12_heardOfShard_59 : decode cX12_heardOfShard 59 = .ok (.iload_n 2, 1) := by decide +kernel
theorem dX12_heardOfShard_60 : decode cX12_heardOfShard 60 = .ok (.imul, 1) := by decide +kernel
theorem dX12_heardOfShard_61 : decode cX12_heardOfShard 61 = .ok (.iadd, 1) := by decide +kernel
theorem dX12_heardOfShard_62 : decode cX12_heardOfShard 62 = .ok (.iaload, 1) := by decide +kernel
theorem dX12_heardOfShard_63 : decode cX12_heardOfShard 63 = .ok (.aload_n 0, 1) := by decide +kernel
theorem dX12_heardOfShard_64 : decode cX12_heardOfShard 64 = .ok (.getfield 185, 3) := by decide +kernel
theorem dX12_heardOfShard_67 : decode cX12_heardOfShard 67 = .ok (.iload 4, 2) := by decide +kernel
theorem dX12_heardOfShard_69 : decode cX12_heardOfShard 69 = .ok (.iaload, 1) := by decide +kernel
theorem dX12_heardOfShard_70 : decode cX12_heardOfShard 70 = .ok (.if_icmp .ge 12, 3) := by decide +kernel
theorem dX12_heardOfShard_73 : decode cX12_heardOfShard 73 = .ok (.aload_n 0, 1) := by decide +kernel
theorem dX12_heardOfShard_74 : decode cX12_heardOfShard 74 = .ok (.iload_n 1, 1) := by decide +kernel
theorem dX12_heardOfShard_75 : decode cX12_heardOfShard 75 = .ok (.iload_n 2, 1) := by decide +kernel
theorem dX12_heardOfShard_76 : decode cX12_heardOfShard 76 = .ok (.invokevirtual 672, 3) := by decide +kernel
theorem dX12_heardOfShard_79 : decode cX12_heardOfShard 79 = .ok (.goto 36, 3) := by decide +kernel
theorem dX12_heardOfShard_82 : decode cX12_heardOfShard 82 = .ok (.iload 5, 2) := by decide +kernel
theorem dX12_heardOfShard_84 : decode cX12_heardOfShard 84 = .ok (.ifCond .eq 31, 3) := by decide +kernel
theorem dX12_heardOfShard_87 : decode cX12_heardOfShard 87 = .ok (.aload_n 0, 1) := by decide +kernel
theorem dX12_heardOfShard_88 : decode cX12_heardOfShard 88 = .ok (.getfield 222, 3) := by decide +kernel
theorem dX12_heardOfShard_91 : decode cX12_heardOfShard 91 = .ok (.bipush 7, 2) := by decide +kernel
theorem dX12_heardOfShard_93 : decode cX12_heardOfShard 93 = .ok (.iconst 2, 1) := by decide +kernel
theorem dX12_heardOfShard_94 : decode cX12_heardOfShard 94 = .ok (.iload_n 2, 1) := by decide +kernel
theorem dX12_heardOfShard_95 : decode cX12_heardOfShard 95 = .ok (.imul, 1) := by decide +kernel
theorem dX12_heardOfShard_96 : decode cX12_heardOfShard 96 = .ok (.iadd, 1) := by decide +kernel
theorem dX12_heardOfShard_97 : decode cX12_heardOfShard 97 = .ok (.iaload, 1) := by decide +kernel
theorem dX12_heardOfShard_98 : decode cX12_heardOfShard 98 = .ok (.aload_n 0, 1) := by decide +kernel
theorem dX12_heardOfShard_99 : decode cX12_heardOfShard 99 = .ok (.getfield 176, 3) := by decide +kernel
theorem dX12_heardOfShard_102 : decode cX12_heardOfShard 102 = .ok (.iload 4, 2) := by decide +kernel
theorem dX12_heardOfShard_104 : decode cX12_heardOfShard 104 = .ok (.iaload, 1) := by decide +kernel
theorem dX12_heardOfShard_105 : decode cX12_heardOfShard 105 = .ok (.if_icmp .eq 10, 3) := by decide +kernel
theorem dX12_heardOfShard_108 : decode cX12_heardOfShard 108 = .ok (.aload_n 0, 1) := by decide +kernel
theorem dX12_heardOfShard_109 : decode cX12_heardOfShard 109 = .ok (.iload_n 2, 1) := by decide +kernel
theorem dX12_heardOfShard_110 : decode cX12_heardOfShard 110 = .ok (.invokevirtual 678, 3) := by decide +kernel
theorem dX12_heardOfShard_113 : decode cX12_heardOfShard 113 = .ok (.istore 6, 2) := by decide +kernel
theorem dX12_heardOfShard_115 : decode cX12_heardOfShard 115 = .ok (.return_, 1) := by decide +kernel
theorem dX12_keeperTick_0 : decode cX12_keeperTick 0 = .ok (.iconst 0, 1) := by decide +kernel
theorem dX12_keeperTick_1 : decode cX12_keeperTick 1 = .ok (.istore_n 1, 1) := by decide +kernel
theorem dX12_keeperTick_2 : decode cX12_keeperTick 2 = .ok (.iload_n 1, 1) := by decide +kernel
theorem dX12_keeperTick_3 : decode cX12_keeperTick 3 = .ok (.aload_n 0, 1) := by decide +kernel
theorem dX12_keeperTick_4 : decode cX12_keeperTick 4 = .ok (.getfield 321, 3) := by decide +kernel
theorem dX12_keeperTick_7 : decode cX12_keeperTick 7 = .ok (.if_icmp .ge 165, 3) := by decide +kernel
theorem dX12_keeperTick_10 : decode cX12_keeperTick 10 = .ok (.aload_n 0, 1) := by decide +kernel
theorem dX12_keeperTick_11 : decode cX12_keeperTick 11 = .ok (.getfield 77, 3) := by decide +kernel
theorem dX12_keeperTick_14 : decode cX12_keeperTick 14 = .ok (.aload_n 0, 1) := by decide +kernel
theorem dX12_keeperTick_15 : decode cX12_keeperTick 15 = .ok (.getfield 321, 3) := by decide +kernel
theorem dX12_keeperTick_18 : decode cX12_keeperTick 18 = .ok (.baload, 1) := by decide +kernel
theorem dX12_keeperTick_19 : decode cX12_keeperTick 19 = .ok (.ifCond .eq 153, 3) := by decide +kernel
theorem dX12_keeperTick_22 : decode cX12_keeperTick 22 = .ok (.aload_n 0, 1) := by decide +kernel
theorem dX12_keeperTick_23 : decode cX12_keeperTick 23 = .ok (.getfield 188, 3) := by decide +kernel
theorem dX12_keeperTick_26 : decode cX12_keeperTick 26 = .ok (.iload_n 1, 1) := by decide +kernel
theorem dX12_keeperTick_27 : decode cX12_keeperTick 27 = .ok (.baload, 1) := by decide +kernel
theorem dX12_keeperTick_28 : decode cX12_keeperTick 28 = .ok (.ifCond .eq 138, 3) := by decide +kernel
theorem dX12_keeperTick_31 : decode cX12_keeperTick 31 = .ok (.aload_n 0, 1) := by decide +kernel
theorem dX12_keeperTick_32 : decode cX12_keeperTick 32 = .ok (.getfield 330, 3) := by decide +kernel
theorem dX12_keeperTick_35 : decode cX12_keeperTick 35 = .ok (.aload_n 0, 1) := by decide +kernel
theorem dX12_keeperTick_36 : decode cX12_keeperTick 36 = .ok (.getfield 191, 3) := by decide +kernel
theorem dX12_keeperTick_39 : decode cX12_keeperTick 39 = .ok (.iload_n 1, 1) := by decide +kernel
theorem dX12_keeperTick_40 : decode cX12_keeperTick 40 = .ok (.iaload, 1) := by decide +kernel
theorem dX12_keeperTick_41 : decode cX12_keeperTick 41 = .ok (.isub, 1) := by decide +kernel
theorem dX12_keeperTick_42 : decode cX12_keeperTick 42 = .ok (.bipush 8, 2) := by decide +kernel
theorem dX12_keeperTick_44 : decode cX12_keeperTick 44 = .ok (.if_icmp .lt 122, 3) := by decide +kernel
theorem dX12_keeperTick_47 : decode cX12_keeperTick 47 = .ok (.aload_n 0, 1) := by decide +kernel
theorem dX12_keeperTick_48 : decode cX12_keeperTick 48 = .ok (.getfield 188, 3) := by decide +kernel
theorem dX12_keeperTick_51 : decode cX12_keeperTick 51 = .ok (.iload_n 1, 1) := by decide +kernel
theorem dX12_keeperTick_52 : decode cX12_keeperTick 52 = .ok (.iconst 0, 1) := by decide +kernel
theorem dX12_keeperTick_53 : decode cX12_keeperTick 53 = .ok (.bastore, 1) := by decide +kernel
theorem dX12_keeperTick_54 : decode cX12_keeperTick 54 = .ok (.iconst 0, 1) := by decide +kernel
theorem dX12_keeperTick_55 : decode cX12_keeperTick 55 = .ok (.istore_n 2, 1) := by decide +kernel
theorem dX12_keeperTick_56 : decode cX12_keeperTick 56 = .ok (.iload_n 2, 1) := by decide +kernel
theorem dX12_keeperTick_57 : decode cX12_keeperTick 57 = .ok (.aload_n 0, 1) := by decide +kernel
theorem dX12_keeperTick_58 : decode cX12_keeperTick 58 = .ok (.getfield 327, 3) := by decide +kernel
theorem dX12_keeperTick_61 : decode cX12_keeperTick 61 = .ok (.if_icmp .ge 105, 3) := by decide +kernel
theorem dX12_keeperTick_64 : decode cX12_keeperTick 64 = .ok (.aload_n 0, 1) := by decide +kernel
theorem dX12_keeperTick_65 : decode cX12_keeperTick 65 = .ok (.getfield 77, 3) := by decide +kernel
theorem dX12_keeperTick_68 : decode cX12_keeperTick 68 = .ok (.aload_n 0, 1) := by decide +kernel
theorem dX12_keeperTick_69 : decode cX12_keeperTick 69 = .ok (.getfield 321, 3) := by decide +kernel
theorem dX12_keeperTick_72 : decode cX12_keeperTick 72 = .ok (.baload, 1) := by decide +kernel
theorem dX12_keeperTick_73 : decode cX12_keeperTick 73 = .ok (.ifCond .eq 93, 3) := by decide +kernel
theorem dX12_keeperTick_76 : decode cX12_keeperTick 76 = .ok (.bipush 20, 2) := by decide +kernel
theorem dX12_keeperTick_78 : decode cX12_keeperTick 78 = .ok (.iload_n 2, 1) := by decide +kernel
theorem dX12_keeperTick_79 : decode cX12_keeperTick 79 = .ok (.iadd, 1) := by decide +kernel
theorem dX12_keeperTick_80 : decode cX12_keeperTick 80 = .ok (.istore_n 3, 1) := by decide +kernel
theorem dX12_keeperTick_81 : decode cX12_keeperTick 81 = .ok (.aload_n 0, 1) := by decide +kernel
theorem dX12_keeperTick_82 : decode cX12_keeperTick 82 = .ok (.getfield 179, 3) := by decide +kernel
theorem dX12_keeperTick_85 : decode cX12_keeperTick 85 = .ok (.iload_n 3, 1) := by decide +kernel
theorem dX12_keeperTick_86 : decode cX12_keeperTick 86 = .ok (.iaload, 1) := by decide +kernel
theorem dX12_keeperTick_87 : decode cX12_keeperTick 87 = .ok (.iload_n 1, 1) := by decide +kernel
theorem dX12_keeperTick_88 : decode cX12_keeperTick 88 = .ok (.if_icmp .ne 13, 3) := by decide +kernel
theorem dX12_keeperTick_91 : decode cX12_keeperTick 91 = .ok (.aload_n 0, 1) := by decide +kernel
theorem dX12_keeperTick_92 : decode cX12_keeperTick 92 = .ok (.iload_n 2, 1) := by decide +kernel
theorem dX12_keeperTick_93 : decode cX12_keeperTick 93 = .ok (.invokevirtual 678, 3) := by decide +kernel
theorem dX12_keeperTick_96 : decode cX12_keeperTick 96 = .ok (.istore 4, 2) := by decide +kernel
theorem dX12_keeperTick_98 : decode cX12_keeperTick 98 = .ok (.goto 62, 3) := by decide +kernel
theorem dX12_keeperTick_101 : decode cX12_keeperTick 101 = .ok (.aload_n 0, 1) := by decide +kernel
theorem dX12_keeperTick_102 : decode cX12_keeperTick 102 = .ok (.getfield 182, 3) := by decide +kernel
theorem dX12_keeperTick_105 : decode cX12_keeperTick 105 = .ok (.iload_n 3, 1) := by decide +kernel
theorem dX12_keeperTick_106 : decode cX12_keeperTick 106 = .ok (.iaload, 1) := by decide +kernel
theorem dX12_keeperTick_107 : decode cX12_keeperTick 107 = .ok (.iload_n 1, 1) := by decide +kernel
theorem dX12_keeperTick_108 : decode cX12_keeperTick 108 = .ok (.ishr, 1) := by decide +kernel
theorem dX12_keeperTick_109 : decode cX12_keeperTick 109 = .ok (.iconst 1, 1) := by decide +kernel
theorem dX12_keeperTick_110 : decode cX12_keeperTick 110 = .ok (.iand, 1) := by decide +kernel
theorem dX12_keeperTick_111 : decode cX12_keeperTick 111 = .ok (.iconst 1, 1) := by decide +kernel
theorem dX12_keeperTick_112 : decode cX12_keeperTick 112 = .ok (.if_icmp .ne 48, 3) := by decide +kernel
theorem dX12_keeperTick_115 : decode cX12_keeperTick 115 = .ok (.aload_n 0, 1) := by decide +kernel
theorem dX12_keeperTick_116 : decode cX12_keeperTick 116 = .ok (.getfield 188, 3) := by decide +kernel
theorem dX12_keeperTick_119 : decode cX12_keeperTick 119 = .ok (.aload_n 0, 1) := by decide +kernel
theorem dX12_keeperTick_120 : decode cX12_keeperTick 120 = .ok (.getfield 179, 3) := by decide +kernel
theorem dX12_keeperTick_123 : decode cX12_keeperTick 123 = .ok (.iload_n 3, 1) := by decide +kernel
theorem dX12_keeperTick_124 : decode cX12_keeperTick 124 = .ok (.iaload, 1) := by decide +kernel
theorem dX12_keeperTick_125 : decode cX12_keeperTick 125 = .ok (.baload, 1) := by decide +kernel
theorem dX12_keeperTick_126 : decode cX12_keeperTick 126 = .ok (.ifCond .eq 34, 3) := by decide +kernel
theorem dX12_keeperTick_129 : decode cX12_keeperTick 129 = .ok (.aload_n 0, 1) := by decide +kernel
theorem dX12_keeperTick_130 : decode cX12_keeperTick 130 = .ok (.iload_n 2, 1) := by decide +kernel
theorem dX12_keeperTick_131 : decode cX12_keeperTick 131 = .ok (.aload_n 0, 1) := by decide +kernel
theorem dX12_keeperTick_132 : decode cX12_keeperTick 132 = .ok (.getfield 176, 3) := by decide +kernel
theorem dX12_keeperTick_135 : decode cX12_keeperTick 135 = .ok (.iload_n 3, 1) := by decide +kernel
theorem dX12_keeperTick_136 : decode cX12_keeperTick 136 = .ok (.iaload, 1) := by decide +kernel
theorem dX12_keeperTick_137 : decode cX12_keeperTick 137 = .ok (.aload_n 0, 1) := by decide +kernel
theorem dX12_keeperTick_138 : decode cX12_keeperTick 138 = .ok (.getfield 179, 3) := by decide +kernel
theorem dX12_keeperTick_141 : decode cX12_keeperTick 141 = .ok (.iload_n 3, 1) := by decide +kernel
theorem dX12_keeperTick_142 : decode cX12_keeperTick 142 = .ok (.iaload, 1) := by decide +kernel
theorem dX12_keeperTick_143 : decode cX12_keeperTick 143 = .ok (.aload_n 0, 1) := by decide +kernel
theorem dX12_keeperTick_144 : decode cX12_keeperTick 144 = .ok (.getfield 182, 3) := by decide +kernel
theorem dX12_keeperTick_147 : decode cX12_keeperTick 147 = .ok (.iload_n 3, 1) := by decide +kernel
theorem dX12_keeperTick_148 : decode cX12_keeperTick 148 = .ok (.iaload, 1) := by decide +kernel
theorem dX12_keeperTick_149 : decode cX12_keeperTick 149 = .ok (.iconst 1, 1) := by decide +kernel
theorem dX12_keeperTick_150 : decode cX12_keeperTick 150 = .ok (.iload_n 1, 1) := by decide +kernel
theorem dX12_keeperTick_151 : decode cX12_keeperTick 151 = .ok (.ishl, 1) := by decide +kernel
theorem dX12_keeperTick_152 : decode cX12_keeperTick 152 = .ok (.iconst (-1), 1) := by decide +kernel
theorem dX12_keeperTick_153 : decode cX12_keeperTick 153 = .ok (.ixor, 1) := by decide +kernel
theorem dX12_keeperTick_154 : decode cX12_keeperTick 154 = .ok (.iand, 1) := by decide +kernel
theorem dX12_keeperTick_155 : decode cX12_keeperTick 155 = .ok (.invokevirtual 675, 3) := by decide +kernel
theorem dX12_keeperTick_158 : decode cX12_keeperTick 158 = .ok (.istore 4, 2) := by decide +kernel
theorem dX12_keeperTick_160 : decode cX12_keeperTick 160 = .ok (.iinc 2 1, 3) := by decide +kernel
theorem dX12_keeperTick_163 : decode cX12_keeperTick 163 = .ok (.goto (-107), 3) := by decide +kernel
theorem dX12_keeperTick_166 : decode cX12_keeperTick 166 = .ok (.iinc 1 1, 3) := by decide +kernel
theorem dX12_keeperTick_169 : decode cX12_keeperTick 169 = .ok (.goto (-167), 3) := by decide +kernel
theorem dX12_keeperTick_172 : decode cX12_keeperTick 172 = .ok (.return_, 1) := by decide +kernel
theorem dX12_primaryTick_0 : decode cX12_primaryTick 0 = .ok (.iconst 5, 1) := by decide +kernel
theorem dX12_primaryTick_1 : decode cX12_primaryTick 1 = .ok (.iload_n 1, 1) := by decide +kernel
theorem dX12_primaryTick_2 : decode cX12_primaryTick 2 = .ok (.imul, 1) := by decide +kernel
theorem dX12_primaryTick_3 : decode cX12_primaryTick 3 = .ok (.iload_n 2, 1) := by decide +kernel
theorem dX12_primaryTick_4 : decode cX12_primaryTick 4 = .ok (.iadd, 1) := by decide +kernel
theorem dX12_primaryTick_5 : decode cX12_primaryTick 5 = .ok (.istore_n 3, 1) := by decide +kernel
theorem dX12_primaryTick_6 : decode cX12_primaryTick 6 = .ok (.aload_n 0, 1) := by decide +kernel
theorem dX12_primaryTick_7 : decode cX12_primaryTick 7 = .ok (.getfield 161, 3) := by decide +kernel
theorem dX12_primaryTick_10 : decode cX12_primaryTick 10 = .ok (.iload_n 3, 1) := by decide +kernel
theorem dX12_primaryTick_11 : decode cX12_primaryTick 11 = .ok (.iaload, 1) := by decide +kernel
theorem dX12_primaryTick_12 : decode cX12_primaryTick 12 = .ok (.aload_n 0, 1) := by decide +kernel
theorem dX12_primaryTick_13 : decode cX12_primaryTick 13 = .ok (.getfield 131, 3) := by decide +kernel
theorem dX12_primaryTick_16 : decode cX12_primaryTick 16 = .ok (.iload_n 1, 1) := by decide +kernel
theorem dX12_primaryTick_17 : decode cX12_primaryTick 17 = .ok (.iaload, 1) := by decide +kernel
theorem dX12_primaryTick_18 : decode cX12_primaryTick 18 = .ok (.if_icmp .ne 18, 3) := by decide +kernel
theorem dX12_primaryTick_21 : decode cX12_primaryTick 21 = .ok (.aload_n 0, 1) := by decide +kernel
theorem dX12_primaryTick_22 : decode cX12_primaryTick 22 = .ok (.getfield 164, 3) := by decide +kernel
theorem dX12_primaryTick_25 : decode cX12_primaryTick 25 = .ok (.iload_n 3, 1) := by decide +kernel
theorem dX12_primaryTick_26 : decode cX12_primaryTick 26 = .ok (.iaload, 1) := by decide +kernel
theorem dX12_primaryTick_27 : decode cX12_primaryTick 27 = .ok (.aload_n 0, 1) := by decide +kernel
theorem dX12_primaryTick_28 : decode cX12_primaryTick 28 = .ok (.getfield 137, 3) := by decide +kernel
theorem dX12_primaryTick_31 : decode cX12_primaryTick 31 = .ok (.iload_n 1, 1) := by decide +kernel
theorem dX12_primaryTick_32 : decode cX12_primaryTick 32 = .ok (.iaload, 1) := by decide +kernel
theorem dX12_primaryTick_33 : decode cX12_primaryTick 33 = .ok (.if_icmp .ge 7, 3) := by decide +kernel
theorem dX12_primaryTick_36 : decode cX12_primaryTick 36 = .ok (.iconst 1, 1) := by decide +kernel
theorem dX12_primaryTick_37 : decode cX12_primaryTick 37 = .ok (.goto 4, 3) := by decide +kernel
theorem dX12_primaryTick_40 : decode cX12_primaryTick 40 = .ok (.iconst 0, 1) := by decide +kernel
theorem dX12_primaryTick_41 : decode cX12_primaryTick 41 = .ok (.istore 4, 2) := by decide +kernel
theorem dX12_primaryTick_43 : decode cX12_primaryTick 43 = .ok (.aload_n 0, 1) := by decide +kernel
theorem dX12_primaryTick_44 : decode cX12_primaryTick 44 = .ok (.getfield 158, 3) := by decide +kernel
theorem dX12_primaryTick_47 : decode cX12_primaryTick 47 = .ok (.iload_n 3, 1) := by decide +kernel
theorem dX12_primaryTick_48 : decode cX12_primaryTick 48 = .ok (.iaload, 1) := by decide +kernel
theorem dX12_primaryTick_49 : decode cX12_primaryTick 49 = .ok (.iconst 4, 1) := by decide +kernel
theorem dX12_primaryTick_50 : decode cX12_primaryTick 50 = .ok (.if_icmp .ne 26, 3) := by decide +kernel
theorem dX12_primaryTick_53 : decode cX12_primaryTick 53 = .ok (.aload_n 0, 1) := by decide +kernel
theorem dX12_primaryTick_54 : decode cX12_primaryTick 54 = .ok (.getfield 330, 3) := by decide +kernel
theorem dX12_primaryTick_57 : decode cX12_primaryTick 57 = .ok (.aload_n 0, 1) := by decide +kernel
theorem dX12_primaryTick_58 : decode cX12_primaryTick 58 = .ok (.getfield 167, 3) := by decide +kernel
theorem dX12_primaryTick_61 : decode cX12_primaryTick 61 = .ok (.iload_n 3, 1) := by decide +kernel
theorem dX12_primaryTick_62 : decode cX12_primaryTick 62 = .ok (.iaload, 1) := by decide +kernel
theorem dX12_primaryTick_63 : decode cX12_primaryTick 63 = .ok (.isub, 1) := by decide +kernel
theorem dX12_primaryTick_64 : decode cX12_primaryTick 64 = .ok (.bipush 9, 2) := by decide +kernel
theorem dX12_primaryTick_66 : decode cX12_primaryTick 66 = .ok (.if_icmp .lt 9, 3) := by decide +kernel
theorem dX12_primaryTick_69 : decode cX12_primaryTick 69 = .ok (.aload_n 0, 1) := by decide +kernel
theorem dX12_primaryTick_70 : decode cX12_primaryTick 70 = .ok (.iload_n 1, 1) := by decide +kernel
theorem dX12_primaryTick_71 : decode cX12_primaryTick 71 = .ok (.iload_n 2, 1) := by decide +kernel
theorem dX12_primaryTick_72 : decode cX12_primaryTick 72 = .ok (.invokevirtual 684, 3) := by decide +kernel
theorem dX12_primaryTick_75 : decode cX12_primaryTick 75 = .ok (.return_, 1) := by decide +kernel
theorem dX12_primaryTick_76 : decode cX12_primaryTick 76 = .ok (.iload 4, 2) := by decide +kernel
theorem dX12_primaryTick_78 : decode cX12_primaryTick 78 = .ok (.ifCond .ne 45, 3) := by decide +kernel
theorem dX12_primaryTick_81 : decode cX12_primaryTick 81 = .ok (.aload_n 0, 1) := by decide +kernel
theorem dX12_primaryTick_82 : decode cX12_primaryTick 82 = .ok (.getfield 167, 3) := by decide +kernel
theorem dX12_primaryTick_85 : decode cX12_primaryTick 85 = .ok (.iload_n 3, 1) := by decide +kernel
theorem dX12_primaryTick_86 : decode cX12_primaryTick 86 = .ok (.aload_n 0, 1) := by decide +kernel
theorem dX12_primaryTick_87 : decode cX12_primaryTick 87 = .ok (.getfield 330, 3) := by decide +kernel
theorem dX12_primaryTick_90 : decode cX12_primaryTick 90 = .ok (.iastore, 1) := by decide +kernel
theorem dX12_primaryTick_91 : decode cX12_primaryTick 91 = .ok (.aload_n 0, 1) := by decide +kernel
theorem dX12_primaryTick_92 : decode cX12_primaryTick 92 = .ok (.getfield 158, 3) := by decide +kernel
theorem dX12_primaryTick_95 : decode cX12_primaryTick 95 = .ok (.iload_n 3, 1) := by decide +kernel
theorem dX12_primaryTick_96 : decode cX12_primaryTick 96 = .ok (.iaload, 1) := by decide +kernel
theorem dX12_primaryTick_97 : decode cX12_primaryTick 97 = .ok (.iconst 2, 1) := by decide +kernel
theorem dX12_primaryTick_98 : decode cX12_primaryTick 98 = .ok (.if_icmp .ne 24, 3) := by decide +kernel
theorem dX12_primaryTick_101 : decode cX12_primaryTick 101 = .ok (.aload_n 0, 1) := by decide +kernel
theorem dX12_primaryTick_102 : decode cX12_primaryTick 102 = .ok (.getfield 330, 3) := by decide +kernel
theorem dX12_primaryTick_105 : decode cX12_primaryTick 105 = .ok (.aload_n 0, 1) := by decide +kernel
theorem dX12_primaryTick_106 : decode cX12_primaryTick 106 = .ok (.getfield 170, 3) := by decide +kernel
theorem dX12_primaryTick_109 : decode cX12_primaryTick 109 = .ok (.iload_n 3, 1) := by decide +kernel
theorem dX12_primaryTick_110 : decode cX12_primaryTick 110 = .ok (.iaload, 1) := by decide +kernel
theorem dX12_primaryTick_111 : decode cX12_primaryTick 111 = .ok (.isub, 1) := by decide +kernel
theorem dX12_primaryTick_112 : decode cX12_primaryTick 112 = .ok (.iconst 3, 1) := by decide +kernel
theorem dX12_primaryTick_113 : decode cX12_primaryTick 113 = .ok (.if_icmp .lt 9, 3) := by decide +kernel
theorem dX12_primaryTick_116 : decode cX12_primaryTick 116 = .ok (.aload_n 0, 1) := by decide +kernel
theorem dX12_primaryTick_117 : decode cX12_primaryTick 117 = .ok (.iload_n 1, 1) := by decide +kernel
theorem dX12_primaryTick_118 : decode cX12_primaryTick 118 = .ok (.iload_n 2, 1) := by decide +kernel
theorem dX12_primaryTick_119 : decode cX12_primaryTick 119 = .ok (.invokevirtual 648, 3) := by decide +kernel
theorem dX12_primaryTick_122 : decode cX12_primaryTick 122 = .ok (.return_, 1) := by decide +kernel
theorem dX12_primaryTick_123 : decode cX12_primaryTick 123 = .ok (.aload_n 0, 1) := by decide +kernel
theorem dX12_primaryTick_124 : decode cX12_primaryTick 124 = .ok (.getfield 158, 3) := by decide +kernel
theorem dX12_primaryTick_127 : decode cX12_primaryTick 127 = .ok (.iload_n 3, 1) := by decide +kernel
theorem dX12_primaryTick_128 : decode cX12_primaryTick 128 = .ok (.iaload, 1) := by decide +kernel
theorem dX12_primaryTick_129 : decode cX12_primaryTick 129 = .ok (.iconst 2, 1) := by decide +kernel
theorem dX12_primaryTick_130 : decode cX12_primaryTick 130 = .ok (.if_icmp .lt 35, 3) := by decide +kernel
theorem dX12_primaryTick_133 : decode cX12_primaryTick 133 = .ok (.aload_n 0, 1) := by decide +kernel
theorem dX12_primaryTick_134 : decode cX12_primaryTick 134 = .ok (.getfield 330, 3) := by decide +kernel
theorem dX12_primaryTick_137 : decode cX12_primaryTick 137 = .ok (.aload_n 0, 1) := by decide +kernel
theorem dX12_primaryTick_138 : decode cX12_primaryTick 138 = .ok (.getfield 167, 3) := by decide +kernel
theorem dX12_primaryTick_141 : decode cX12_primaryTick 141 = .ok (.iload_n 3, 1) := by decide +kernel
theorem dX12_primaryTick_142 : decode cX12_primaryTick 142 = .ok (.iaload, 1) := by decide +kernel
theorem dX12_primaryTick_143 : decode cX12_primaryTick 143 = .ok (.isub, 1) := by decide +kernel
theorem dX12_primaryTick_144 : decode cX12_primaryTick 144 = .ok (.bipush 9, 2) := by decide +kernel
theorem dX12_primaryTick_146 : decode cX12_primaryTick 146 = .ok (.if_icmp .lt 19, 3) := by decide +kernel
theorem dX12_primaryTick_149 : decode cX12_primaryTick 149 = .ok (.aload_n 0, 1) := by decide +kernel
theorem dX12_primaryTick_150 : decode cX12_primaryTick 150 = .ok (.getfield 158, 3) := by decide +kernel
theorem dX12_primaryTick_153 : decode cX12_primaryTick 153 = .ok (.iload_n 3, 1) := by decide +kernel
theorem dX12_primaryTick_154 : decode cX12_primaryTick 154 = .ok (.iconst 4, 1) := by decide +kernel
theorem dX12_primaryTick_155 : decode cX12_primaryTick 155 = .ok (.iastore, 1) := by decide +kernel
theorem dX12_primaryTick_156 : decode cX12_primaryTick 156 = .ok (.aload_n 0, 1) := by decide +kernel
theorem dX12_primaryTick_157 : decode cX12_primaryTick 157 = .ok (.iload_n 1, 1) := by decide +kernel
theorem dX12_primaryTick_158 : decode cX12_primaryTick 158 = .ok (.iload_n 2, 1) := by decide +kernel
theorem dX12_primaryTick_159 : decode cX12_primaryTick 159 = .ok (.invokevirtual 684, 3) := by decide +kernel
theorem dX12_primaryTick_162 : decode cX12_primaryTick 162 = .ok (.goto 24, 3) := by decide +kernel
theorem dX12_primaryTick_165 : decode cX12_primaryTick 165 = .ok (.aload_n 0, 1) := by decide +kernel
theorem dX12_primaryTick_166 : decode cX12_primaryTick 166 = .ok (.getfield 330, 3) := by decide +kernel
theorem dX12_primaryTick_169 : decode cX12_primaryTick 169 = .ok (.aload_n 0, 1) := by decide +kernel
theorem dX12_primaryTick_170 : decode cX12_primaryTick 170 = .ok (.getfield 170, 3) := by decide +kernel
theorem dX12_primaryTick_173 : decode cX12_primaryTick 173 = .ok (.iload_n 3, 1) := by decide +kernel
theorem dX12_primaryTick_174 : decode cX12_primaryTick 174 = .ok (.iaload, 1) := by decide +kernel
theorem dX12_primaryTick_175 : decode cX12_primaryTick 175 = .ok (.isub, 1) := by decide +kernel
theorem dX12_primaryTick_176 : decode cX12_primaryTick 176 = .ok (.iconst 3, 1) := by decide +kernel
theorem dX12_primaryTick_177 : decode cX12_primaryTick 177 = .ok (.if_icmp .lt 9, 3) := by decide +kernel
theorem dX12_primaryTick_180 : decode cX12_primaryTick 180 = .ok (.aload_n 0, 1) := by decide +kernel
theorem dX12_primaryTick_181 : decode cX12_primaryTick 181 = .ok (.iload_n 1, 1) := by decide +kernel
theorem dX12_primaryTick_182 : decode cX12_primaryTick 182 = .ok (.iload_n 2, 1) := by decide +kernel
theorem dX12_primaryTick_183 : decode cX12_primaryTick 183 = .ok (.invokevirtual 687, 3) := by decide +kernel
theorem dX12_primaryTick_186 : decode cX12_primaryTick 186 = .ok (.return_, 1) := by decide +kernel
theorem dX12_copyTick_0 : decode cX12_copyTick 0 = .ok (.aload_n 0, 1) := by decide +kernel
theorem dX12_copyTick_1 : decode cX12_copyTick 1 = .ok (.getfield 140, 3) := by decide +kernel
theorem dX12_copyTick_4 : decode cX12_copyTick 4 = .ok (.iload_n 1, 1) := by decide +kernel
theorem dX12_copyTick_5 : decode cX12_copyTick 5 = .ok (.iaload, 1) := by decide +kernel
theorem dX12_copyTick_6 : decode cX12_copyTick 6 = .ok (.iconst 2, 1) := by decide +kernel
theorem dX12_copyTick_7 : decode cX12_copyTick 7 = .ok (.if_icmp .ne 50, 3) := by decide +kernel
theorem dX12_copyTick_10 : decode cX12_copyTick 10 = .ok (.iconst 0, 1) := by decide +kernel
theorem dX12_copyTick_11 : decode cX12_copyTick 11 = .ok (.istore_n 2, 1) := by decide +kernel
theorem dX12_copyTick_12 : decode cX12_copyTick 12 = .ok (.iload_n 2, 1) := by decide +kernel
theorem dX12_copyTick_13 : decode cX12_copyTick 13 = .ok (.aload_n 0, 1) := by decide +kernel
theorem dX12_copyTick_14 : decode cX12_copyTick 14 = .ok (.getfield 321, 3) := by decide +kernel
theorem dX12_copyTick_17 : decode cX12_copyTick 17 = .ok (.if_icmp .ge 37, 3) := by decide +kernel
theorem dX12_copyTick_20 : decode cX12_copyTick 20 = .ok (.aload_n 0, 1) := by decide +kernel
theorem dX12_copyTick_21 : decode cX12_copyTick 21 = .ok (.iload_n 1, 1) := by decide +kernel
theorem dX12_copyTick_22 : decode cX12_copyTick 22 = .ok (.iload_n 2, 1) := by decide +kernel
theorem dX12_copyTick_23 : decode cX12_copyTick 23 = .ok (.invokevirtual 431, 3) := by decide +kernel
theorem dX12_copyTick_26 : decode cX12_copyTick 26 = .ok (.ifCond .eq 22, 3) := by decide +kernel
theorem dX12_copyTick_29 : decode cX12_copyTick 29 = .ok (.aload_n 0, 1) := by decide +kernel
theorem dX12_copyTick_30 : decode cX12_copyTick 30 = .ok (.getfield 158, 3) := by decide +kernel
theorem dX12_copyTick_33 : decode cX12_copyTick 33 = .ok (.iconst 5, 1) := by decide +kernel
theorem dX12_copyTick_34 : decode cX12_copyTick 34 = .ok (.iload_n 1, 1) := by decide +kernel
theorem dX12_copyTick_35 : decode cX12_copyTick 35 = .ok (.imul, 1) := by decide +kernel
theorem dX12_copyTick_36 : decode cX12_copyTick 36 = .ok (.iload_n 2, 1) := by decide +kernel
theorem dX12_copyTick_37 : decode cX12_copyTick 37 = .ok (.iadd, 1) := by decide +kernel
theorem dX12_copyTick_38 : decode cX12_copyTick 38 = .ok (.iaload, 1) := by decide +kernel
theorem dX12_copyTick_39 : decode cX12_copyTick 39 = .ok (.ifCond .le 9, 3) := by decide +kernel
theorem dX12_copyTick_42 : decode cX12_copyTick 42 = .ok (.aload_n 0, 1) := by decide +kernel
theorem dX12_copyTick_43 : decode cX12_copyTick 43 = .ok (.iload_n 1, 1) := by decide +kernel
theorem dX12_copyTick_44 : decode cX12_copyTick 44 = .ok (.iload_n 2, 1) := by decide +kernel
theorem dX12_copyTick_45 : decode cX12_copyTick 45 = .ok (.invokevirtual 690, 3) := by decide +kernel
theorem dX12_copyTick_48 : decode cX12_copyTick 48 = .ok (.iinc 2 1, 3) := by decide +kernel
theorem dX12_copyTick_51 : decode cX12_copyTick 51 = .ok (.goto (-39), 3) := by decide +kernel
theorem dX12_copyTick_54 : decode cX12_copyTick 54 = .ok (.goto 41, 3) := by decide +kernel
theorem dX12_copyTick_57 : decode cX12_copyTick 57 = .ok (.aload_n 0, 1) := by decide +kernel
theorem dX12_copyTick_58 : decode cX12_copyTick 58 = .ok (.getfield 140, 3) := by decide +kernel
theorem dX12_copyTick_61 : decode cX12_copyTick 61 = .ok (.iload_n 1, 1) := by decide +kernel
theorem dX12_copyTick_62 : decode cX12_copyTick 62 = .ok (.iaload, 1) := by decide +kernel
theorem dX12_copyTick_63 : decode cX12_copyTick 63 = .ok (.ifCond .ne 32, 3) := by decide +kernel
theorem dX12_copyTick_66 : decode cX12_copyTick 66 = .ok (.aload_n 0, 1) := by decide +kernel
theorem dX12_copyTick_67 : decode cX12_copyTick 67 = .ok (.getfield 185, 3) := by decide +kernel
theorem dX12_copyTick_70 : decode cX12_copyTick 70 = .ok (.iload_n 1, 1) := by decide +kernel
theorem dX12_copyTick_71 : decode cX12_copyTick 71 = .ok (.iaload, 1) := by decide +kernel
theorem dX12_copyTick_72 : decode cX12_copyTick 72 = .ok (.ifCond .le 23, 3) := by decide +kernel
theorem dX12_copyTick_75 : decode cX12_copyTick 75 = .ok (.aload_n 0, 1) := by decide +kernel
theorem dX12_copyTick_76 : decode cX12_copyTick 76 = .ok (.getfield 330, 3) := by decide +kernel
theorem dX12_copyTick_79 : decode cX12_copyTick 79 = .ok (.aload_n 0, 1) := by decide +kernel
theorem dX12_copyTick_80 : decode cX12_copyTick 80 = .ok (.getfield 143, 3) := by decide +kernel
theorem dX12_copyTick_83 : decode cX12_copyTick 83 = .ok (.iload_n 1, 1) := by decide +kernel
theorem dX12_copyTick_84 : decode cX12_copyTick 84 = .ok (.iaload, 1) := by decide +kernel
theorem dX12_copyTick_85 : decode cX12_copyTick 85 = .ok (.isub, 1) := by decide +kernel
theorem dX12_copyTick_86 : decode cX12_copyTick 86 = .ok (.iconst 3, 1) := by decide +kernel
theorem dX12_copyTick_87 : decode cX12_copyTick 87 = .ok (.if_icmp .lt 8, 3) := by decide +kernel
theorem dX12_copyTick_90 : decode cX12_copyTick 90 = .ok (.aload_n 0, 1) := by decide +kernel
theorem dX12_copyTick_91 : decode cX12_copyTick 91 = .ok (.iload_n 1, 1) := by decide +kernel
theorem dX12_copyTick_92 : decode cX12_copyTick 92 = .ok (.invokevirtual 666, 3) := by decide +kernel
theorem dX12_copyTick_95 : decode cX12_copyTick 95 = .ok (.return_, 1) := by decide +kernel
theorem dX12_nodeTick_0 : decode cX12_nodeTick 0 = .ok (.iconst 0, 1) := by decide +kernel
theorem dX12_nodeTick_1 : decode cX12_nodeTick 1 = .ok (.istore_n 2, 1) := by decide +kernel
theorem dX12_nodeTick_2 : decode cX12_nodeTick 2 = .ok (.iload_n 2, 1) := by decide +kernel
theorem dX12_nodeTick_3 : decode cX12_nodeTick 3 = .ok (.aload_n 0, 1) := by decide +kernel
theorem dX12_nodeTick_4 : decode cX12_nodeTick 4 = .ok (.getfield 327, 3) := by decide +kernel
theorem dX12_nodeTick_7 : decode cX12_nodeTick 7 = .ok (.if_icmp .ge 28, 3) := by decide +kernel
theorem dX12_nodeTick_10 : decode cX12_nodeTick 10 = .ok (.aload_n 0, 1) := by decide +kernel
theorem dX12_nodeTick_11 : decode cX12_nodeTick 11 = .ok (.iload_n 1, 1) := by decide +kernel
theorem dX12_nodeTick_12 : decode cX12_nodeTick 12 = .ok (.iload_n 2, 1) := by decide +kernel
theorem dX12_nodeTick_13 : decode cX12_nodeTick 13 = .ok (.invokevirtual 352, 3) := by decide +kernel
theorem dX12_nodeTick_16 : decode cX12_nodeTick 16 = .ok (.ifCond .eq 13, 3) := by decide +kernel
theorem dX12_nodeTick_19 : decode cX12_nodeTick 19 = .ok (.aload_n 0, 1) := by decide +kernel
theorem dX12_nodeTick_20 : decode cX12_nodeTick 20 = .ok (.aload_n 0, 1) := by decide +kernel
theorem dX12_nodeTick_21 : decode cX12_nodeTick 21 = .ok (.iload_n 1, 1) := by decide +kernel
theorem dX12_nodeTick_22 : decode cX12_nodeTick 22 = .ok (.iload_n 2, 1) := by decide +kernel
theorem dX12_nodeTick_23 : decode cX12_nodeTick 23 = .ok (.invokevirtual 364, 3) := by decide +kernel
theorem dX12_nodeTick_26 : decode cX12_nodeTick 26 = .ok (.invokevirtual 693, 3) := by decide +kernel
theorem dX12_nodeTick_29 : decode cX12_nodeTick 29 = .ok (.iinc 2 1, 3) := by decide +kernel
theorem dX12_nodeTick_32 : decode cX12_nodeTick 32 = .ok (.goto (-30), 3) := by decide +kernel
theorem dX12_nodeTick_35 : decode cX12_nodeTick 35 = .ok (.aload_n 0, 1) := by decide +kernel
theorem dX12_nodeTick_36 : decode cX12_nodeTick 36 = .ok (.getfield 330, 3) := by decide +kernel
theorem dX12_nodeTick_39 : decode cX12_nodeTick 39 = .ok (.iconst 2, 1) := by decide +kernel
theorem dX12_nodeTick_40 : decode cX12_nodeTick 40 = .ok (.irem, 1) := by decide +kernel
theorem dX12_nodeTick_41 : decode cX12_nodeTick 41 = .ok (.ifCond .ne 123, 3) := by decide +kernel
theorem dX12_nodeTick_44 : decode cX12_nodeTick 44 = .ok (.aload_n 0, 1) := by decide +kernel
theorem dX12_nodeTick_45 : decode cX12_nodeTick 45 = .ok (.getfield 219, 3) := by decide +kernel
theorem dX12_nodeTick_48 : decode cX12_nodeTick 48 = .ok (.iconst 0, 1) := by decide +kernel
theorem dX12_nodeTick_49 : decode cX12_nodeTick 49 = .ok (.bipush 16, 2) := by decide +kernel
theorem dX12_nodeTick_51 : decode cX12_nodeTick 51 = .ok (.iastore, 1) := by decide +kernel
theorem dX12_nodeTick_52 : decode cX12_nodeTick 52 = .ok (.iconst 1, 1) := by decide +kernel
theorem dX12_nodeTick_53 : decode cX12_nodeTick 53 = .ok (.istore_n 2, 1) := by decide +kernel
theorem dX12_nodeTick_54 : decode cX12_nodeTick 54 = .ok (.iload_n 2, 1) := by decide +kernel
theorem dX12_nodeTick_55 : decode cX12_nodeTick 55 = .ok (.bipush 14, 2) := by decide +kernel
theorem dX12_nodeTick_57 : decode cX12_nodeTick 57 = .ok (.if_icmp .ge 16, 3) := by decide +kernel
theorem dX12_nodeTick_60 : decode cX12_nodeTick 60 = .ok (.aload_n 0, 1) := by decide +kernel
theorem dX12_nodeTick_61 : decode cX12_nodeTick 61 = .ok (.getfield 219, 3) := by decide +kernel
theorem dX12_nodeTick_64 : decode cX12_nodeTick 64 = .ok (.iload_n 2, 1) := by decide +kernel
theorem dX12_nodeTick_65 : decode cX12_nodeTick 65 = .ok (.iconst 0, 1) := by decide +kernel
theorem dX12_nodeTick_66 : decode cX12_nodeTick 66 = .ok (.iastore, 1) := by decide +kernel
theorem dX12_nodeTick_67 : decode cX12_nodeTick 67 = .ok (.iinc 2 1, 3) := by decide +kernel
theorem dX12_nodeTick_70 : decode cX12_nodeTick 70 = .ok (.goto (-16), 3) := by decide +kernel
theorem dX12_nodeTick_73 : decode cX12_nodeTick 73 = .ok (.iconst 0, 1) := by decide +kernel
theorem dX12_nodeTick_74 : decode cX12_nodeTick 74 = .ok (.istore_n 2, 1) := by decide +kernel
theorem dX12_nodeTick_75 : decode cX12_nodeTick 75 = .ok (.iload_n 2, 1) := by decide +kernel
theorem dX12_nodeTick_76 : decode cX12_nodeTick 76 = .ok (.aload_n 0, 1) := by decide +kernel
theorem dX12_nodeTick_77 : decode cX12_nodeTick 77 = .ok (.getfield 327, 3) := by decide +kernel
theorem dX12_nodeTick_80 : decode cX12_nodeTick 80 = .ok (.if_icmp .ge 73, 3) := by decide +kernel
theorem dX12_nodeTick_83 : decode cX12_nodeTick 83 = .ok (.aload_n 0, 1) := by decide +kernel
theorem dX12_nodeTick_84 : decode cX12_nodeTick 84 = .ok (.iload_n 1, 1) := by decide +kernel
theorem dX12_nodeTick_85 : decode cX12_nodeTick 85 = .ok (.iload_n 2, 1) := by decide +kernel
theorem dX12_nodeTick_86 : decode cX12_nodeTick 86 = .ok (.invokevirtual 352, 3) := by decide +kernel
theorem dX12_nodeTick_89 : decode cX12_nodeTick 89 = .ok (.ifCond .eq 58, 3) := by decide +kernel
theorem dX12_nodeTick_92 : decode cX12_nodeTick 92 = .ok (.aload_n 0, 1) := by decide +kernel
theorem dX12_nodeTick_93 : decode cX12_nodeTick 93 = .ok (.iload_n 1, 1) := by decide +kernel
theorem dX12_nodeTick_94 : decode cX12_nodeTick 94 = .ok (.iload_n 2, 1) := by decide +kernel
theorem dX12_nodeTick_95 : decode cX12_nodeTick 95 = .ok (.invokevirtual 364, 3) := by decide +kernel
theorem dX12_nodeTick_98 : decode cX12_nodeTick 98 = .ok (.istore_n 3, 1) := by decide +kernel
theorem dX12_nodeTick_99 : decode cX12_nodeTick 99 = .ok (.aload_n 0, 1) := by decide +kernel
theorem dX12_nodeTick_100 : decode cX12_nodeTick 100 = .ok (.getfield 219, 3) := by decide +kernel
theorem dX12_nodeTick_103 : decode cX12_nodeTick 103 = .ok (.bipush 6, 2) := by decide +kernel
theorem dX12_nodeTick_105 : decode cX12_nodeTick 105 = .ok (.iconst 2, 1) := by decide +kernel
theorem dX12_nodeTick_106 : decode cX12_nodeTick 106 = .ok (.iload_n 2, 1) := by decide +kernel
theorem dX12_nodeTick_107 : decode cX12_nodeTick 107 = .ok (.imul, 1) := by decide +kernel
theorem dX12_nodeTick_108 : decode cX12_nodeTick 108 = .ok (.iadd, 1) := by decide +kernel
theorem dX12_nodeTick_109 : decode cX12_nodeTick 109 = .ok (.aload_n 0, 1) := by decide +kernel
theorem dX12_nodeTick_110 : decode cX12_nodeTick 110 = .ok (.getfield 185, 3) := by decide +kernel
theorem dX12_nodeTick_113 : decode cX12_nodeTick 113 = .ok (.iload_n 3, 1) := by decide +kernel
theorem dX12_nodeTick_114 : decode cX12_nodeTick 114 = .ok (.iaload, 1) := by decide +kernel
theorem dX12_nodeTick_115 : decode cX12_nodeTick 115 = .ok (.iastore, 1) := by decide +kernel
theorem dX12_nodeTick_116 : decode cX12_nodeTick 116 = .ok (.aload_n 0, 1) := by decide +kernel
theorem dX12_nodeTick_117 : decode cX12_nodeTick 117 = .ok (.getfield 219, 3) := by decide +kernel
theorem dX12_nodeTick_120 : decode cX12_nodeTick 120 = .ok (.bipush 7, 2) := by decide +kernel
theorem dX12_nodeTick_122 : decode cX12_nodeTick 122 = .ok (.iconst 2, 1) := by decide +kernel
theorem dX12_nodeTick_123 : decode cX12_nodeTick 123 = .ok (.iload_n 2, 1) := by decide +kernel
theorem dX12_nodeTick_124 : decode cX12_nodeTick 124 = .ok (.imul, 1) := by decide +kernel
theorem dX12_nodeTick_125 : decode cX12_nodeTick 125 = .ok (.iadd, 1) := by decide +kernel
theorem dX12_nodeTick_126 : decode cX12_nodeTick 126 = .ok (.aload_n 0, 1) := by decide +kernel
theorem dX12_nodeTick_127 : decode cX12_nodeTick 127 = .ok (.getfield 140, 3) := by decide +kernel
theorem dX12_nodeTick_130 : decode cX12_nodeTick 130 = .ok (.iload_n 3, 1) := by decide +kernel
theorem dX12_nodeTick_131 : decode cX12_nodeTick 131 = .ok (.iaload, 1) := by decide +kernel
theorem dX12_nodeTick_132 : decode cX12_nodeTick 132 = .ok (.iconst 2, 1) := by decide +kernel
theorem dX12_nodeTick_133 : decode cX12_nodeTick 133 = .ok (.if_icmp .ne 12, 3) := by decide +kernel
theorem dX12_nodeTick_136 : decode cX12_nodeTick 136 = .ok (.aload_n 0, 1) := by decide +kernel
theorem dX12_nodeTick_137 : decode cX12_nodeTick 137 = .ok (.getfield 125, 3) := by decide +kernel
theorem dX12_nodeTick_140 : decode cX12_nodeTick 140 = .ok (.iload_n 3, 1) := by decide +kernel
theorem dX12_nodeTick_141 : decode cX12_nodeTick 141 = .ok (.iaload, 1) := by decide +kernel
theorem dX12_nodeTick_142 : decode cX12_nodeTick 142 = .ok (.goto 4, 3) := by decide +kernel
theorem dX12_nodeTick_145 : decode cX12_nodeTick 145 = .ok (.iconst 0, 1) := by decide +kernel
theorem dX12_nodeTick_146 : decode cX12_nodeTick 146 = .ok (.iastore, 1) := by decide +kernel
theorem dX12_nodeTick_147 : decode cX12_nodeTick 147 = .ok (.iinc 2 1, 3) := by decide +kernel
theorem dX12_nodeTick_150 : decode cX12_nodeTick 150 = .ok (.goto (-75), 3) := by decide +kernel
theorem dX12_nodeTick_153 : decode cX12_nodeTick 153 = .ok (.aload_n 0, 1) := by decide +kernel
theorem dX12_nodeTick_154 : decode cX12_nodeTick 154 = .ok (.iload_n 1, 1) := by decide +kernel
theorem dX12_nodeTick_155 : decode cX12_nodeTick 155 = .ok (.aload_n 0, 1) := by decide +kernel
theorem dX12_nodeTick_156 : decode cX12_nodeTick 156 = .ok (.getfield 321, 3) := by decide +kernel
theorem dX12_nodeTick_159 : decode cX12_nodeTick 159 = .ok (.bipush 14, 2) := by decide +kernel
theorem dX12_nodeTick_161 : decode cX12_nodeTick 161 = .ok (.invokevirtual 446, 3) := by decide +kernel
theorem dX12_nodeTick_164 : decode cX12_nodeTick 164 = .ok (.bipush 8, 2) := by decide +kernel
theorem dX12_nodeTick_166 : decode cX12_nodeTick 166 = .ok (.iload_n 1, 1) := by decide +kernel
theorem dX12_nodeTick_167 : decode cX12_nodeTick 167 = .ok (.imul, 1) := by decide +kernel
theorem dX12_nodeTick_168 : decode cX12_nodeTick 168 = .ok (.istore_n 2, 1) := by decide +kernel
theorem dX12_nodeTick_169 : decode cX12_nodeTick 169 = .ok (.iload_n 2, 1) := by decide +kernel
theorem dX12_nodeTick_170 : decode cX12_nodeTick 170 = .ok (.bipush 8, 2) := by decide +kernel
theorem dX12_nodeTick_172 : decode cX12_nodeTick 172 = .ok (.iload_n 1, 1) := by decide +kernel
theorem dX12_nodeTick_173 : decode cX12_nodeTick 173 = .ok (.imul, 1) := by decide +kernel
theorem dX12_nodeTick_174 : decode cX12_nodeTick 174 = .ok (.bipush 8, 2) := by decide +kernel
theorem dX12_nodeTick_176 : decode cX12_nodeTick 176 = .ok (.iadd, 1) := by decide +kernel
theorem dX12_nodeTick_177 : decode cX12_nodeTick 177 = .ok (.if_icmp .ge 45, 3) := by decide +kernel
theorem dX12_nodeTick_180 : decode cX12_nodeTick 180 = .ok (.aload_n 0, 1) := by decide +kernel
theorem dX12_nodeTick_181 : decode cX12_nodeTick 181 = .ok (.getfield 225, 3) := by decide +kernel
theorem dX12_nodeTick_184 : decode cX12_nodeTick 184 = .ok (.iload_n 2, 1) := by decide +kernel
theorem dX12_nodeTick_185 : decode cX12_nodeTick 185 = .ok (.aload_n 0, 1) := by decide +kernel
theorem dX12_nodeTick_186 : decode cX12_nodeTick 186 = .ok (.getfield 225, 3) := by decide +kernel
theorem dX12_nodeTick_189 : decode cX12_nodeTick 189 = .ok (.iload_n 2, 1) := by decide +kernel
theorem dX12_nodeTick_190 : decode cX12_nodeTick 190 = .ok (.baload, 1) := by decide +kernel
theorem dX12_nodeTick_191 : decode cX12_nodeTick 191 = .ok (.ifCond .eq 23, 3) := by decide +kernel
theorem dX12_nodeTick_194 : decode cX12_nodeTick 194 = .ok (.aload_n 0, 1) := by decide +kernel
theorem dX12_nodeTick_195 : decode cX12_nodeTick 195 = .ok (.getfield 330, 3) := by decide +kernel
theorem dX12_nodeTick_198 : decode cX12_nodeTick 198 = .ok (.aload_n 0, 1) := by decide +kernel
theorem dX12_nodeTick_199 : decode cX12_nodeTick 199 = .ok (.getfield 237, 3) := by decide +kernel
theorem dX12_nodeTick_202 : decode cX12_nodeTick 202 = .ok (.iload_n 2, 1) := by decide +kernel
theorem dX12_nodeTick_203 : decode cX12_nodeTick 203 = .ok (.iaload, 1) := by decide +kernel
theorem dX12_nodeTick_204 : decode cX12_nodeTick 204 = .ok (.isub, 1) := by decide +kernel
theorem dX12_nodeTick_205 : decode cX12_nodeTick 205 = .ok (.bipush 12, 2) := by decide +kernel
theorem dX12_nodeTick_207 : decode cX12_nodeTick 207 = .ok (.if_icmp .ge 7, 3) := by decide +kernel
theorem dX12_nodeTick_210 : decode cX12_nodeTick 210 = .ok (.iconst 1, 1) := by decide +kernel
theorem dX12_nodeTick_211 : decode cX12_nodeTick 211 = .ok (.goto 4, 3) := by decide +kernel
theorem dX12_nodeTick_214 : decode cX12_nodeTick 214 = .ok (.iconst 0, 1) := by decide +kernel
theorem dX12_nodeTick_215 : decode cX12_nodeTick 215 = .ok (.bastore, 1) := by decide +kernel
theorem dX12_nodeTick_216 : decode cX12_nodeTick 216 = .ok (.iinc 2 1, 3) := by decide +kernel
theorem dX12_nodeTick_219 : decode cX12_nodeTick 219 = .ok (.goto (-50), 3) := by decide +kernel
theorem dX12_nodeTick_222 : decode cX12_nodeTick 222 = .ok (.iconst 0, 1) := by decide +kernel
theorem dX12_nodeTick_223 : decode cX12_nodeTick 223 = .ok (.istore_n 2, 1) := by decide +kernel
theorem dX12_nodeTick_224 : decode cX12_nodeTick 224 = .ok (.iload_n 2, 1) := by decide +kernel
theorem dX12_nodeTick_225 : decode cX12_nodeTick 225 = .ok (.aload_n 0, 1) := by decide +kernel
theorem dX12_nodeTick_226 : decode cX12_nodeTick 226 = .ok (.getfield 333, 3) := by decide +kernel
theorem dX12_nodeTick_229 : decode cX12_nodeTick 229 = .ok (.if_icmp .ge 34, 3) := by decide +kernel
theorem dX12_nodeTick_232 : decode cX12_nodeTick 232 = .ok (.aload_n 0, 1) := by decide +kernel
theorem dX12_nodeTick_233 : decode cX12_nodeTick 233 = .ok (.getfield 19, 3) := by decide +kernel
theorem dX12_nodeTick_236 : decode cX12_nodeTick 236 = .ok (.iload_n 2, 1) := by decide +kernel
theorem dX12_nodeTick_237 : decode cX12_nodeTick 237 = .ok (.iaload, 1) := by decide +kernel
theorem dX12_nodeTick_238 : decode cX12_nodeTick 238 = .ok (.iload_n 1, 1) := by decide +kernel
theorem dX12_nodeTick_239 : decode cX12_nodeTick 239 = .ok (.if_icmp .ne 18, 3) := by decide +kernel
theorem dX12_nodeTick_242 : decode cX12_nodeTick 242 = .ok (.aload_n 0, 1) := by decide +kernel
theorem dX12_nodeTick_243 : decode cX12_nodeTick 243 = .ok (.getfield 22, 3) := by decide +kernel
theorem dX12_nodeTick_246 : decode cX12_nodeTick 246 = .ok (.iload_n 2, 1) := by decide +kernel
theorem dX12_nodeTick_247 : decode cX12_nodeTick 247 = .ok (.iaload, 1) := by decide +kernel
theorem dX12_nodeTick_248 : decode cX12_nodeTick 248 = .ok (.ifCond .ne 9, 3) := by decide +kernel
theorem dX12_nodeTick_251 : decode cX12_nodeTick 251 = .ok (.aload_n 0, 1) := by decide +kernel
theorem dX12_nodeTick_252 : decode cX12_nodeTick 252 = .ok (.iload_n 2, 1) := by decide +kernel
theorem dX12_nodeTick_253 : decode cX12_nodeTick 253 = .ok (.iload_n 1, 1) := by decide +kernel
theorem dX12_nodeTick_254 : decode cX12_nodeTick 254 = .ok (.invokevirtual 696, 3) := by decide +kernel
theorem dX12_nodeTick_257 : decode cX12_nodeTick 257 = .ok (.iinc 2 1, 3) := by decide +kernel
theorem dX12_nodeTick_260 : decode cX12_nodeTick 260 = .ok (.goto (-36), 3) := by decide +kernel
theorem dX12_nodeTick_263 : decode cX12_nodeTick 263 = .ok (.return_, 1) := by decide +kernel
