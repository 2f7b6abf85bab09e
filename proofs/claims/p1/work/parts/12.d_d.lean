theorem db_X11_init_0 : decode cX11_init 0 = .ok (.aload_n 0, 1) ∧ decode cX11_init 1 = .ok (.invokespecial 3, 3) ∧ decode cX11_init 4 = .ok (.aload_n 0, 1) ∧ decode cX11_init 5 = .ok (.new 9, 3) ∧ decode cX11_init 8 = .ok (.dup, 1) ∧ decode cX11_init 9 = .ok (.invokespecial 11, 3) ∧ decode cX11_init 12 = .ok (.putfield 12, 3) ∧ decode cX11_init 15 = .ok (.aload_n 0, 1) ∧ decode cX11_init 16 = .ok (.bipush 6, 2) ∧ decode cX11_init 18 = .ok (.anewarray 16, 3) ∧ decode cX11_init 21 = .ok (.putfield 18, 3) ∧ decode cX11_init 24 = .ok (.iconst 0, 1) ∧ decode cX11_init 25 = .ok (.istore_n 1, 1) ∧ decode cX11_init 26 = .ok (.iload_n 1, 1) ∧ decode cX11_init 27 = .ok (.bipush 6, 2) ∧ decode cX11_init 29 = .ok (.if_icmp .ge 27, 3) := by decide +kernel
theorem dX11_init_0 : decode cX11_init 0 = .ok (.aload_n 0, 1) := db_X11_init_0.1
theorem dX11_init_1 : decode cX11_init 1 = .ok (.invokespecial 3, 3) := db_X11_init_0.2.1
theorem dX11_init_4 : decode cX11_init 4 = .ok (.aload_n 0, 1) := db_X11_init_0.2.2.1
theorem dX11_init_5 : decode cX11_init 5 = .ok (.new 9, 3) := db_X11_init_0.2.2.2.1
theorem dX11_init_8 : decode cX11_init 8 = .ok (.dup, 1) := db_X11_init_0.2.2.2.2.1
theorem dX11_init_9 : decode cX11_init 9 = .ok (.invokespecial 11, 3) := db_X11_init_0.2.2.2.2.2.1
theorem dX11_init_12 : decode cX11_init 12 = .ok (.putfield 12, 3) := db_X11_init_0.2.2.2.2.2.2.1
theorem dX11_init_15 : decode cX11_init 15 = .ok (.aload_n 0, 1) := db_X11_init_0.2.2.2.2.2.2.2.1
theorem dX11_init_16 : decode cX11_init 16 = .ok (.bipush 6, 2) := db_X11_init_0.2.2.2.2.2.2.2.2.1
theorem dX11_init_18 : decode cX11_init 18 = .ok (.anewarray 16, 3) := db_X11_init_0.2.2.2.2.2.2.2.2.2.1
theorem dX11_init_21 : decode cX11_init 21 = .ok (.putfield 18, 3) := db_X11_init_0.2.2.2.2.2.2.2.2.2.2.1
theorem dX11_init_24 : decode cX11_init 24 = .ok (.iconst 0, 1) := db_X11_init_0.2.2.2.2.2.2.2.2.2.2.2.1
theorem dX11_init_25 : decode cX11_init 25 = .ok (.istore_n 1, 1) := db_X11_init_0.2.2.2.2.2.2.2.2.2.2.2.2.1
theorem dX11_init_26 : decode cX11_init 26 = .ok (.iload_n 1, 1) := db_X11_init_0.2.2.2.2.2.2.2.2.2.2.2.2.2.1
theorem dX11_init_27 : decode cX11_init 27 = .ok (.bipush 6, 2) := db_X11_init_0.2.2.2.2.2.2.2.2.2.2.2.2.2.2.1
theorem dX11_init_29 : decode cX11_init 29 = .ok (.if_icmp .ge 27, 3) := db_X11_init_0.2.2.2.2.2.2.2.2.2.2.2.2.2.2.2
theorem db_X11_init_32 : decode cX11_init 32 = .ok (.aload_n 0, 1) ∧ decode cX11_init 33 = .ok (.getfield 18, 3) ∧ decode cX11_init 36 = .ok (.iload_n 1, 1) ∧ decode cX11_init 37 = .ok (.new 16, 3) ∧ decode cX11_init 40 = .ok (.dup, 1) ∧ decode cX11_init 41 = .ok (.aload_n 0, 1) ∧ decode cX11_init 42 = .ok (.getfield 12, 3) ∧ decode cX11_init 45 = .ok (.iload_n 1, 1) ∧ decode cX11_init 46 = .ok (.invokespecial 22, 3) ∧ decode cX11_init 49 = .ok (.aastore, 1) ∧ decode cX11_init 50 = .ok (.iinc 1 1, 3) ∧ decode cX11_init 53 = .ok (.goto (-27), 3) ∧ decode cX11_init 56 = .ok (.aload_n 0, 1) ∧ decode cX11_init 57 = .ok (.bipush 12, 2) ∧ decode cX11_init 59 = .ok (.anewarray 25, 3) ∧ decode cX11_init 62 = .ok (.putfield 27, 3) := by decide +kernel
theorem dX11_init_32 : decode cX11_init 32 = .ok (.aload_n 0, 1) := db_X11_init_32.1
theorem dX11_init_33 : decode cX11_init 33 = .ok (.getfield 18, 3) := db_X11_init_32.2.1
theorem dX11_init_36 : decode cX11_init 36 = .ok (.iload_n 1, 1) := db_X11_init_32.2.2.1
theorem dX11_init_37 : decode cX11_init 37 = .ok (.new 16, 3) := db_X11_init_32.2.2.2.1
theorem dX11_init_40 : decode cX11_init 40 = .ok (.dup, 1) := db_X11_init_32.2.2.2.2.1
theorem dX11_init_41 : decode cX11_init 41 = .ok (.aload_n 0, 1) := db_X11_init_32.2.2.2.2.2.1
theorem dX11_init_42 : decode cX11_init 42 = .ok (.getfield 12, 3) := db_X11_init_32.2.2.2.2.2.2.1
theorem dX11_init_45 : decode cX11_init 45 = .ok (.iload_n 1, 1) := db_X11_init_32.2.2.2.2.2.2.2.1
theorem dX11_init_46 : decode cX11_init 46 = .ok (.invokespecial 22, 3) := db_X11_init_32.2.2.2.2.2.2.2.2.1
theorem dX11_init_49 : decode cX11_init 49 = .ok (.aastore, 1) := db_X11_init_32.2.2.2.2.2.2.2.2.2.1
theorem dX11_init_50 : decode cX11_init 50 = .ok (.iinc 1 1, 3) := db_X11_init_32.2.2.2.2.2.2.2.2.2.2.1
theorem dX11_init_53 : decode cX11_init 53 = .ok (.goto (-27), 3) := db_X11_init_32.2.2.2.2.2.2.2.2.2.2.2.1
theorem dX11_init_56 : decode cX11_init 56 = .ok (.aload_n 0, 1) := db_X11_init_32.2.2.2.2.2.2.2.2.2.2.2.2.1
theorem dX11_init_57 : decode cX11_init 57 = .ok (.bipush 12, 2) := db_X11_init_32.2.2.2.2.2.2.2.2.2.2.2.2.2.1
theorem dX11_init_59 : decode cX11_init 59 = .ok (.anewarray 25, 3) := db_X11_init_32.2.2.2.2.2.2.2.2.2.2.2.2.2.2.1
theorem dX11_init_62 : decode cX11_init 62 = .ok (.putfield 27, 3) := db_X11_init_32.2.2.2.2.2.2.2.2.2.2.2.2.2.2.2
theorem db_X11_init_65 : decode cX11_init 65 = .ok (.iconst 0, 1) ∧ decode cX11_init 66 = .ok (.istore_n 1, 1) ∧ decode cX11_init 67 = .ok (.iload_n 1, 1) ∧ decode cX11_init 68 = .ok (.bipush 12, 2) ∧ decode cX11_init 70 = .ok (.if_icmp .ge 26, 3) ∧ decode cX11_init 73 = .ok (.aload_n 0, 1) ∧ decode cX11_init 74 = .ok (.getfield 27, 3) ∧ decode cX11_init 77 = .ok (.iload_n 1, 1) ∧ decode cX11_init 78 = .ok (.new 25, 3) ∧ decode cX11_init 81 = .ok (.dup, 1) ∧ decode cX11_init 82 = .ok (.aload_n 0, 1) ∧ decode cX11_init 83 = .ok (.getfield 12, 3) ∧ decode cX11_init 86 = .ok (.invokespecial 31, 3) ∧ decode cX11_init 89 = .ok (.aastore, 1) ∧ decode cX11_init 90 = .ok (.iinc 1 1, 3) ∧ decode cX11_init 93 = .ok (.goto (-26), 3) := by decide +kernel
theorem dX11_init_65 : decode cX11_init 65 = .ok (.iconst 0, 1) := db_X11_init_65.1
theorem dX11_init_66 : decode cX11_init 66 = .ok (.istore_n 1, 1) := db_X11_init_65.2.1
theorem dX11_init_67 : decode cX11_init 67 = .ok (.iload_n 1, 1) := db_X11_init_65.2.2.1
theorem dX11_init_68 : decode cX11_init 68 = .ok (.bipush 12, 2) := db_X11_init_65.2.2.2.1
theorem dX11_init_70 : decode cX11_init 70 = .ok (.if_icmp .ge 26, 3) := db_X11_init_65.2.2.2.2.1
theorem dX11_init_73 : decode cX11_init 73 = .ok (.aload_n 0, 1) := db_X11_init_65.2.2.2.2.2.1
theorem dX11_init_74 : decode cX11_init 74 = .ok (.getfield 27, 3) := db_X11_init_65.2.2.2.2.2.2.1
theorem dX11_init_77 : decode cX11_init 77 = .ok (.iload_n 1, 1) := db_X11_init_65.2.2.2.2.2.2.2.1
theorem dX11_init_78 : decode cX11_init 78 = .ok (.new 25, 3) := db_X11_init_65.2.2.2.2.2.2.2.2.1
theorem dX11_init_81 : decode cX11_init 81 = .ok (.dup, 1) := db_X11_init_65.2.2.2.2.2.2.2.2.2.1
theorem dX11_init_82 : decode cX11_init 82 = .ok (.aload_n 0, 1) := db_X11_init_65.2.2.2.2.2.2.2.2.2.2.1
theorem dX11_init_83 : decode cX11_init 83 = .ok (.getfield 12, 3) := db_X11_init_65.2.2.2.2.2.2.2.2.2.2.2.1
theorem dX11_init_86 : decode cX11_init 86 = .ok (.invokespecial 31, 3) := db_X11_init_65.2.2.2.2.2.2.2.2.2.2.2.2.1
theorem dX11_init_89 : decode cX11_init 89 = .ok (.aastore, 1) := db_X11_init_65.2.2.2.2.2.2.2.2.2.2.2.2.2.1
theorem dX11_init_90 : decode cX11_init 90 = .ok (.iinc 1 1, 3) := db_X11_init_65.2.2.2.2.2.2.2.2.2.2.2.2.2.2.1
theorem dX11_init_93 : decode cX11_init 93 = .ok (.goto (-26), 3) := db_X11_init_65.2.2.2.2.2.2.2.2.2.2.2.2.2.2.2
theorem db_X11_init_96 : decode cX11_init 96 = .ok (.aload_n 0, 1) ∧ decode cX11_init 97 = .ok (.new 34, 3) ∧ decode cX11_init 100 = .ok (.dup, 1) ∧ decode cX11_init 101 = .ok (.aload_n 0, 1) ∧ decode cX11_init 102 = .ok (.getfield 12, 3) ∧ decode cX11_init 105 = .ok (.invokespecial 36, 3) ∧ decode cX11_init 108 = .ok (.putfield 37, 3) ∧ decode cX11_init 111 = .ok (.aload_n 0, 1) ∧ decode cX11_init 112 = .ok (.new 41, 3) ∧ decode cX11_init 115 = .ok (.dup, 1) ∧ decode cX11_init 116 = .ok (.invokespecial 43, 3) ∧ decode cX11_init 119 = .ok (.putfield 44, 3) ∧ decode cX11_init 122 = .ok (.aload_n 0, 1) ∧ decode cX11_init 123 = .ok (.bipush 60, 2) ∧ decode cX11_init 125 = .ok (.newarray .int, 2) ∧ decode cX11_init 127 = .ok (.putfield 48, 3) := by decide +kernel
theorem dX11_init_96 : decode cX11_init 96 = .ok (.aload_n 0, 1) := db_X11_init_96.1
theorem dX11_init_97 : decode cX11_init 97 = .ok (.new 34, 3) := db_X11_init_96.2.1
theorem dX11_init_100 : decode cX11_init 100 = .ok (.dup, 1) := db_X11_init_96.2.2.1
theorem dX11_init_101 : decode cX11_init 101 = .ok (.aload_n 0, 1) := db_X11_init_96.2.2.2.1
theorem dX11_init_102 : decode cX11_init 102 = .ok (.getfield 12, 3) := db_X11_init_96.2.2.2.2.1
theorem dX11_init_105 : decode cX11_init 105 = .ok (.invokespecial 36, 3) := db_X11_init_96.2.2.2.2.2.1
theorem dX11_init_108 : decode cX11_init 108 = .ok (.putfield 37, 3) := db_X11_init_96.2.2.2.2.2.2.1
theorem dX11_init_111 : decode cX11_init 111 = .ok (.aload_n 0, 1) := db_X11_init_96.2.2.2.2.2.2.2.1
theorem dX11_init_112 : decode cX11_init 112 = .ok (.new 41, 3) := db_X11_init_96.2.2.2.2.2.2.2.2.1
theorem dX11_init_115 : decode cX11_init 115 = .ok (.dup, 1) := db_X11_init_96.2.2.2.2.2.2.2.2.2.1
theorem dX11_init_116 : decode cX11_init 116 = .ok (.invokespecial 43, 3) := db_X11_init_96.2.2.2.2.2.2.2.2.2.2.1
theorem dX11_init_119 : decode cX11_init 119 = .ok (.putfield 44, 3) := db_X11_init_96.2.2.2.2.2.2.2.2.2.2.2.1
theorem dX11_init_122 : decode cX11_init 122 = .ok (.aload_n 0, 1) := db_X11_init_96.2.2.2.2.2.2.2.2.2.2.2.2.1
theorem dX11_init_123 : decode cX11_init 123 = .ok (.bipush 60, 2) := db_X11_init_96.2.2.2.2.2.2.2.2.2.2.2.2.2.1
theorem dX11_init_125 : decode cX11_init 125 = .ok (.newarray .int, 2) := db_X11_init_96.2.2.2.2.2.2.2.2.2.2.2.2.2.2.1
theorem dX11_init_127 : decode cX11_init 127 = .ok (.putfield 48, 3) := db_X11_init_96.2.2.2.2.2.2.2.2.2.2.2.2.2.2.2
theorem db_X11_init_130 : decode cX11_init 130 = .ok (.aload_n 0, 1) ∧ decode cX11_init 131 = .ok (.iconst 0, 1) ∧ decode cX11_init 132 = .ok (.putfield 52, 3) ∧ decode cX11_init 135 = .ok (.aload_n 0, 1) ∧ decode cX11_init 136 = .ok (.iconst 3, 1) ∧ decode cX11_init 137 = .ok (.iconst 2, 1) ∧ decode cX11_init 138 = .ok (.iconst 2, 1) ∧ decode cX11_init 139 = .ok (.invokevirtual 56, 3) ∧ decode cX11_init 142 = .ok (.return_, 1) := by decide +kernel
theorem dX11_init_130 : decode cX11_init 130 = .ok (.aload_n 0, 1) := db_X11_init_130.1
theorem dX11_init_131 : decode cX11_init 131 = .ok (.iconst 0, 1) := db_X11_init_130.2.1
theorem dX11_init_132 : decode cX11_init 132 = .ok (.putfield 52, 3) := db_X11_init_130.2.2.1
theorem dX11_init_135 : decode cX11_init 135 = .ok (.aload_n 0, 1) := db_X11_init_130.2.2.2.1
theorem dX11_init_136 : decode cX11_init 136 = .ok (.iconst 3, 1) := db_X11_init_130.2.2.2.2.1
theorem dX11_init_137 : decode cX11_init 137 = .ok (.iconst 2, 1) := db_X11_init_130.2.2.2.2.2.1
theorem dX11_init_138 : decode cX11_init 138 = .ok (.iconst 2, 1) := db_X11_init_130.2.2.2.2.2.2.1
theorem dX11_init_139 : decode cX11_init 139 = .ok (.invokevirtual 56, 3) := db_X11_init_130.2.2.2.2.2.2.2.1
theorem dX11_init_142 : decode cX11_init 142 = .ok (.return_, 1) := db_X11_init_130.2.2.2.2.2.2.2.2
theorem db_X11_make_0 : decode cX11_make 0 = .ok (.iload_n 1, 1) ∧ decode cX11_make 1 = .ok (.iconst 1, 1) ∧ decode cX11_make 2 = .ok (.if_icmp .lt 33, 3) ∧ decode cX11_make 5 = .ok (.iload_n 1, 1) ∧ decode cX11_make 6 = .ok (.iconst 5, 1) ∧ decode cX11_make 7 = .ok (.if_icmp .gt 28, 3) ∧ decode cX11_make 10 = .ok (.iload_n 2, 1) ∧ decode cX11_make 11 = .ok (.iconst 1, 1) ∧ decode cX11_make 12 = .ok (.if_icmp .lt 23, 3) ∧ decode cX11_make 15 = .ok (.iload_n 2, 1) ∧ decode cX11_make 16 = .ok (.iconst 4, 1) ∧ decode cX11_make 17 = .ok (.if_icmp .gt 18, 3) ∧ decode cX11_make 20 = .ok (.iload_n 3, 1) ∧ decode cX11_make 21 = .ok (.iconst 1, 1) ∧ decode cX11_make 22 = .ok (.if_icmp .lt 13, 3) ∧ decode cX11_make 25 = .ok (.iload_n 3, 1) := by decide +kernel
theorem dX11_make_0 : decode cX11_make 0 = .ok (.iload_n 1, 1) := db_X11_make_0.1
theorem dX11_make_1 : decode cX11_make 1 = .ok (.iconst 1, 1) := db_X11_make_0.2.1
theorem dX11_make_2 : decode cX11_make 2 = .ok (.if_icmp .lt 33, 3) := db_X11_make_0.2.2.1
theorem dX11_make_5 : decode cX11_make 5 = .ok (.iload_n 1, 1) := db_X11_make_0.2.2.2.1
theorem dX11_make_6 : decode cX11_make 6 = .ok (.iconst 5, 1) := db_X11_make_0.2.2.2.2.1
theorem dX11_make_7 : decode cX11_make 7 = .ok (.if_icmp .gt 28, 3) := db_X11_make_0.2.2.2.2.2.1
theorem dX11_make_10 : decode cX11_make 10 = .ok (.iload_n 2, 1) := db_X11_make_0.2.2.2.2.2.2.1
theorem dX11_make_11 : decode cX11_make 11 = .ok (.iconst 1, 1) := db_X11_make_0.2.2.2.2.2.2.2.1
theorem dX11_make_12 : decode cX11_make 12 = .ok (.if_icmp .lt 23, 3) := db_X11_make_0.2.2.2.2.2.2.2.2.1
theorem dX11_make_15 : decode cX11_make 15 = .ok (.iload_n 2, 1) := db_X11_make_0.2.2.2.2.2.2.2.2.2.1
theorem dX11_make_16 : decode cX11_make 16 = .ok (.iconst 4, 1) := db_X11_make_0.2.2.2.2.2.2.2.2.2.2.1
theorem dX11_make_17 : decode cX11_make 17 = .ok (.if_icmp .gt 18, 3) := db_X11_make_0.2.2.2.2.2.2.2.2.2.2.2.1
theorem dX11_make_20 : decode cX11_make 20 = .ok (.iload_n 3, 1) := db_X11_make_0.2.2.2.2.2.2.2.2.2.2.2.2.1
theorem dX11_make_21 : decode cX11_make 21 = .ok (.iconst 1, 1) := db_X11_make_0.2.2.2.2.2.2.2.2.2.2.2.2.2.1
theorem dX11_make_22 : decode cX11_make 22 = .ok (.if_icmp .lt 13, 3) := db_X11_make_0.2.2.2.2.2.2.2.2.2.2.2.2.2.2.1
theorem dX11_make_25 : decode cX11_make 25 = .ok (.iload_n 3, 1) := db_X11_make_0.2.2.2.2.2.2.2.2.2.2.2.2.2.2.2
theorem db_X11_make_26 : decode cX11_make 26 = .ok (.iconst 3, 1) ∧ decode cX11_make 27 = .ok (.if_icmp .gt 8, 3) ∧ decode cX11_make 30 = .ok (.iload_n 3, 1) ∧ decode cX11_make 31 = .ok (.iload_n 1, 1) ∧ decode cX11_make 32 = .ok (.if_icmp .le 13, 3) ∧ decode cX11_make 35 = .ok (.new 60, 3) ∧ decode cX11_make 38 = .ok (.dup, 1) ∧ decode cX11_make 39 = .ok (.ldc 62, 2) ∧ decode cX11_make 41 = .ok (.invokespecial 64, 3) ∧ decode cX11_make 44 = .ok (.athrow, 1) ∧ decode cX11_make 45 = .ok (.aload_n 0, 1) ∧ decode cX11_make 46 = .ok (.iload_n 1, 1) ∧ decode cX11_make 47 = .ok (.iload_n 2, 1) ∧ decode cX11_make 48 = .ok (.iload_n 3, 1) ∧ decode cX11_make 49 = .ok (.invokevirtual 56, 3) ∧ decode cX11_make 52 = .ok (.iload_n 2, 1) := by decide +kernel
theorem dX11_make_26 : decode cX11_make 26 = .ok (.iconst 3, 1) := db_X11_make_26.1
theorem dX11_make_27 : decode cX11_make 27 = .ok (.if_icmp .gt 8, 3) := db_X11_make_26.2.1
theorem dX11_make_30 : decode cX11_make 30 = .ok (.iload_n 3, 1) := db_X11_make_26.2.2.1
theorem dX11_make_31 : decode cX11_make 31 = .ok (.iload_n 1, 1) := db_X11_make_26.2.2.2.1
theorem dX11_make_32 : decode cX11_make 32 = .ok (.if_icmp .le 13, 3) := db_X11_make_26.2.2.2.2.1
theorem dX11_make_35 : decode cX11_make 35 = .ok (.new 60, 3) := db_X11_make_26.2.2.2.2.2.1
theorem dX11_make_38 : decode cX11_make 38 = .ok (.dup, 1) := db_X11_make_26.2.2.2.2.2.2.1
theorem dX11_make_39 : decode cX11_make 39 = .ok (.ldc 62, 2) := db_X11_make_26.2.2.2.2.2.2.2.1
theorem dX11_make_41 : decode cX11_make 41 = .ok (.invokespecial 64, 3) := db_X11_make_26.2.2.2.2.2.2.2.2.1
theorem dX11_make_44 : decode cX11_make 44 = .ok (.athrow, 1) := db_X11_make_26.2.2.2.2.2.2.2.2.2.1
theorem dX11_make_45 : decode cX11_make 45 = .ok (.aload_n 0, 1) := db_X11_make_26.2.2.2.2.2.2.2.2.2.2.1
theorem dX11_make_46 : decode cX11_make 46 = .ok (.iload_n 1, 1) := db_X11_make_26.2.2.2.2.2.2.2.2.2.2.2.1
theorem dX11_make_47 : decode cX11_make 47 = .ok (.iload_n 2, 1) := db_X11_make_26.2.2.2.2.2.2.2.2.2.2.2.2.1
theorem dX11_make_48 : decode cX11_make 48 = .ok (.iload_n 3, 1) := db_X11_make_26.2.2.2.2.2.2.2.2.2.2.2.2.2.1
theorem dX11_make_49 : decode cX11_make 49 = .ok (.invokevirtual 56, 3) := db_X11_make_26.2.2.2.2.2.2.2.2.2.2.2.2.2.2.1
theorem dX11_make_52 : decode cX11_make 52 = .ok (.iload_n 2, 1) := db_X11_make_26.2.2.2.2.2.2.2.2.2.2.2.2.2.2.2
theorem db_X11_make_53 : decode cX11_make 53 = .ok (.iload_n 3, 1) ∧ decode cX11_make 54 = .ok (.imul, 1) ∧ decode cX11_make 55 = .ok (.ireturn, 1) := by decide +kernel
theorem dX11_make_53 : decode cX11_make 53 = .ok (.iload_n 3, 1) := db_X11_make_53.1
theorem dX11_make_54 : decode cX11_make 54 = .ok (.imul, 1) := db_X11_make_53.2.1
theorem dX11_make_55 : decode cX11_make 55 = .ok (.ireturn, 1) := db_X11_make_53.2.2
theorem db_X11_draft_0 : decode cX11_draft 0 = .ok (.iload_n 1, 1) ∧ decode cX11_draft 1 = .ok (.iconst 1, 1) ∧ decode cX11_draft 2 = .ok (.if_icmp .lt 20, 3) ∧ decode cX11_draft 5 = .ok (.iload_n 1, 1) ∧ decode cX11_draft 6 = .ok (.bipush 8, 2) ∧ decode cX11_draft 8 = .ok (.if_icmp .gt 14, 3) ∧ decode cX11_draft 11 = .ok (.aload_n 0, 1) ∧ decode cX11_draft 12 = .ok (.getfield 52, 3) ∧ decode cX11_draft 15 = .ok (.iload_n 1, 1) ∧ decode cX11_draft 16 = .ok (.iadd, 1) ∧ decode cX11_draft 17 = .ok (.bipush 60, 2) ∧ decode cX11_draft 19 = .ok (.if_icmp .le 13, 3) ∧ decode cX11_draft 22 = .ok (.new 60, 3) ∧ decode cX11_draft 25 = .ok (.dup, 1) ∧ decode cX11_draft 26 = .ok (.ldc 67, 2) ∧ decode cX11_draft 28 = .ok (.invokespecial 64, 3) := by decide +kernel
theorem dX11_draft_0 : decode cX11_draft 0 = .ok (.iload_n 1, 1) := db_X11_draft_0.1
theorem dX11_draft_1 : decode cX11_draft 1 = .ok (.iconst 1, 1) := db_X11_draft_0.2.1
theorem dX11_draft_2 : decode cX11_draft 2 = .ok (.if_icmp .lt 20, 3) := db_X11_draft_0.2.2.1
theorem dX11_draft_5 : decode cX11_draft 5 = .ok (.iload_n 1, 1) := db_X11_draft_0.2.2.2.1
theorem dX11_draft_6 : decode cX11_draft 6 = .ok (.bipush 8, 2) := db_X11_draft_0.2.2.2.2.1
theorem dX11_draft_8 : decode cX11_draft 8 = .ok (.if_icmp .gt 14, 3) := db_X11_draft_0.2.2.2.2.2.1
theorem dX11_draft_11 : decode cX11_draft 11 = .ok (.aload_n 0, 1) := db_X11_draft_0.2.2.2.2.2.2.1
theorem dX11_draft_12 : decode cX11_draft 12 = .ok (.getfield 52, 3) := db_X11_draft_0.2.2.2.2.2.2.2.1
theorem dX11_draft_15 : decode cX11_draft 15 = .ok (.iload_n 1, 1) := db_X11_draft_0.2.2.2.2.2.2.2.2.1
theorem dX11_draft_16 : decode cX11_draft 16 = .ok (.iadd, 1) := db_X11_draft_0.2.2.2.2.2.2.2.2.2.1
theorem dX11_draft_17 : decode cX11_draft 17 = .ok (.bipush 60, 2) := db_X11_draft_0.2.2.2.2.2.2.2.2.2.2.1
theorem dX11_draft_19 : decode cX11_draft 19 = .ok (.if_icmp .le 13, 3) := db_X11_draft_0.2.2.2.2.2.2.2.2.2.2.2.1
theorem dX11_draft_22 : decode cX11_draft 22 = .ok (.new 60, 3) := db_X11_draft_0.2.2.2.2.2.2.2.2.2.2.2.2.1
theorem dX11_draft_25 : decode cX11_draft 25 = .ok (.dup, 1) := db_X11_draft_0.2.2.2.2.2.2.2.2.2.2.2.2.2.1
theorem dX11_draft_26 : decode cX11_draft 26 = .ok (.ldc 67, 2) := db_X11_draft_0.2.2.2.2.2.2.2.2.2.2.2.2.2.2.1
theorem dX11_draft_28 : decode cX11_draft 28 = .ok (.invokespecial 64, 3) := db_X11_draft_0.2.2.2.2.2.2.2.2.2.2.2.2.2.2.2
theorem db_X11_draft_31 : decode cX11_draft 31 = .ok (.athrow, 1) ∧ decode cX11_draft 32 = .ok (.iconst 0, 1) ∧ decode cX11_draft 33 = .ok (.istore 4, 2) ∧ decode cX11_draft 35 = .ok (.iload 4, 2) ∧ decode cX11_draft 37 = .ok (.iload_n 1, 1) ∧ decode cX11_draft 38 = .ok (.if_icmp .ge 40, 3) ∧ decode cX11_draft 41 = .ok (.aload_n 0, 1) ∧ decode cX11_draft 42 = .ok (.getfield 48, 3) ∧ decode cX11_draft 45 = .ok (.aload_n 0, 1) ∧ decode cX11_draft 46 = .ok (.getfield 52, 3) ∧ decode cX11_draft 49 = .ok (.lload_n 2, 1) ∧ decode cX11_draft 50 = .ok (.bipush 8, 2) ∧ decode cX11_draft 52 = .ok (.iload 4, 2) ∧ decode cX11_draft 54 = .ok (.imul, 1) ∧ decode cX11_draft 55 = .ok (.lushr, 1) ∧ decode cX11_draft 56 = .ok (.l2i, 1) := by decide +kernel
theorem dX11_draft_31 : decode cX11_draft 31 = .ok (.athrow, 1) := db_X11_draft_31.1
theorem dX11_draft_32 : decode cX11_draft 32 = .ok (.iconst 0, 1) := db_X11_draft_31.2.1
theorem dX11_draft_33 : decode cX11_draft 33 = .ok (.istore 4, 2) := db_X11_draft_31.2.2.1
theorem dX11_draft_35 : decode cX11_draft 35 = .ok (.iload 4, 2) := db_X11_draft_31.2.2.2.1
theorem dX11_draft_37 : decode cX11_draft 37 = .ok (.iload_n 1, 1) := db_X11_draft_31.2.2.2.2.1
theorem dX11_draft_38 : decode cX11_draft 38 = .ok (.if_icmp .ge 40, 3) := db_X11_draft_31.2.2.2.2.2.1
theorem dX11_draft_41 : decode cX11_draft 41 = .ok (.aload_n 0, 1) := db_X11_draft_31.2.2.2.2.2.2.1
theorem dX11_draft_42 : decode cX11_draft 42 = .ok (.getfield 48, 3) := db_X11_draft_31.2.2.2.2.2.2.2.1
theorem dX11_draft_45 : decode cX11_draft 45 = .ok (.aload_n 0, 1) := db_X11_draft_31.2.2.2.2.2.2.2.2.1
theorem dX11_draft_46 : decode cX11_draft 46 = .ok (.getfield 52, 3) := db_X11_draft_31.2.2.2.2.2.2.2.2.2.1
theorem dX11_draft_49 : decode cX11_draft 49 = .ok (.lload_n 2, 1) := db_X11_draft_31.2.2.2.2.2.2.2.2.2.2.1
theorem dX11_draft_50 : decode cX11_draft 50 = .ok (.bipush 8, 2) := db_X11_draft_31.2.2.2.2.2.2.2.2.2.2.2.1
theorem dX11_draft_52 : decode cX11_draft 52 = .ok (.iload 4, 2) := db_X11_draft_31.2.2.2.2.2.2.2.2.2.2.2.2.1
theorem dX11_draft_54 : decode cX11_draft 54 = .ok (.imul, 1) := db_X11_draft_31.2.2.2.2.2.2.2.2.2.2.2.2.2.1
theorem dX11_draft_55 : decode cX11_draft 55 = .ok (.lushr, 1) := db_X11_draft_31.2.2.2.2.2.2.2.2.2.2.2.2.2.2.1
theorem dX11_draft_56 : decode cX11_draft 56 = .ok (.l2i, 1) := db_X11_draft_31.2.2.2.2.2.2.2.2.2.2.2.2.2.2.2
theorem db_X11_draft_57 : decode cX11_draft 57 = .ok (.sipush 255, 3) ∧ decode cX11_draft 60 = .ok (.iand, 1) ∧ decode cX11_draft 61 = .ok (.iastore, 1) ∧ decode cX11_draft 62 = .ok (.aload_n 0, 1) ∧ decode cX11_draft 63 = .ok (.dup, 1) ∧ decode cX11_draft 64 = .ok (.getfield 52, 3) ∧ decode cX11_draft 67 = .ok (.iconst 1, 1) ∧ decode cX11_draft 68 = .ok (.iadd, 1) ∧ decode cX11_draft 69 = .ok (.putfield 52, 3) ∧ decode cX11_draft 72 = .ok (.iinc 4 1, 3) ∧ decode cX11_draft 75 = .ok (.goto (-40), 3) ∧ decode cX11_draft 78 = .ok (.aload_n 0, 1) ∧ decode cX11_draft 79 = .ok (.getfield 52, 3) ∧ decode cX11_draft 82 = .ok (.ireturn, 1) := by decide +kernel
theorem dX11_draft_57 : decode cX11_draft 57 = .ok (.sipush 255, 3) := db_X11_draft_57.1
theorem dX11_draft_60 : decode cX11_draft 60 = .ok (.iand, 1) := db_X11_draft_57.2.1
theorem dX11_draft_61 : decode cX11_draft 61 = .ok (.iastore, 1) := db_X11_draft_57.2.2.1
theorem dX11_draft_62 : decode cX11_draft 62 = .ok (.aload_n 0, 1) := db_X11_draft_57.2.2.2.1
theorem dX11_draft_63 : decode cX11_draft 63 = .ok (.dup, 1) := db_X11_draft_57.2.2.2.2.1
theorem dX11_draft_64 : decode cX11_draft 64 = .ok (.getfield 52, 3) := db_X11_draft_57.2.2.2.2.2.1
theorem dX11_draft_67 : decode cX11_draft 67 = .ok (.iconst 1, 1) := db_X11_draft_57.2.2.2.2.2.2.1
theorem dX11_draft_68 : decode cX11_draft 68 = .ok (.iadd, 1) := db_X11_draft_57.2.2.2.2.2.2.2.1
theorem dX11_draft_69 : decode cX11_draft 69 = .ok (.putfield 52, 3) := db_X11_draft_57.2.2.2.2.2.2.2.2.1
theorem dX11_draft_72 : decode cX11_draft 72 = .ok (.iinc 4 1, 3) := db_X11_draft_57.2.2.2.2.2.2.2.2.2.1
theorem dX11_draft_75 : decode cX11_draft 75 = .ok (.goto (-40), 3) := db_X11_draft_57.2.2.2.2.2.2.2.2.2.2.1
theorem dX11_draft_78 : decode cX11_draft 78 = .ok (.aload_n 0, 1) := db_X11_draft_57.2.2.2.2.2.2.2.2.2.2.2.1
theorem dX11_draft_79 : decode cX11_draft 79 = .ok (.getfield 52, 3) := db_X11_draft_57.2.2.2.2.2.2.2.2.2.2.2.2.1
theorem dX11_draft_82 : decode cX11_draft 82 = .ok (.ireturn, 1) := db_X11_draft_57.2.2.2.2.2.2.2.2.2.2.2.2.2
theorem db_X11_put_0 : decode cX11_put 0 = .ok (.aload_n 0, 1) ∧ decode cX11_put 1 = .ok (.iload_n 1, 1) ∧ decode cX11_put 2 = .ok (.invokevirtual 69, 3) ∧ decode cX11_put 5 = .ok (.aload_n 0, 1) ∧ decode cX11_put 6 = .ok (.iload_n 2, 1) ∧ decode cX11_put 7 = .ok (.invokevirtual 73, 3) ∧ decode cX11_put 10 = .ok (.aload_n 0, 1) ∧ decode cX11_put 11 = .ok (.invokevirtual 76, 3) ∧ decode cX11_put 14 = .ok (.ifCond .ne 13, 3) ∧ decode cX11_put 27 = .ok (.aload_n 0, 1) ∧ decode cX11_put 28 = .ok (.iload_n 1, 1) ∧ decode cX11_put 29 = .ok (.invokevirtual 82, 3) ∧ decode cX11_put 32 = .ok (.aload_n 0, 1) ∧ decode cX11_put 33 = .ok (.getfield 48, 3) ∧ decode cX11_put 36 = .ok (.aload_n 0, 1) ∧ decode cX11_put 37 = .ok (.getfield 52, 3) := by decide +kernel
theorem dX11_put_0 : decode cX11_put 0 = .ok (.aload_n 0, 1) := db_X11_put_0.1
theorem dX11_put_1 : decode cX11_put 1 = .ok (.iload_n 1, 1) := db_X11_put_0.2.1
theorem dX11_put_2 : decode cX11_put 2 = .ok (.invokevirtual 69, 3) := db_X11_put_0.2.2.1
theorem dX11_put_5 : decode cX11_put 5 = .ok (.aload_n 0, 1) := db_X11_put_0.2.2.2.1
theorem dX11_put_6 : decode cX11_put 6 = .ok (.iload_n 2, 1) := db_X11_put_0.2.2.2.2.1
theorem dX11_put_7 : decode cX11_put 7 = .ok (.invokevirtual 73, 3) := db_X11_put_0.2.2.2.2.2.1
theorem dX11_put_10 : decode cX11_put 10 = .ok (.aload_n 0, 1) := db_X11_put_0.2.2.2.2.2.2.1
theorem dX11_put_11 : decode cX11_put 11 = .ok (.invokevirtual 76, 3) := db_X11_put_0.2.2.2.2.2.2.2.1
theorem dX11_put_14 : decode cX11_put 14 = .ok (.ifCond .ne 13, 3) := db_X11_put_0.2.2.2.2.2.2.2.2.1
theorem dX11_put_27 : decode cX11_put 27 = .ok (.aload_n 0, 1) := db_X11_put_0.2.2.2.2.2.2.2.2.2.1
theorem dX11_put_28 : decode cX11_put 28 = .ok (.iload_n 1, 1) := db_X11_put_0.2.2.2.2.2.2.2.2.2.2.1
theorem dX11_put_29 : decode cX11_put 29 = .ok (.invokevirtual 82, 3) := db_X11_put_0.2.2.2.2.2.2.2.2.2.2.2.1
theorem dX11_put_32 : decode cX11_put 32 = .ok (.aload_n 0, 1) := db_X11_put_0.2.2.2.2.2.2.2.2.2.2.2.2.1
theorem dX11_put_33 : decode cX11_put 33 = .ok (.getfield 48, 3) := db_X11_put_0.2.2.2.2.2.2.2.2.2.2.2.2.2.1
theorem dX11_put_36 : decode cX11_put 36 = .ok (.aload_n 0, 1) := db_X11_put_0.2.2.2.2.2.2.2.2.2.2.2.2.2.2.1
theorem dX11_put_37 : decode cX11_put 37 = .ok (.getfield 52, 3) := db_X11_put_0.2.2.2.2.2.2.2.2.2.2.2.2.2.2.2
theorem db_X11_put_40 : decode cX11_put 40 = .ok (.invokestatic 85, 3) ∧ decode cX11_put 43 = .ok (.astore_n 3, 1) ∧ decode cX11_put 44 = .ok (.aload_n 0, 1) ∧ decode cX11_put 45 = .ok (.iconst 0, 1) ∧ decode cX11_put 46 = .ok (.putfield 52, 3) ∧ decode cX11_put 49 = .ok (.aload_n 0, 1) ∧ decode cX11_put 50 = .ok (.iconst 0, 1) ∧ decode cX11_put 51 = .ok (.iload_n 1, 1) ∧ decode cX11_put 52 = .ok (.iload_n 2, 1) ∧ decode cX11_put 53 = .ok (.aload_n 3, 1) ∧ decode cX11_put 54 = .ok (.aconst_null, 1) ∧ decode cX11_put 55 = .ok (.invokevirtual 91, 3) ∧ decode cX11_put 58 = .ok (.ireturn, 1) := by decide +kernel
theorem dX11_put_40 : decode cX11_put 40 = .ok (.invokestatic 85, 3) := db_X11_put_40.1
theorem dX11_put_43 : decode cX11_put 43 = .ok (.astore_n 3, 1) := db_X11_put_40.2.1
theorem dX11_put_44 : decode cX11_put 44 = .ok (.aload_n 0, 1) := db_X11_put_40.2.2.1
theorem dX11_put_45 : decode cX11_put 45 = .ok (.iconst 0, 1) := db_X11_put_40.2.2.2.1
theorem dX11_put_46 : decode cX11_put 46 = .ok (.putfield 52, 3) := db_X11_put_40.2.2.2.2.1
theorem dX11_put_49 : decode cX11_put 49 = .ok (.aload_n 0, 1) := db_X11_put_40.2.2.2.2.2.1
theorem dX11_put_50 : decode cX11_put 50 = .ok (.iconst 0, 1) := db_X11_put_40.2.2.2.2.2.2.1
theorem dX11_put_51 : decode cX11_put 51 = .ok (.iload_n 1, 1) := db_X11_put_40.2.2.2.2.2.2.2.1
theorem dX11_put_52 : decode cX11_put 52 = .ok (.iload_n 2, 1) := db_X11_put_40.2.2.2.2.2.2.2.2.1
theorem dX11_put_53 : decode cX11_put 53 = .ok (.aload_n 3, 1) := db_X11_put_40.2.2.2.2.2.2.2.2.2.1
theorem dX11_put_54 : decode cX11_put 54 = .ok (.aconst_null, 1) := db_X11_put_40.2.2.2.2.2.2.2.2.2.2.1
theorem dX11_put_55 : decode cX11_put 55 = .ok (.invokevirtual 91, 3) := db_X11_put_40.2.2.2.2.2.2.2.2.2.2.2.1
theorem dX11_put_58 : decode cX11_put 58 = .ok (.ireturn, 1) := db_X11_put_40.2.2.2.2.2.2.2.2.2.2.2.2
theorem db_X11_drop_0 : decode cX11_drop 0 = .ok (.aload_n 0, 1) ∧ decode cX11_drop 1 = .ok (.iload_n 1, 1) ∧ decode cX11_drop 2 = .ok (.invokevirtual 69, 3) ∧ decode cX11_drop 5 = .ok (.aload_n 0, 1) ∧ decode cX11_drop 6 = .ok (.iload_n 2, 1) ∧ decode cX11_drop 7 = .ok (.invokevirtual 73, 3) ∧ decode cX11_drop 10 = .ok (.aload_n 0, 1) ∧ decode cX11_drop 11 = .ok (.iload_n 1, 1) ∧ decode cX11_drop 12 = .ok (.invokevirtual 82, 3) ∧ decode cX11_drop 15 = .ok (.aload_n 0, 1) ∧ decode cX11_drop 16 = .ok (.iconst 1, 1) ∧ decode cX11_drop 17 = .ok (.iload_n 1, 1) ∧ decode cX11_drop 18 = .ok (.iload_n 2, 1) ∧ decode cX11_drop 19 = .ok (.getstatic 95, 3) ∧ decode cX11_drop 22 = .ok (.aconst_null, 1) ∧ decode cX11_drop 23 = .ok (.invokevirtual 91, 3) := by decide +kernel
theorem dX11_drop_0 : decode cX11_drop 0 = .ok (.aload_n 0, 1) := db_X11_drop_0.1
theorem dX11_drop_1 : decode cX11_drop 1 = .ok (.iload_n 1, 1) := db_X11_drop_0.2.1
theorem dX11_drop_2 : decode cX11_drop 2 = .ok (.invokevirtual 69, 3) := db_X11_drop_0.2.2.1
theorem dX11_drop_5 : decode cX11_drop 5 = .ok (.aload_n 0, 1) := db_X11_drop_0.2.2.2.1
theorem dX11_drop_6 : decode cX11_drop 6 = .ok (.iload_n 2, 1) := db_X11_drop_0.2.2.2.2.1
theorem dX11_drop_7 : decode cX11_drop 7 = .ok (.invokevirtual 73, 3) := db_X11_drop_0.2.2.2.2.2.1
theorem dX11_drop_10 : decode cX11_drop 10 = .ok (.aload_n 0, 1) := db_X11_drop_0.2.2.2.2.2.2.1
theorem dX11_drop_11 : decode cX11_drop 11 = .ok (.iload_n 1, 1) := db_X11_drop_0.2.2.2.2.2.2.2.1
theorem dX11_drop_12 : decode cX11_drop 12 = .ok (.invokevirtual 82, 3) := db_X11_drop_0.2.2.2.2.2.2.2.2.1
theorem dX11_drop_15 : decode cX11_drop 15 = .ok (.aload_n 0, 1) := db_X11_drop_0.2.2.2.2.2.2.2.2.2.1
theorem dX11_drop_16 : decode cX11_drop 16 = .ok (.iconst 1, 1) := db_X11_drop_0.2.2.2.2.2.2.2.2.2.2.1
theorem dX11_drop_17 : decode cX11_drop 17 = .ok (.iload_n 1, 1) := db_X11_drop_0.2.2.2.2.2.2.2.2.2.2.2.1
theorem dX11_drop_18 : decode cX11_drop 18 = .ok (.iload_n 2, 1) := db_X11_drop_0.2.2.2.2.2.2.2.2.2.2.2.2.1
theorem dX11_drop_19 : decode cX11_drop 19 = .ok (.getstatic 95, 3) := db_X11_drop_0.2.2.2.2.2.2.2.2.2.2.2.2.2.1
theorem dX11_drop_22 : decode cX11_drop 22 = .ok (.aconst_null, 1) := db_X11_drop_0.2.2.2.2.2.2.2.2.2.2.2.2.2.2.1
theorem dX11_drop_23 : decode cX11_drop 23 = .ok (.invokevirtual 91, 3) := db_X11_drop_0.2.2.2.2.2.2.2.2.2.2.2.2.2.2.2
theorem dX11_drop_26 : decode cX11_drop 26 = .ok (.ireturn, 1) := by decide +kernel
theorem db_X11_refresh_0 : decode cX11_refresh 0 = .ok (.aload_n 0, 1) ∧ decode cX11_refresh 1 = .ok (.iload_n 1, 1) ∧ decode cX11_refresh 2 = .ok (.invokevirtual 69, 3) ∧ decode cX11_refresh 5 = .ok (.aload_n 0, 1) ∧ decode cX11_refresh 6 = .ok (.iload_n 2, 1) ∧ decode cX11_refresh 7 = .ok (.invokevirtual 98, 3) ∧ decode cX11_refresh 10 = .ok (.aload_n 0, 1) ∧ decode cX11_refresh 11 = .ok (.iload_n 1, 1) ∧ decode cX11_refresh 12 = .ok (.invokevirtual 82, 3) ∧ decode cX11_refresh 15 = .ok (.aload_n 0, 1) ∧ decode cX11_refresh 16 = .ok (.iconst 2, 1) ∧ decode cX11_refresh 17 = .ok (.iload_n 1, 1) ∧ decode cX11_refresh 18 = .ok (.iload_n 2, 1) ∧ decode cX11_refresh 19 = .ok (.getstatic 95, 3) ∧ decode cX11_refresh 22 = .ok (.aconst_null, 1) ∧ decode cX11_refresh 23 = .ok (.invokevirtual 91, 3) := by decide +kernel
theorem dX11_refresh_0 : decode cX11_refresh 0 = .ok (.aload_n 0, 1) := db_X11_refresh_0.1
theorem dX11_refresh_1 : decode cX11_refresh 1 = .ok (.iload_n 1, 1) := db_X11_refresh_0.2.1
theorem dX11_refresh_2 : decode cX11_refresh 2 = .ok (.invokevirtual 69, 3) := db_X11_refresh_0.2.2.1
theorem dX11_refresh_5 : decode cX11_refresh 5 = .ok (.aload_n 0, 1) := db_X11_refresh_0.2.2.2.1
theorem dX11_refresh_6 : decode cX11_refresh 6 = .ok (.iload_n 2, 1) := db_X11_refresh_0.2.2.2.2.1
theorem dX11_refresh_7 : decode cX11_refresh 7 = .ok (.invokevirtual 98, 3) := db_X11_refresh_0.2.2.2.2.2.1
theorem dX11_refresh_10 : decode cX11_refresh 10 = .ok (.aload_n 0, 1) := db_X11_refresh_0.2.2.2.2.2.2.1
theorem dX11_refresh_11 : decode cX11_refresh 11 = .ok (.iload_n 1, 1) := db_X11_refresh_0.2.2.2.2.2.2.2.1
theorem dX11_refresh_12 : decode cX11_refresh 12 = .ok (.invokevirtual 82, 3) := db_X11_refresh_0.2.2.2.2.2.2.2.2.1
theorem dX11_refresh_15 : decode cX11_refresh 15 = .ok (.aload_n 0, 1) := db_X11_refresh_0.2.2.2.2.2.2.2.2.2.1
theorem dX11_refresh_16 : decode cX11_refresh 16 = .ok (.iconst 2, 1) := db_X11_refresh_0.2.2.2.2.2.2.2.2.2.2.1
theorem dX11_refresh_17 : decode cX11_refresh 17 = .ok (.iload_n 1, 1) := db_X11_refresh_0.2.2.2.2.2.2.2.2.2.2.2.1
theorem dX11_refresh_18 : decode cX11_refresh 18 = .ok (.iload_n 2, 1) := db_X11_refresh_0.2.2.2.2.2.2.2.2.2.2.2.2.1
theorem dX11_refresh_19 : decode cX11_refresh 19 = .ok (.getstatic 95, 3) := db_X11_refresh_0.2.2.2.2.2.2.2.2.2.2.2.2.2.1
theorem dX11_refresh_22 : decode cX11_refresh 22 = .ok (.aconst_null, 1) := db_X11_refresh_0.2.2.2.2.2.2.2.2.2.2.2.2.2.2.1
theorem dX11_refresh_23 : decode cX11_refresh 23 = .ok (.invokevirtual 91, 3) := db_X11_refresh_0.2.2.2.2.2.2.2.2.2.2.2.2.2.2.2
theorem dX11_refresh_26 : decode cX11_refresh 26 = .ok (.ireturn, 1) := by decide +kernel
theorem db_X11_find_0 : decode cX11_find 0 = .ok (.aload_n 0, 1) ∧ decode cX11_find 1 = .ok (.iload_n 1, 1) ∧ decode cX11_find 2 = .ok (.invokevirtual 69, 3) ∧ decode cX11_find 5 = .ok (.iload_n 2, 1) ∧ decode cX11_find 6 = .ok (.iconst 1, 1) ∧ decode cX11_find 7 = .ok (.if_icmp .lt 9, 3) ∧ decode cX11_find 10 = .ok (.iload_n 2, 1) ∧ decode cX11_find 11 = .ok (.bipush 10, 2) ∧ decode cX11_find 13 = .ok (.if_icmp .le 13, 3) ∧ decode cX11_find 16 = .ok (.new 60, 3) ∧ decode cX11_find 19 = .ok (.dup, 1) ∧ decode cX11_find 20 = .ok (.ldc 101, 2) ∧ decode cX11_find 22 = .ok (.invokespecial 64, 3) ∧ decode cX11_find 25 = .ok (.athrow, 1) ∧ decode cX11_find 26 = .ok (.aload_n 0, 1) ∧ decode cX11_find 27 = .ok (.iload_n 1, 1) := by decide +kernel
theorem dX11_find_0 : decode cX11_find 0 = .ok (.aload_n 0, 1) := db_X11_find_0.1
theorem dX11_find_1 : decode cX11_find 1 = .ok (.iload_n 1, 1) := db_X11_find_0.2.1
theorem dX11_find_2 : decode cX11_find 2 = .ok (.invokevirtual 69, 3) := db_X11_find_0.2.2.1
theorem dX11_find_5 : decode cX11_find 5 = .ok (.iload_n 2, 1) := db_X11_find_0.2.2.2.1
theorem dX11_find_6 : decode cX11_find 6 = .ok (.iconst 1, 1) := db_X11_find_0.2.2.2.2.1
theorem dX11_find_7 : decode cX11_find 7 = .ok (.if_icmp .lt 9, 3) := db_X11_find_0.2.2.2.2.2.1
theorem dX11_find_10 : decode cX11_find 10 = .ok (.iload_n 2, 1) := db_X11_find_0.2.2.2.2.2.2.1
theorem dX11_find_11 : decode cX11_find 11 = .ok (.bipush 10, 2) := db_X11_find_0.2.2.2.2.2.2.2.1
theorem dX11_find_13 : decode cX11_find 13 = .ok (.if_icmp .le 13, 3) := db_X11_find_0.2.2.2.2.2.2.2.2.1
theorem dX11_find_16 : decode cX11_find 16 = .ok (.new 60, 3) := db_X11_find_0.2.2.2.2.2.2.2.2.2.1
theorem dX11_find_19 : decode cX11_find 19 = .ok (.dup, 1) := db_X11_find_0.2.2.2.2.2.2.2.2.2.2.1
theorem dX11_find_20 : decode cX11_find 20 = .ok (.ldc 101, 2) := db_X11_find_0.2.2.2.2.2.2.2.2.2.2.2.1
theorem dX11_find_22 : decode cX11_find 22 = .ok (.invokespecial 64, 3) := db_X11_find_0.2.2.2.2.2.2.2.2.2.2.2.2.1
theorem dX11_find_25 : decode cX11_find 25 = .ok (.athrow, 1) := db_X11_find_0.2.2.2.2.2.2.2.2.2.2.2.2.2.1
theorem dX11_find_26 : decode cX11_find 26 = .ok (.aload_n 0, 1) := db_X11_find_0.2.2.2.2.2.2.2.2.2.2.2.2.2.2.1
theorem dX11_find_27 : decode cX11_find 27 = .ok (.iload_n 1, 1) := db_X11_find_0.2.2.2.2.2.2.2.2.2.2.2.2.2.2.2
theorem db_X11_find_28 : decode cX11_find 28 = .ok (.invokevirtual 82, 3) ∧ decode cX11_find 31 = .ok (.new 103, 3) ∧ decode cX11_find 34 = .ok (.dup, 1) ∧ decode cX11_find 35 = .ok (.invokespecial 105, 3) ∧ decode cX11_find 38 = .ok (.astore_n 3, 1) ∧ decode cX11_find 39 = .ok (.aload_n 3, 1) ∧ decode cX11_find 40 = .ok (.aload_n 0, 1) ∧ decode cX11_find 41 = .ok (.getfield 48, 3) ∧ decode cX11_find 44 = .ok (.aload_n 0, 1) ∧ decode cX11_find 45 = .ok (.getfield 52, 3) ∧ decode cX11_find 48 = .ok (.invokevirtual 106, 3) ∧ decode cX11_find 51 = .ok (.istore 4, 2) ∧ decode cX11_find 53 = .ok (.aload_n 0, 1) ∧ decode cX11_find 54 = .ok (.iconst 0, 1) ∧ decode cX11_find 55 = .ok (.putfield 52, 3) ∧ decode cX11_find 58 = .ok (.iload 4, 2) := by decide +kernel
theorem dX11_find_28 : decode cX11_find 28 = .ok (.invokevirtual 82, 3) := db_X11_find_28.1
theorem dX11_find_31 : decode cX11_find 31 = .ok (.new 103, 3) := db_X11_find_28.2.1
theorem dX11_find_34 : decode cX11_find 34 = .ok (.dup, 1) := db_X11_find_28.2.2.1
theorem dX11_find_35 : decode cX11_find 35 = .ok (.invokespecial 105, 3) := db_X11_find_28.2.2.2.1
theorem dX11_find_38 : decode cX11_find 38 = .ok (.astore_n 3, 1) := db_X11_find_28.2.2.2.2.1
theorem dX11_find_39 : decode cX11_find 39 = .ok (.aload_n 3, 1) := db_X11_find_28.2.2.2.2.2.1
theorem dX11_find_40 : decode cX11_find 40 = .ok (.aload_n 0, 1) := db_X11_find_28.2.2.2.2.2.2.1
theorem dX11_find_41 : decode cX11_find 41 = .ok (.getfield 48, 3) := db_X11_find_28.2.2.2.2.2.2.2.1
theorem dX11_find_44 : decode cX11_find 44 = .ok (.aload_n 0, 1) := db_X11_find_28.2.2.2.2.2.2.2.2.1
theorem dX11_find_45 : decode cX11_find 45 = .ok (.getfield 52, 3) := db_X11_find_28.2.2.2.2.2.2.2.2.2.1
theorem dX11_find_48 : decode cX11_find 48 = .ok (.invokevirtual 106, 3) := db_X11_find_28.2.2.2.2.2.2.2.2.2.2.1
theorem dX11_find_51 : decode cX11_find 51 = .ok (.istore 4, 2) := db_X11_find_28.2.2.2.2.2.2.2.2.2.2.2.1
theorem dX11_find_53 : decode cX11_find 53 = .ok (.aload_n 0, 1) := db_X11_find_28.2.2.2.2.2.2.2.2.2.2.2.2.1
theorem dX11_find_54 : decode cX11_find 54 = .ok (.iconst 0, 1) := db_X11_find_28.2.2.2.2.2.2.2.2.2.2.2.2.2.1
theorem dX11_find_55 : decode cX11_find 55 = .ok (.putfield 52, 3) := db_X11_find_28.2.2.2.2.2.2.2.2.2.2.2.2.2.2.1
theorem dX11_find_58 : decode cX11_find 58 = .ok (.iload 4, 2) := db_X11_find_28.2.2.2.2.2.2.2.2.2.2.2.2.2.2.2
theorem db_X11_find_60 : decode cX11_find 60 = .ok (.ifCond .ge 6, 3) ∧ decode cX11_find 63 = .ok (.iload 4, 2) ∧ decode cX11_find 65 = .ok (.ireturn, 1) := by decide +kernel
theorem dX11_find_60 : decode cX11_find 60 = .ok (.ifCond .ge 6, 3) := db_X11_find_60.1
theorem dX11_find_63 : decode cX11_find 63 = .ok (.iload 4, 2) := db_X11_find_60.2.1
theorem dX11_find_65 : decode cX11_find 65 = .ok (.ireturn, 1) := db_X11_find_60.2.2
theorem db_X11_request_0 : decode cX11_request 0 = .ok (.aload_n 0, 1) ∧ decode cX11_request 1 = .ok (.getfield 12, 3) ∧ decode cX11_request 4 = .ok (.iload_n 1, 1) ∧ decode cX11_request 5 = .ok (.invokevirtual 110, 3) ∧ decode cX11_request 8 = .ok (.astore_n 3, 1) ∧ decode cX11_request 9 = .ok (.aload_n 3, 1) ∧ decode cX11_request 10 = .ok (.ifnull 12, 3) ∧ decode cX11_request 22 = .ok (.new 114, 3) ∧ decode cX11_request 25 = .ok (.dup, 1) ∧ decode cX11_request 26 = .ok (.ldc 116, 2) ∧ decode cX11_request 28 = .ok (.invokespecial 118, 3) ∧ decode cX11_request 31 = .ok (.athrow, 1) := by decide +kernel
theorem dX11_request_0 : decode cX11_request 0 = .ok (.aload_n 0, 1) := db_X11_request_0.1
theorem dX11_request_1 : decode cX11_request 1 = .ok (.getfield 12, 3) := db_X11_request_0.2.1
theorem dX11_request_4 : decode cX11_request 4 = .ok (.iload_n 1, 1) := db_X11_request_0.2.2.1
theorem dX11_request_5 : decode cX11_request 5 = .ok (.invokevirtual 110, 3) := db_X11_request_0.2.2.2.1
theorem dX11_request_8 : decode cX11_request 8 = .ok (.astore_n 3, 1) := db_X11_request_0.2.2.2.2.1
theorem dX11_request_9 : decode cX11_request 9 = .ok (.aload_n 3, 1) := db_X11_request_0.2.2.2.2.2.1
theorem dX11_request_10 : decode cX11_request 10 = .ok (.ifnull 12, 3) := db_X11_request_0.2.2.2.2.2.2.1
theorem dX11_request_22 : decode cX11_request 22 = .ok (.new 114, 3) := db_X11_request_0.2.2.2.2.2.2.2.1
theorem dX11_request_25 : decode cX11_request 25 = .ok (.dup, 1) := db_X11_request_0.2.2.2.2.2.2.2.2.1
theorem dX11_request_26 : decode cX11_request 26 = .ok (.ldc 116, 2) := db_X11_request_0.2.2.2.2.2.2.2.2.2.1
theorem dX11_request_28 : decode cX11_request 28 = .ok (.invokespecial 118, 3) := db_X11_request_0.2.2.2.2.2.2.2.2.2.2.1
theorem dX11_request_31 : decode cX11_request 31 = .ok (.athrow, 1) := db_X11_request_0.2.2.2.2.2.2.2.2.2.2.2
theorem db_X11_hit_0 : decode cX11_hit 0 = .ok (.aload_n 0, 1) ∧ decode cX11_hit 1 = .ok (.getfield 12, 3) ∧ decode cX11_hit 4 = .ok (.iload_n 1, 1) ∧ decode cX11_hit 5 = .ok (.invokevirtual 110, 3) ∧ decode cX11_hit 8 = .ok (.astore 4, 2) ∧ decode cX11_hit 10 = .ok (.aload 4, 2) ∧ decode cX11_hit 12 = .ok (.ifnull 25, 3) ∧ decode cX11_hit 37 = .ok (.new 114, 3) ∧ decode cX11_hit 40 = .ok (.dup, 1) ∧ decode cX11_hit 41 = .ok (.ldc 140, 2) ∧ decode cX11_hit 43 = .ok (.invokespecial 118, 3) ∧ decode cX11_hit 46 = .ok (.athrow, 1) := by decide +kernel
theorem dX11_hit_0 : decode cX11_hit 0 = .ok (.aload_n 0, 1) := db_X11_hit_0.1
theorem dX11_hit_1 : decode cX11_hit 1 = .ok (.getfield 12, 3) := db_X11_hit_0.2.1
theorem dX11_hit_4 : decode cX11_hit 4 = .ok (.iload_n 1, 1) := db_X11_hit_0.2.2.1
theorem dX11_hit_5 : decode cX11_hit 5 = .ok (.invokevirtual 110, 3) := db_X11_hit_0.2.2.2.1
theorem dX11_hit_8 : decode cX11_hit 8 = .ok (.astore 4, 2) := db_X11_hit_0.2.2.2.2.1
theorem dX11_hit_10 : decode cX11_hit 10 = .ok (.aload 4, 2) := db_X11_hit_0.2.2.2.2.2.1
theorem dX11_hit_12 : decode cX11_hit 12 = .ok (.ifnull 25, 3) := db_X11_hit_0.2.2.2.2.2.2.1
theorem dX11_hit_37 : decode cX11_hit 37 = .ok (.new 114, 3) := db_X11_hit_0.2.2.2.2.2.2.2.1
theorem dX11_hit_40 : decode cX11_hit 40 = .ok (.dup, 1) := db_X11_hit_0.2.2.2.2.2.2.2.2.1
theorem dX11_hit_41 : decode cX11_hit 41 = .ok (.ldc 140, 2) := db_X11_hit_0.2.2.2.2.2.2.2.2.2.1
theorem dX11_hit_43 : decode cX11_hit 43 = .ok (.invokespecial 118, 3) := db_X11_hit_0.2.2.2.2.2.2.2.2.2.2.1
theorem dX11_hit_46 : decode cX11_hit 46 = .ok (.athrow, 1) := db_X11_hit_0.2.2.2.2.2.2.2.2.2.2.2
theorem db_X11_link_0 : decode cX11_link 0 = .ok (.aload_n 0, 1) ∧ decode cX11_link 1 = .ok (.iload_n 1, 1) ∧ decode cX11_link 2 = .ok (.iload_n 2, 1) ∧ decode cX11_link 3 = .ok (.invokevirtual 145, 3) ∧ decode cX11_link 6 = .ok (.aload_n 0, 1) ∧ decode cX11_link 7 = .ok (.getfield 12, 3) ∧ decode cX11_link 10 = .ok (.getfield 149, 3) ∧ decode cX11_link 13 = .ok (.aload_n 0, 1) ∧ decode cX11_link 14 = .ok (.getfield 12, 3) ∧ decode cX11_link 17 = .ok (.iload_n 1, 1) ∧ decode cX11_link 18 = .ok (.iload_n 2, 1) ∧ decode cX11_link 19 = .ok (.invokevirtual 152, 3) ∧ decode cX11_link 22 = .ok (.iaload, 1) ∧ decode cX11_link 23 = .ok (.ireturn, 1) := by decide +kernel
theorem dX11_link_0 : decode cX11_link 0 = .ok (.aload_n 0, 1) := db_X11_link_0.1
theorem dX11_link_1 : decode cX11_link 1 = .ok (.iload_n 1, 1) := db_X11_link_0.2.1
theorem dX11_link_2 : decode cX11_link 2 = .ok (.iload_n 2, 1) := db_X11_link_0.2.2.1
theorem dX11_link_3 : decode cX11_link 3 = .ok (.invokevirtual 145, 3) := db_X11_link_0.2.2.2.1
theorem dX11_link_6 : decode cX11_link 6 = .ok (.aload_n 0, 1) := db_X11_link_0.2.2.2.2.1
theorem dX11_link_7 : decode cX11_link 7 = .ok (.getfield 12, 3) := db_X11_link_0.2.2.2.2.2.1
theorem dX11_link_10 : decode cX11_link 10 = .ok (.getfield 149, 3) := db_X11_link_0.2.2.2.2.2.2.1
theorem dX11_link_13 : decode cX11_link 13 = .ok (.aload_n 0, 1) := db_X11_link_0.2.2.2.2.2.2.2.1
theorem dX11_link_14 : decode cX11_link 14 = .ok (.getfield 12, 3) := db_X11_link_0.2.2.2.2.2.2.2.2.1
theorem dX11_link_17 : decode cX11_link 17 = .ok (.iload_n 1, 1) := db_X11_link_0.2.2.2.2.2.2.2.2.2.1
theorem dX11_link_18 : decode cX11_link 18 = .ok (.iload_n 2, 1) := db_X11_link_0.2.2.2.2.2.2.2.2.2.2.1
theorem dX11_link_19 : decode cX11_link 19 = .ok (.invokevirtual 152, 3) := db_X11_link_0.2.2.2.2.2.2.2.2.2.2.2.1
theorem dX11_link_22 : decode cX11_link 22 = .ok (.iaload, 1) := db_X11_link_0.2.2.2.2.2.2.2.2.2.2.2.2.1
theorem dX11_link_23 : decode cX11_link 23 = .ok (.ireturn, 1) := db_X11_link_0.2.2.2.2.2.2.2.2.2.2.2.2.2
theorem db_X11_message_0 : decode cX11_message 0 = .ok (.aload_n 0, 1) ∧ decode cX11_message 1 = .ok (.getfield 12, 3) ∧ decode cX11_message 4 = .ok (.iload_n 1, 1) ∧ decode cX11_message 5 = .ok (.iload_n 2, 1) ∧ decode cX11_message 6 = .ok (.iload_n 3, 1) ∧ decode cX11_message 7 = .ok (.invokevirtual 156, 3) ∧ decode cX11_message 10 = .ok (.astore 5, 2) ∧ decode cX11_message 12 = .ok (.aload 5, 2) ∧ decode cX11_message 14 = .ok (.ifnull 14, 3) ∧ decode cX11_message 28 = .ok (.new 114, 3) ∧ decode cX11_message 31 = .ok (.dup, 1) ∧ decode cX11_message 32 = .ok (.ldc 160, 2) ∧ decode cX11_message 34 = .ok (.invokespecial 118, 3) ∧ decode cX11_message 37 = .ok (.athrow, 1) := by decide +kernel
theorem dX11_message_0 : decode cX11_message 0 = .ok (.aload_n 0, 1) := db_X11_message_0.1
theorem dX11_message_1 : decode cX11_message 1 = .ok (.getfield 12, 3) := db_X11_message_0.2.1
theorem dX11_message_4 : decode cX11_message 4 = .ok (.iload_n 1, 1) := db_X11_message_0.2.2.1
theorem dX11_message_5 : decode cX11_message 5 = .ok (.iload_n 2, 1) := db_X11_message_0.2.2.2.1
theorem dX11_message_6 : decode cX11_message 6 = .ok (.iload_n 3, 1) := db_X11_message_0.2.2.2.2.1
theorem dX11_message_7 : decode cX11_message 7 = .ok (.invokevirtual 156, 3) := db_X11_message_0.2.2.2.2.2.1
theorem dX11_message_10 : decode cX11_message 10 = .ok (.astore 5, 2) := db_X11_message_0.2.2.2.2.2.2.1
theorem dX11_message_12 : decode cX11_message 12 = .ok (.aload 5, 2) := db_X11_message_0.2.2.2.2.2.2.2.1
theorem dX11_message_14 : decode cX11_message 14 = .ok (.ifnull 14, 3) := db_X11_message_0.2.2.2.2.2.2.2.2.1
theorem dX11_message_28 : decode cX11_message 28 = .ok (.new 114, 3) := db_X11_message_0.2.2.2.2.2.2.2.2.2.1
theorem dX11_message_31 : decode cX11_message 31 = .ok (.dup, 1) := db_X11_message_0.2.2.2.2.2.2.2.2.2.2.1
theorem dX11_message_32 : decode cX11_message 32 = .ok (.ldc 160, 2) := db_X11_message_0.2.2.2.2.2.2.2.2.2.2.2.1
theorem dX11_message_34 : decode cX11_message 34 = .ok (.invokespecial 118, 3) := db_X11_message_0.2.2.2.2.2.2.2.2.2.2.2.2.1
theorem dX11_message_37 : decode cX11_message 37 = .ok (.athrow, 1) := db_X11_message_0.2.2.2.2.2.2.2.2.2.2.2.2.2
theorem db_X11_deliver_0 : decode cX11_deliver 0 = .ok (.aload_n 0, 1) ∧ decode cX11_deliver 1 = .ok (.iload_n 1, 1) ∧ decode cX11_deliver 2 = .ok (.iload_n 2, 1) ∧ decode cX11_deliver 3 = .ok (.invokevirtual 145, 3) ∧ decode cX11_deliver 6 = .ok (.aload_n 0, 1) ∧ decode cX11_deliver 7 = .ok (.iload_n 1, 1) ∧ decode cX11_deliver 8 = .ok (.iload_n 2, 1) ∧ decode cX11_deliver 9 = .ok (.invokevirtual 168, 3) ∧ decode cX11_deliver 12 = .ok (.ireturn, 1) := by decide +kernel
theorem dX11_deliver_0 : decode cX11_deliver 0 = .ok (.aload_n 0, 1) := db_X11_deliver_0.1
theorem dX11_deliver_1 : decode cX11_deliver 1 = .ok (.iload_n 1, 1) := db_X11_deliver_0.2.1
theorem dX11_deliver_2 : decode cX11_deliver 2 = .ok (.iload_n 2, 1) := db_X11_deliver_0.2.2.1
theorem dX11_deliver_3 : decode cX11_deliver 3 = .ok (.invokevirtual 145, 3) := db_X11_deliver_0.2.2.2.1
theorem dX11_deliver_6 : decode cX11_deliver 6 = .ok (.aload_n 0, 1) := db_X11_deliver_0.2.2.2.2.1
theorem dX11_deliver_7 : decode cX11_deliver 7 = .ok (.iload_n 1, 1) := db_X11_deliver_0.2.2.2.2.2.1
theorem dX11_deliver_8 : decode cX11_deliver 8 = .ok (.iload_n 2, 1) := db_X11_deliver_0.2.2.2.2.2.2.1
theorem dX11_deliver_9 : decode cX11_deliver 9 = .ok (.invokevirtual 168, 3) := db_X11_deliver_0.2.2.2.2.2.2.2.1
theorem dX11_deliver_12 : decode cX11_deliver 12 = .ok (.ireturn, 1) := db_X11_deliver_0.2.2.2.2.2.2.2.2
theorem db_X11_lose_0 : decode cX11_lose 0 = .ok (.aload_n 0, 1) ∧ decode cX11_lose 1 = .ok (.iload_n 1, 1) ∧ decode cX11_lose 2 = .ok (.iload_n 2, 1) ∧ decode cX11_lose 3 = .ok (.invokevirtual 145, 3) ∧ decode cX11_lose 6 = .ok (.aload_n 0, 1) ∧ decode cX11_lose 7 = .ok (.getfield 12, 3) ∧ decode cX11_lose 10 = .ok (.iload_n 1, 1) ∧ decode cX11_lose 11 = .ok (.iload_n 2, 1) ∧ decode cX11_lose 12 = .ok (.invokevirtual 171, 3) ∧ decode cX11_lose 15 = .ok (.astore_n 3, 1) ∧ decode cX11_lose 16 = .ok (.aload_n 3, 1) ∧ decode cX11_lose 17 = .ok (.ifnonnull 7, 3) ∧ decode cX11_lose 20 = .ok (.iconst 0, 1) ∧ decode cX11_lose 21 = .ok (.goto 7, 3) ∧ decode cX11_lose 28 = .ok (.ireturn, 1) := by decide +kernel
theorem dX11_lose_0 : decode cX11_lose 0 = .ok (.aload_n 0, 1) := db_X11_lose_0.1
theorem dX11_lose_1 : decode cX11_lose 1 = .ok (.iload_n 1, 1) := db_X11_lose_0.2.1
theorem dX11_lose_2 : decode cX11_lose 2 = .ok (.iload_n 2, 1) := db_X11_lose_0.2.2.1
theorem dX11_lose_3 : decode cX11_lose 3 = .ok (.invokevirtual 145, 3) := db_X11_lose_0.2.2.2.1
theorem dX11_lose_6 : decode cX11_lose 6 = .ok (.aload_n 0, 1) := db_X11_lose_0.2.2.2.2.1
theorem dX11_lose_7 : decode cX11_lose 7 = .ok (.getfield 12, 3) := db_X11_lose_0.2.2.2.2.2.1
theorem dX11_lose_10 : decode cX11_lose 10 = .ok (.iload_n 1, 1) := db_X11_lose_0.2.2.2.2.2.2.1
theorem dX11_lose_11 : decode cX11_lose 11 = .ok (.iload_n 2, 1) := db_X11_lose_0.2.2.2.2.2.2.2.1
theorem dX11_lose_12 : decode cX11_lose 12 = .ok (.invokevirtual 171, 3) := db_X11_lose_0.2.2.2.2.2.2.2.2.1
theorem dX11_lose_15 : decode cX11_lose 15 = .ok (.astore_n 3, 1) := db_X11_lose_0.2.2.2.2.2.2.2.2.2.1
theorem dX11_lose_16 : decode cX11_lose 16 = .ok (.aload_n 3, 1) := db_X11_lose_0.2.2.2.2.2.2.2.2.2.2.1
theorem dX11_lose_17 : decode cX11_lose 17 = .ok (.ifnonnull 7, 3) := db_X11_lose_0.2.2.2.2.2.2.2.2.2.2.2.1
theorem dX11_lose_20 : decode cX11_lose 20 = .ok (.iconst 0, 1) := db_X11_lose_0.2.2.2.2.2.2.2.2.2.2.2.2.1
theorem dX11_lose_21 : decode cX11_lose 21 = .ok (.goto 7, 3) := db_X11_lose_0.2.2.2.2.2.2.2.2.2.2.2.2.2.1
theorem dX11_lose_28 : decode cX11_lose 28 = .ok (.ireturn, 1) := db_X11_lose_0.2.2.2.2.2.2.2.2.2.2.2.2.2.2
theorem db_X11_tick_0 : decode cX11_tick 0 = .ok (.aload_n 0, 1) ∧ decode cX11_tick 1 = .ok (.invokevirtual 175, 3) ∧ decode cX11_tick 4 = .ok (.aload_n 0, 1) ∧ decode cX11_tick 5 = .ok (.getfield 12, 3) ∧ decode cX11_tick 8 = .ok (.getfield 178, 3) ∧ decode cX11_tick 11 = .ok (.ireturn, 1) := by decide +kernel
theorem dX11_tick_0 : decode cX11_tick 0 = .ok (.aload_n 0, 1) := db_X11_tick_0.1
theorem dX11_tick_1 : decode cX11_tick 1 = .ok (.invokevirtual 175, 3) := db_X11_tick_0.2.1
theorem dX11_tick_4 : decode cX11_tick 4 = .ok (.aload_n 0, 1) := db_X11_tick_0.2.2.1
theorem dX11_tick_5 : decode cX11_tick 5 = .ok (.getfield 12, 3) := db_X11_tick_0.2.2.2.1
theorem dX11_tick_8 : decode cX11_tick 8 = .ok (.getfield 178, 3) := db_X11_tick_0.2.2.2.2.1
theorem dX11_tick_11 : decode cX11_tick 11 = .ok (.ireturn, 1) := db_X11_tick_0.2.2.2.2.2
theorem db_X11_run_0 : decode cX11_run 0 = .ok (.iload_n 1, 1) ∧ decode cX11_run 1 = .ok (.ifCond .lt 9, 3) ∧ decode cX11_run 4 = .ok (.iload_n 1, 1) ∧ decode cX11_run 5 = .ok (.bipush 60, 2) ∧ decode cX11_run 7 = .ok (.if_icmp .le 13, 3) ∧ decode cX11_run 10 = .ok (.new 60, 3) ∧ decode cX11_run 13 = .ok (.dup, 1) ∧ decode cX11_run 14 = .ok (.ldc 181, 2) ∧ decode cX11_run 16 = .ok (.invokespecial 64, 3) ∧ decode cX11_run 19 = .ok (.athrow, 1) ∧ decode cX11_run 20 = .ok (.aload_n 0, 1) ∧ decode cX11_run 21 = .ok (.getfield 12, 3) ∧ decode cX11_run 24 = .ok (.getfield 183, 3) ∧ decode cX11_run 27 = .ok (.istore_n 2, 1) ∧ decode cX11_run 28 = .ok (.iconst 0, 1) ∧ decode cX11_run 29 = .ok (.istore_n 3, 1) := by decide +kernel
theorem dX11_run_0 : decode cX11_run 0 = .ok (.iload_n 1, 1) := db_X11_run_0.1
theorem dX11_run_1 : decode cX11_run 1 = .ok (.ifCond .lt 9, 3) := db_X11_run_0.2.1
theorem dX11_run_4 : decode cX11_run 4 = .ok (.iload_n 1, 1) := db_X11_run_0.2.2.1
theorem dX11_run_5 : decode cX11_run 5 = .ok (.bipush 60, 2) := db_X11_run_0.2.2.2.1
theorem dX11_run_7 : decode cX11_run 7 = .ok (.if_icmp .le 13, 3) := db_X11_run_0.2.2.2.2.1
theorem dX11_run_10 : decode cX11_run 10 = .ok (.new 60, 3) := db_X11_run_0.2.2.2.2.2.1
theorem dX11_run_13 : decode cX11_run 13 = .ok (.dup, 1) := db_X11_run_0.2.2.2.2.2.2.1
theorem dX11_run_14 : decode cX11_run 14 = .ok (.ldc 181, 2) := db_X11_run_0.2.2.2.2.2.2.2.1
theorem dX11_run_16 : decode cX11_run 16 = .ok (.invokespecial 64, 3) := db_X11_run_0.2.2.2.2.2.2.2.2.1
theorem dX11_run_19 : decode cX11_run 19 = .ok (.athrow, 1) := db_X11_run_0.2.2.2.2.2.2.2.2.2.1
theorem dX11_run_20 : decode cX11_run 20 = .ok (.aload_n 0, 1) := db_X11_run_0.2.2.2.2.2.2.2.2.2.2.1
theorem dX11_run_21 : decode cX11_run 21 = .ok (.getfield 12, 3) := db_X11_run_0.2.2.2.2.2.2.2.2.2.2.2.1
theorem dX11_run_24 : decode cX11_run 24 = .ok (.getfield 183, 3) := db_X11_run_0.2.2.2.2.2.2.2.2.2.2.2.2.1
theorem dX11_run_27 : decode cX11_run 27 = .ok (.istore_n 2, 1) := db_X11_run_0.2.2.2.2.2.2.2.2.2.2.2.2.2.1
theorem dX11_run_28 : decode cX11_run 28 = .ok (.iconst 0, 1) := db_X11_run_0.2.2.2.2.2.2.2.2.2.2.2.2.2.2.1
theorem dX11_run_29 : decode cX11_run 29 = .ok (.istore_n 3, 1) := db_X11_run_0.2.2.2.2.2.2.2.2.2.2.2.2.2.2.2
theorem db_X11_run_30 : decode cX11_run 30 = .ok (.iload_n 3, 1) ∧ decode cX11_run 31 = .ok (.iload_n 1, 1) ∧ decode cX11_run 32 = .ok (.if_icmp .ge 101, 3) ∧ decode cX11_run 35 = .ok (.iconst 0, 1) ∧ decode cX11_run 36 = .ok (.istore 4, 2) ∧ decode cX11_run 38 = .ok (.iload 4, 2) ∧ decode cX11_run 40 = .ok (.aload_n 0, 1) ∧ decode cX11_run 41 = .ok (.getfield 12, 3) ∧ decode cX11_run 44 = .ok (.getfield 186, 3) ∧ decode cX11_run 47 = .ok (.if_icmp .gt 76, 3) ∧ decode cX11_run 50 = .ok (.iconst 0, 1) ∧ decode cX11_run 51 = .ok (.istore 5, 2) ∧ decode cX11_run 53 = .ok (.iload 5, 2) ∧ decode cX11_run 55 = .ok (.aload_n 0, 1) ∧ decode cX11_run 56 = .ok (.getfield 12, 3) ∧ decode cX11_run 59 = .ok (.getfield 186, 3) := by decide +kernel
theorem dX11_run_30 : decode cX11_run 30 = .ok (.iload_n 3, 1) := db_X11_run_30.1
theorem dX11_run_31 : decode cX11_run 31 = .ok (.iload_n 1, 1) := db_X11_run_30.2.1
theorem dX11_run_32 : decode cX11_run 32 = .ok (.if_icmp .ge 101, 3) := db_X11_run_30.2.2.1
theorem dX11_run_35 : decode cX11_run 35 = .ok (.iconst 0, 1) := db_X11_run_30.2.2.2.1
theorem dX11_run_36 : decode cX11_run 36 = .ok (.istore 4, 2) := db_X11_run_30.2.2.2.2.1
theorem dX11_run_38 : decode cX11_run 38 = .ok (.iload 4, 2) := db_X11_run_30.2.2.2.2.2.1
theorem dX11_run_40 : decode cX11_run 40 = .ok (.aload_n 0, 1) := db_X11_run_30.2.2.2.2.2.2.1
theorem dX11_run_41 : decode cX11_run 41 = .ok (.getfield 12, 3) := db_X11_run_30.2.2.2.2.2.2.2.1
theorem dX11_run_44 : decode cX11_run 44 = .ok (.getfield 186, 3) := db_X11_run_30.2.2.2.2.2.2.2.2.1
theorem dX11_run_47 : decode cX11_run 47 = .ok (.if_icmp .gt 76, 3) := db_X11_run_30.2.2.2.2.2.2.2.2.2.1
theorem dX11_run_50 : decode cX11_run 50 = .ok (.iconst 0, 1) := db_X11_run_30.2.2.2.2.2.2.2.2.2.2.1
theorem dX11_run_51 : decode cX11_run 51 = .ok (.istore 5, 2) := db_X11_run_30.2.2.2.2.2.2.2.2.2.2.2.1
theorem dX11_run_53 : decode cX11_run 53 = .ok (.iload 5, 2) := db_X11_run_30.2.2.2.2.2.2.2.2.2.2.2.2.1
theorem dX11_run_55 : decode cX11_run 55 = .ok (.aload_n 0, 1) := db_X11_run_30.2.2.2.2.2.2.2.2.2.2.2.2.2.1
theorem dX11_run_56 : decode cX11_run 56 = .ok (.getfield 12, 3) := db_X11_run_30.2.2.2.2.2.2.2.2.2.2.2.2.2.2.1
theorem dX11_run_59 : decode cX11_run 59 = .ok (.getfield 186, 3) := db_X11_run_30.2.2.2.2.2.2.2.2.2.2.2.2.2.2.2
theorem db_X11_run_62 : decode cX11_run 62 = .ok (.if_icmp .gt 55, 3) ∧ decode cX11_run 65 = .ok (.aload_n 0, 1) ∧ decode cX11_run 66 = .ok (.getfield 12, 3) ∧ decode cX11_run 69 = .ok (.getfield 149, 3) ∧ decode cX11_run 72 = .ok (.aload_n 0, 1) ∧ decode cX11_run 73 = .ok (.getfield 12, 3) ∧ decode cX11_run 76 = .ok (.iload 4, 2) ∧ decode cX11_run 78 = .ok (.iload 5, 2) ∧ decode cX11_run 80 = .ok (.invokevirtual 152, 3) ∧ decode cX11_run 83 = .ok (.iaload, 1) ∧ decode cX11_run 84 = .ok (.istore 6, 2) ∧ decode cX11_run 86 = .ok (.iconst 0, 1) ∧ decode cX11_run 87 = .ok (.istore 7, 2) ∧ decode cX11_run 89 = .ok (.iload 7, 2) ∧ decode cX11_run 91 = .ok (.iload 6, 2) ∧ decode cX11_run 93 = .ok (.if_icmp .ge 18, 3) := by decide +kernel
theorem dX11_run_62 : decode cX11_run 62 = .ok (.if_icmp .gt 55, 3) := db_X11_run_62.1
theorem dX11_run_65 : decode cX11_run 65 = .ok (.aload_n 0, 1) := db_X11_run_62.2.1
theorem dX11_run_66 : decode cX11_run 66 = .ok (.getfield 12, 3) := db_X11_run_62.2.2.1
theorem dX11_run_69 : decode cX11_run 69 = .ok (.getfield 149, 3) := db_X11_run_62.2.2.2.1
theorem dX11_run_72 : decode cX11_run 72 = .ok (.aload_n 0, 1) := db_X11_run_62.2.2.2.2.1
theorem dX11_run_73 : decode cX11_run 73 = .ok (.getfield 12, 3) := db_X11_run_62.2.2.2.2.2.1
theorem dX11_run_76 : decode cX11_run 76 = .ok (.iload 4, 2) := db_X11_run_62.2.2.2.2.2.2.1
theorem dX11_run_78 : decode cX11_run 78 = .ok (.iload 5, 2) := db_X11_run_62.2.2.2.2.2.2.2.1
theorem dX11_run_80 : decode cX11_run 80 = .ok (.invokevirtual 152, 3) := db_X11_run_62.2.2.2.2.2.2.2.2.1
theorem dX11_run_83 : decode cX11_run 83 = .ok (.iaload, 1) := db_X11_run_62.2.2.2.2.2.2.2.2.2.1
theorem dX11_run_84 : decode cX11_run 84 = .ok (.istore 6, 2) := db_X11_run_62.2.2.2.2.2.2.2.2.2.2.1
theorem dX11_run_86 : decode cX11_run 86 = .ok (.iconst 0, 1) := db_X11_run_62.2.2.2.2.2.2.2.2.2.2.2.1
theorem dX11_run_87 : decode cX11_run 87 = .ok (.istore 7, 2) := db_X11_run_62.2.2.2.2.2.2.2.2.2.2.2.2.1
theorem dX11_run_89 : decode cX11_run 89 = .ok (.iload 7, 2) := db_X11_run_62.2.2.2.2.2.2.2.2.2.2.2.2.2.1
theorem dX11_run_91 : decode cX11_run 91 = .ok (.iload 6, 2) := db_X11_run_62.2.2.2.2.2.2.2.2.2.2.2.2.2.2.1
theorem dX11_run_93 : decode cX11_run 93 = .ok (.if_icmp .ge 18, 3) := db_X11_run_62.2.2.2.2.2.2.2.2.2.2.2.2.2.2.2
theorem db_X11_run_96 : decode cX11_run 96 = .ok (.aload_n 0, 1) ∧ decode cX11_run 97 = .ok (.iload 4, 2) ∧ decode cX11_run 99 = .ok (.iload 5, 2) ∧ decode cX11_run 101 = .ok (.invokevirtual 168, 3) ∧ decode cX11_run 104 = .ok (.pop, 1) ∧ decode cX11_run 105 = .ok (.iinc 7 1, 3) ∧ decode cX11_run 108 = .ok (.goto (-19), 3) ∧ decode cX11_run 111 = .ok (.iinc 5 1, 3) ∧ decode cX11_run 114 = .ok (.goto (-61), 3) ∧ decode cX11_run 117 = .ok (.iinc 4 1, 3) ∧ decode cX11_run 120 = .ok (.goto (-82), 3) ∧ decode cX11_run 123 = .ok (.aload_n 0, 1) ∧ decode cX11_run 124 = .ok (.invokevirtual 175, 3) ∧ decode cX11_run 127 = .ok (.iinc 3 1, 3) ∧ decode cX11_run 130 = .ok (.goto (-100), 3) ∧ decode cX11_run 133 = .ok (.aload_n 0, 1) := by decide +kernel
theorem dX11_run_96 : decode cX11_run 96 = .ok (.aload_n 0, 1) := db_X11_run_96.1
theorem dX11_run_97 : decode cX11_run 97 = .ok (.iload 4, 2) := db_X11_run_96.2.1
theorem dX11_run_99 : decode cX11_run 99 = .ok (.iload 5, 2) := db_X11_run_96.2.2.1
theorem dX11_run_101 : decode cX11_run 101 = .ok (.invokevirtual 168, 3) := db_X11_run_96.2.2.2.1
theorem dX11_run_104 : decode cX11_run 104 = .ok (.pop, 1) := db_X11_run_96.2.2.2.2.1
theorem dX11_run_105 : decode cX11_run 105 = .ok (.iinc 7 1, 3) := db_X11_run_96.2.2.2.2.2.1
theorem dX11_run_108 : decode cX11_run 108 = .ok (.goto (-19), 3) := db_X11_run_96.2.2.2.2.2.2.1
theorem dX11_run_111 : decode cX11_run 111 = .ok (.iinc 5 1, 3) := db_X11_run_96.2.2.2.2.2.2.2.1
theorem dX11_run_114 : decode cX11_run 114 = .ok (.goto (-61), 3) := db_X11_run_96.2.2.2.2.2.2.2.2.1
theorem dX11_run_117 : decode cX11_run 117 = .ok (.iinc 4 1, 3) := db_X11_run_96.2.2.2.2.2.2.2.2.2.1
theorem dX11_run_120 : decode cX11_run 120 = .ok (.goto (-82), 3) := db_X11_run_96.2.2.2.2.2.2.2.2.2.2.1
theorem dX11_run_123 : decode cX11_run 123 = .ok (.aload_n 0, 1) := db_X11_run_96.2.2.2.2.2.2.2.2.2.2.2.1
theorem dX11_run_124 : decode cX11_run 124 = .ok (.invokevirtual 175, 3) := db_X11_run_96.2.2.2.2.2.2.2.2.2.2.2.2.1
theorem dX11_run_127 : decode cX11_run 127 = .ok (.iinc 3 1, 3) := db_X11_run_96.2.2.2.2.2.2.2.2.2.2.2.2.2.1
theorem dX11_run_130 : decode cX11_run 130 = .ok (.goto (-100), 3) := db_X11_run_96.2.2.2.2.2.2.2.2.2.2.2.2.2.2.1
theorem dX11_run_133 : decode cX11_run 133 = .ok (.aload_n 0, 1) := db_X11_run_96.2.2.2.2.2.2.2.2.2.2.2.2.2.2.2
theorem db_X11_run_134 : decode cX11_run 134 = .ok (.getfield 12, 3) ∧ decode cX11_run 137 = .ok (.getfield 183, 3) ∧ decode cX11_run 140 = .ok (.iload_n 2, 1) ∧ decode cX11_run 141 = .ok (.isub, 1) ∧ decode cX11_run 142 = .ok (.ireturn, 1) := by decide +kernel
theorem dX11_run_134 : decode cX11_run 134 = .ok (.getfield 12, 3) := db_X11_run_134.1
theorem dX11_run_137 : decode cX11_run 137 = .ok (.getfield 183, 3) := db_X11_run_134.2.1
theorem dX11_run_140 : decode cX11_run 140 = .ok (.iload_n 2, 1) := db_X11_run_134.2.2.1
theorem dX11_run_141 : decode cX11_run 141 = .ok (.isub, 1) := db_X11_run_134.2.2.2.1
theorem dX11_run_142 : decode cX11_run 142 = .ok (.ireturn, 1) := db_X11_run_134.2.2.2.2
theorem db_X11_up_0 : decode cX11_up 0 = .ok (.aload_n 0, 1) ∧ decode cX11_up 1 = .ok (.iload_n 1, 1) ∧ decode cX11_up 2 = .ok (.invokevirtual 188, 3) ∧ decode cX11_up 5 = .ok (.aload_n 0, 1) ∧ decode cX11_up 6 = .ok (.getfield 18, 3) ∧ decode cX11_up 9 = .ok (.iload_n 1, 1) ∧ decode cX11_up 10 = .ok (.aaload, 1) ∧ decode cX11_up 11 = .ok (.getfield 191, 3) ∧ decode cX11_up 14 = .ok (.ireturn, 1) := by decide +kernel
theorem dX11_up_0 : decode cX11_up 0 = .ok (.aload_n 0, 1) := db_X11_up_0.1
theorem dX11_up_1 : decode cX11_up 1 = .ok (.iload_n 1, 1) := db_X11_up_0.2.1
theorem dX11_up_2 : decode cX11_up 2 = .ok (.invokevirtual 188, 3) := db_X11_up_0.2.2.1
theorem dX11_up_5 : decode cX11_up 5 = .ok (.aload_n 0, 1) := db_X11_up_0.2.2.2.1
theorem dX11_up_6 : decode cX11_up 6 = .ok (.getfield 18, 3) := db_X11_up_0.2.2.2.2.1
theorem dX11_up_9 : decode cX11_up 9 = .ok (.iload_n 1, 1) := db_X11_up_0.2.2.2.2.2.1
theorem dX11_up_10 : decode cX11_up 10 = .ok (.aaload, 1) := db_X11_up_0.2.2.2.2.2.2.1
theorem dX11_up_11 : decode cX11_up 11 = .ok (.getfield 191, 3) := db_X11_up_0.2.2.2.2.2.2.2.1
theorem dX11_up_14 : decode cX11_up 14 = .ok (.ireturn, 1) := db_X11_up_0.2.2.2.2.2.2.2.2
theorem db_X11_down_0 : decode cX11_down 0 = .ok (.aload_n 0, 1) ∧ decode cX11_down 1 = .ok (.iload_n 1, 1) ∧ decode cX11_down 2 = .ok (.invokevirtual 188, 3) ∧ decode cX11_down 5 = .ok (.aload_n 0, 1) ∧ decode cX11_down 6 = .ok (.iload_n 1, 1) ∧ decode cX11_down 7 = .ok (.invokevirtual 195, 3) ∧ decode cX11_down 10 = .ok (.ireturn, 1) := by decide +kernel
theorem dX11_down_0 : decode cX11_down 0 = .ok (.aload_n 0, 1) := db_X11_down_0.1
theorem dX11_down_1 : decode cX11_down 1 = .ok (.iload_n 1, 1) := db_X11_down_0.2.1
theorem dX11_down_2 : decode cX11_down 2 = .ok (.invokevirtual 188, 3) := db_X11_down_0.2.2.1
theorem dX11_down_5 : decode cX11_down 5 = .ok (.aload_n 0, 1) := db_X11_down_0.2.2.2.1
theorem dX11_down_6 : decode cX11_down 6 = .ok (.iload_n 1, 1) := db_X11_down_0.2.2.2.2.1
theorem dX11_down_7 : decode cX11_down 7 = .ok (.invokevirtual 195, 3) := db_X11_down_0.2.2.2.2.2.1
theorem dX11_down_10 : decode cX11_down 10 = .ok (.ireturn, 1) := db_X11_down_0.2.2.2.2.2.2
theorem db_X11_start_0 : decode cX11_start 0 = .ok (.aload_n 0, 1) ∧ decode cX11_start 1 = .ok (.iload_n 1, 1) ∧ decode cX11_start 2 = .ok (.invokevirtual 188, 3) ∧ decode cX11_start 5 = .ok (.aload_n 0, 1) ∧ decode cX11_start 6 = .ok (.getfield 18, 3) ∧ decode cX11_start 9 = .ok (.iload_n 1, 1) ∧ decode cX11_start 10 = .ok (.aaload, 1) ∧ decode cX11_start 11 = .ok (.getfield 191, 3) ∧ decode cX11_start 14 = .ok (.ifCond .eq 13, 3) ∧ decode cX11_start 17 = .ok (.new 199, 3) ∧ decode cX11_start 20 = .ok (.dup, 1) ∧ decode cX11_start 21 = .ok (.ldc 201, 2) ∧ decode cX11_start 23 = .ok (.invokespecial 203, 3) ∧ decode cX11_start 26 = .ok (.athrow, 1) := by decide +kernel
theorem dX11_start_0 : decode cX11_start 0 = .ok (.aload_n 0, 1) := db_X11_start_0.1
theorem dX11_start_1 : decode cX11_start 1 = .ok (.iload_n 1, 1) := db_X11_start_0.2.1
theorem dX11_start_2 : decode cX11_start 2 = .ok (.invokevirtual 188, 3) := db_X11_start_0.2.2.1
theorem dX11_start_5 : decode cX11_start 5 = .ok (.aload_n 0, 1) := db_X11_start_0.2.2.2.1
theorem dX11_start_6 : decode cX11_start 6 = .ok (.getfield 18, 3) := db_X11_start_0.2.2.2.2.1
theorem dX11_start_9 : decode cX11_start 9 = .ok (.iload_n 1, 1) := db_X11_start_0.2.2.2.2.2.1
theorem dX11_start_10 : decode cX11_start 10 = .ok (.aaload, 1) := db_X11_start_0.2.2.2.2.2.2.1
theorem dX11_start_11 : decode cX11_start 11 = .ok (.getfield 191, 3) := db_X11_start_0.2.2.2.2.2.2.2.1
theorem dX11_start_14 : decode cX11_start 14 = .ok (.ifCond .eq 13, 3) := db_X11_start_0.2.2.2.2.2.2.2.2.1
theorem dX11_start_17 : decode cX11_start 17 = .ok (.new 199, 3) := db_X11_start_0.2.2.2.2.2.2.2.2.2.1
theorem dX11_start_20 : decode cX11_start 20 = .ok (.dup, 1) := db_X11_start_0.2.2.2.2.2.2.2.2.2.2.1
theorem dX11_start_21 : decode cX11_start 21 = .ok (.ldc 201, 2) := db_X11_start_0.2.2.2.2.2.2.2.2.2.2.2.1
theorem dX11_start_23 : decode cX11_start 23 = .ok (.invokespecial 203, 3) := db_X11_start_0.2.2.2.2.2.2.2.2.2.2.2.2.1
theorem dX11_start_26 : decode cX11_start 26 = .ok (.athrow, 1) := db_X11_start_0.2.2.2.2.2.2.2.2.2.2.2.2.2
theorem db_X11_fail_0 : decode cX11_fail 0 = .ok (.aload_n 0, 1) ∧ decode cX11_fail 1 = .ok (.iload_n 1, 1) ∧ decode cX11_fail 2 = .ok (.invokevirtual 188, 3) ∧ decode cX11_fail 5 = .ok (.iload_n 2, 1) ∧ decode cX11_fail 6 = .ok (.ifCond .lt 20, 3) ∧ decode cX11_fail 9 = .ok (.iload_n 2, 1) ∧ decode cX11_fail 10 = .ok (.sipush 1000, 3) ∧ decode cX11_fail 13 = .ok (.if_icmp .gt 13, 3) ∧ decode cX11_fail 16 = .ok (.iload_n 3, 1) ∧ decode cX11_fail 17 = .ok (.ifCond .lt 9, 3) ∧ decode cX11_fail 20 = .ok (.iload_n 3, 1) ∧ decode cX11_fail 21 = .ok (.bipush 64, 2) ∧ decode cX11_fail 23 = .ok (.if_icmp .lt 13, 3) ∧ decode cX11_fail 26 = .ok (.new 60, 3) ∧ decode cX11_fail 29 = .ok (.dup, 1) ∧ decode cX11_fail 30 = .ok (.ldc 207, 2) := by decide +kernel
theorem dX11_fail_0 : decode cX11_fail 0 = .ok (.aload_n 0, 1) := db_X11_fail_0.1
theorem dX11_fail_1 : decode cX11_fail 1 = .ok (.iload_n 1, 1) := db_X11_fail_0.2.1
theorem dX11_fail_2 : decode cX11_fail 2 = .ok (.invokevirtual 188, 3) := db_X11_fail_0.2.2.1
theorem dX11_fail_5 : decode cX11_fail 5 = .ok (.iload_n 2, 1) := db_X11_fail_0.2.2.2.1
theorem dX11_fail_6 : decode cX11_fail 6 = .ok (.ifCond .lt 20, 3) := db_X11_fail_0.2.2.2.2.1
theorem dX11_fail_9 : decode cX11_fail 9 = .ok (.iload_n 2, 1) := db_X11_fail_0.2.2.2.2.2.1
theorem dX11_fail_10 : decode cX11_fail 10 = .ok (.sipush 1000, 3) := db_X11_fail_0.2.2.2.2.2.2.1
theorem dX11_fail_13 : decode cX11_fail 13 = .ok (.if_icmp .gt 13, 3) := db_X11_fail_0.2.2.2.2.2.2.2.1
theorem dX11_fail_16 : decode cX11_fail 16 = .ok (.iload_n 3, 1) := db_X11_fail_0.2.2.2.2.2.2.2.2.1
theorem dX11_fail_17 : decode cX11_fail 17 = .ok (.ifCond .lt 9, 3) := db_X11_fail_0.2.2.2.2.2.2.2.2.2.1
theorem dX11_fail_20 : decode cX11_fail 20 = .ok (.iload_n 3, 1) := db_X11_fail_0.2.2.2.2.2.2.2.2.2.2.1
theorem dX11_fail_21 : decode cX11_fail 21 = .ok (.bipush 64, 2) := db_X11_fail_0.2.2.2.2.2.2.2.2.2.2.2.1
theorem dX11_fail_23 : decode cX11_fail 23 = .ok (.if_icmp .lt 13, 3) := db_X11_fail_0.2.2.2.2.2.2.2.2.2.2.2.2.1
theorem dX11_fail_26 : decode cX11_fail 26 = .ok (.new 60, 3) := db_X11_fail_0.2.2.2.2.2.2.2.2.2.2.2.2.2.1
theorem dX11_fail_29 : decode cX11_fail 29 = .ok (.dup, 1) := db_X11_fail_0.2.2.2.2.2.2.2.2.2.2.2.2.2.2.1
theorem dX11_fail_30 : decode cX11_fail 30 = .ok (.ldc 207, 2) := db_X11_fail_0.2.2.2.2.2.2.2.2.2.2.2.2.2.2.2
theorem db_X11_fail_32 : decode cX11_fail 32 = .ok (.invokespecial 64, 3) ∧ decode cX11_fail 35 = .ok (.athrow, 1) ∧ decode cX11_fail 36 = .ok (.aload_n 0, 1) ∧ decode cX11_fail 37 = .ok (.getfield 18, 3) ∧ decode cX11_fail 40 = .ok (.iload_n 1, 1) ∧ decode cX11_fail 41 = .ok (.aaload, 1) ∧ decode cX11_fail 42 = .ok (.iload_n 2, 1) ∧ decode cX11_fail 43 = .ok (.putfield 209, 3) ∧ decode cX11_fail 46 = .ok (.aload_n 0, 1) ∧ decode cX11_fail 47 = .ok (.getfield 18, 3) ∧ decode cX11_fail 50 = .ok (.iload_n 1, 1) ∧ decode cX11_fail 51 = .ok (.aaload, 1) ∧ decode cX11_fail 52 = .ok (.iload_n 3, 1) ∧ decode cX11_fail 53 = .ok (.putfield 212, 3) ∧ decode cX11_fail 56 = .ok (.return_, 1) := by decide +kernel
theorem dX11_fail_32 : decode cX11_fail 32 = .ok (.invokespecial 64, 3) := db_X11_fail_32.1
theorem dX11_fail_35 : decode cX11_fail 35 = .ok (.athrow, 1) := db_X11_fail_32.2.1
theorem dX11_fail_36 : decode cX11_fail 36 = .ok (.aload_n 0, 1) := db_X11_fail_32.2.2.1
theorem dX11_fail_37 : decode cX11_fail 37 = .ok (.getfield 18, 3) := db_X11_fail_32.2.2.2.1
theorem dX11_fail_40 : decode cX11_fail 40 = .ok (.iload_n 1, 1) := db_X11_fail_32.2.2.2.2.1
theorem dX11_fail_41 : decode cX11_fail 41 = .ok (.aaload, 1) := db_X11_fail_32.2.2.2.2.2.1
theorem dX11_fail_42 : decode cX11_fail 42 = .ok (.iload_n 2, 1) := db_X11_fail_32.2.2.2.2.2.2.1
theorem dX11_fail_43 : decode cX11_fail 43 = .ok (.putfield 209, 3) := db_X11_fail_32.2.2.2.2.2.2.2.1
theorem dX11_fail_46 : decode cX11_fail 46 = .ok (.aload_n 0, 1) := db_X11_fail_32.2.2.2.2.2.2.2.2.1
theorem dX11_fail_47 : decode cX11_fail 47 = .ok (.getfield 18, 3) := db_X11_fail_32.2.2.2.2.2.2.2.2.2.1
theorem dX11_fail_50 : decode cX11_fail 50 = .ok (.iload_n 1, 1) := db_X11_fail_32.2.2.2.2.2.2.2.2.2.2.1
theorem dX11_fail_51 : decode cX11_fail 51 = .ok (.aaload, 1) := db_X11_fail_32.2.2.2.2.2.2.2.2.2.2.2.1
theorem dX11_fail_52 : decode cX11_fail 52 = .ok (.iload_n 3, 1) := db_X11_fail_32.2.2.2.2.2.2.2.2.2.2.2.2.1
theorem dX11_fail_53 : decode cX11_fail 53 = .ok (.putfield 212, 3) := db_X11_fail_32.2.2.2.2.2.2.2.2.2.2.2.2.2.1
theorem dX11_fail_56 : decode cX11_fail 56 = .ok (.return_, 1) := db_X11_fail_32.2.2.2.2.2.2.2.2.2.2.2.2.2.2
theorem db_X11_copy_0 : decode cX11_copy 0 = .ok (.aload_n 0, 1) ∧ decode cX11_copy 1 = .ok (.iload_n 1, 1) ∧ decode cX11_copy 2 = .ok (.iload_n 2, 1) ∧ decode cX11_copy 3 = .ok (.invokevirtual 215, 3) ∧ decode cX11_copy 6 = .ok (.astore 4, 2) ∧ decode cX11_copy 8 = .ok (.iload_n 3, 1) ∧ decode cX11_copy 9 = .ok (.ifCond .lt 9, 3) ∧ decode cX11_copy 12 = .ok (.iload_n 3, 1) ∧ decode cX11_copy 13 = .ok (.bipush 8, 2) ∧ decode cX11_copy 15 = .ok (.if_icmp .le 13, 3) ∧ decode cX11_copy 18 = .ok (.new 114, 3) ∧ decode cX11_copy 21 = .ok (.dup, 1) ∧ decode cX11_copy 22 = .ok (.ldc 219, 2) ∧ decode cX11_copy 24 = .ok (.invokespecial 118, 3) ∧ decode cX11_copy 27 = .ok (.athrow, 1) ∧ decode cX11_copy 28 = .ok (.aload_n 0, 1) := by decide +kernel
theorem dX11_copy_0 : decode cX11_copy 0 = .ok (.aload_n 0, 1) := db_X11_copy_0.1
theorem dX11_copy_1 : decode cX11_copy 1 = .ok (.iload_n 1, 1) := db_X11_copy_0.2.1
theorem dX11_copy_2 : decode cX11_copy 2 = .ok (.iload_n 2, 1) := db_X11_copy_0.2.2.1
theorem dX11_copy_3 : decode cX11_copy 3 = .ok (.invokevirtual 215, 3) := db_X11_copy_0.2.2.2.1
theorem dX11_copy_6 : decode cX11_copy 6 = .ok (.astore 4, 2) := db_X11_copy_0.2.2.2.2.1
theorem dX11_copy_8 : decode cX11_copy 8 = .ok (.iload_n 3, 1) := db_X11_copy_0.2.2.2.2.2.1
theorem dX11_copy_9 : decode cX11_copy 9 = .ok (.ifCond .lt 9, 3) := db_X11_copy_0.2.2.2.2.2.2.1
theorem dX11_copy_12 : decode cX11_copy 12 = .ok (.iload_n 3, 1) := db_X11_copy_0.2.2.2.2.2.2.2.1
theorem dX11_copy_13 : decode cX11_copy 13 = .ok (.bipush 8, 2) := db_X11_copy_0.2.2.2.2.2.2.2.2.1
theorem dX11_copy_15 : decode cX11_copy 15 = .ok (.if_icmp .le 13, 3) := db_X11_copy_0.2.2.2.2.2.2.2.2.2.1
theorem dX11_copy_18 : decode cX11_copy 18 = .ok (.new 114, 3) := db_X11_copy_0.2.2.2.2.2.2.2.2.2.2.1
theorem dX11_copy_21 : decode cX11_copy 21 = .ok (.dup, 1) := db_X11_copy_0.2.2.2.2.2.2.2.2.2.2.2.1
theorem dX11_copy_22 : decode cX11_copy 22 = .ok (.ldc 219, 2) := db_X11_copy_0.2.2.2.2.2.2.2.2.2.2.2.2.1
theorem dX11_copy_24 : decode cX11_copy 24 = .ok (.invokespecial 118, 3) := db_X11_copy_0.2.2.2.2.2.2.2.2.2.2.2.2.2.1
theorem dX11_copy_27 : decode cX11_copy 27 = .ok (.athrow, 1) := db_X11_copy_0.2.2.2.2.2.2.2.2.2.2.2.2.2.2.1
theorem dX11_copy_28 : decode cX11_copy 28 = .ok (.aload_n 0, 1) := db_X11_copy_0.2.2.2.2.2.2.2.2.2.2.2.2.2.2.2
theorem db_X11_copy_29 : decode cX11_copy 29 = .ok (.getfield 18, 3) ∧ decode cX11_copy 32 = .ok (.iload_n 1, 1) ∧ decode cX11_copy 33 = .ok (.aaload, 1) ∧ decode cX11_copy 34 = .ok (.getfield 191, 3) ∧ decode cX11_copy 37 = .ok (.ifCond .ne 5, 3) ∧ decode cX11_copy 42 = .ok (.iload_n 3, 1) ∧ decode cX11_copy 43 = .ok (.iconst 5, 1) ∧ decode cX11_copy 44 = .ok (.if_icmp .ne 11, 3) ∧ decode cX11_copy 47 = .ok (.aload 4, 2) ∧ decode cX11_copy 49 = .ok (.getfield 221, 3) ∧ decode cX11_copy 52 = .ok (.goto 12, 3) ∧ decode cX11_copy 55 = .ok (.aload 4, 2) ∧ decode cX11_copy 57 = .ok (.getfield 224, 3) ∧ decode cX11_copy 60 = .ok (.iload_n 3, 1) ∧ decode cX11_copy 61 = .ok (.invokevirtual 228, 3) ∧ decode cX11_copy 64 = .ok (.ireturn, 1) := by decide +kernel
theorem dX11_copy_29 : decode cX11_copy 29 = .ok (.getfield 18, 3) := db_X11_copy_29.1
theorem dX11_copy_32 : decode cX11_copy 32 = .ok (.iload_n 1, 1) := db_X11_copy_29.2.1
theorem dX11_copy_33 : decode cX11_copy 33 = .ok (.aaload, 1) := db_X11_copy_29.2.2.1
theorem dX11_copy_34 : decode cX11_copy 34 = .ok (.getfield 191, 3) := db_X11_copy_29.2.2.2.1
theorem dX11_copy_37 : decode cX11_copy 37 = .ok (.ifCond .ne 5, 3) := db_X11_copy_29.2.2.2.2.1
theorem dX11_copy_42 : decode cX11_copy 42 = .ok (.iload_n 3, 1) := db_X11_copy_29.2.2.2.2.2.1
theorem dX11_copy_43 : decode cX11_copy 43 = .ok (.iconst 5, 1) := db_X11_copy_29.2.2.2.2.2.2.1
theorem dX11_copy_44 : decode cX11_copy 44 = .ok (.if_icmp .ne 11, 3) := db_X11_copy_29.2.2.2.2.2.2.2.1
theorem dX11_copy_47 : decode cX11_copy 47 = .ok (.aload 4, 2) := db_X11_copy_29.2.2.2.2.2.2.2.2.1
theorem dX11_copy_49 : decode cX11_copy 49 = .ok (.getfield 221, 3) := db_X11_copy_29.2.2.2.2.2.2.2.2.2.1
theorem dX11_copy_52 : decode cX11_copy 52 = .ok (.goto 12, 3) := db_X11_copy_29.2.2.2.2.2.2.2.2.2.2.1
theorem dX11_copy_55 : decode cX11_copy 55 = .ok (.aload 4, 2) := db_X11_copy_29.2.2.2.2.2.2.2.2.2.2.2.1
theorem dX11_copy_57 : decode cX11_copy 57 = .ok (.getfield 224, 3) := db_X11_copy_29.2.2.2.2.2.2.2.2.2.2.2.2.1
theorem dX11_copy_60 : decode cX11_copy 60 = .ok (.iload_n 3, 1) := db_X11_copy_29.2.2.2.2.2.2.2.2.2.2.2.2.2.1
theorem dX11_copy_61 : decode cX11_copy 61 = .ok (.invokevirtual 228, 3) := db_X11_copy_29.2.2.2.2.2.2.2.2.2.2.2.2.2.2.1
theorem dX11_copy_64 : decode cX11_copy 64 = .ok (.ireturn, 1) := db_X11_copy_29.2.2.2.2.2.2.2.2.2.2.2.2.2.2.2
theorem db_X11_other_0 : decode cX11_other 0 = .ok (.aload_n 0, 1) ∧ decode cX11_other 1 = .ok (.iload_n 1, 1) ∧ decode cX11_other 2 = .ok (.iload_n 2, 1) ∧ decode cX11_other 3 = .ok (.invokevirtual 215, 3) ∧ decode cX11_other 6 = .ok (.astore 5, 2) ∧ decode cX11_other 8 = .ok (.aload 5, 2) ∧ decode cX11_other 10 = .ok (.iload_n 3, 1) ∧ decode cX11_other 11 = .ok (.invokevirtual 233, 3) ∧ decode cX11_other 14 = .ok (.ifCond .eq 14, 3) ∧ decode cX11_other 17 = .ok (.iload 4, 2) ∧ decode cX11_other 19 = .ok (.ifCond .lt 9, 3) ∧ decode cX11_other 22 = .ok (.iload 4, 2) ∧ decode cX11_other 24 = .ok (.iconst 3, 1) ∧ decode cX11_other 25 = .ok (.if_icmp .le 13, 3) ∧ decode cX11_other 28 = .ok (.new 114, 3) ∧ decode cX11_other 31 = .ok (.dup, 1) := by decide +kernel
theorem dX11_other_0 : decode cX11_other 0 = .ok (.aload_n 0, 1) := db_X11_other_0.1
theorem dX11_other_1 : decode cX11_other 1 = .ok (.iload_n 1, 1) := db_X11_other_0.2.1
theorem dX11_other_2 : decode cX11_other 2 = .ok (.iload_n 2, 1) := db_X11_other_0.2.2.1
theorem dX11_other_3 : decode cX11_other 3 = .ok (.invokevirtual 215, 3) := db_X11_other_0.2.2.2.1
theorem dX11_other_6 : decode cX11_other 6 = .ok (.astore 5, 2) := db_X11_other_0.2.2.2.2.1
theorem dX11_other_8 : decode cX11_other 8 = .ok (.aload 5, 2) := db_X11_other_0.2.2.2.2.2.1
theorem dX11_other_10 : decode cX11_other 10 = .ok (.iload_n 3, 1) := db_X11_other_0.2.2.2.2.2.2.1
theorem dX11_other_11 : decode cX11_other 11 = .ok (.invokevirtual 233, 3) := db_X11_other_0.2.2.2.2.2.2.2.1
theorem dX11_other_14 : decode cX11_other 14 = .ok (.ifCond .eq 14, 3) := db_X11_other_0.2.2.2.2.2.2.2.2.1
theorem dX11_other_17 : decode cX11_other 17 = .ok (.iload 4, 2) := db_X11_other_0.2.2.2.2.2.2.2.2.2.1
theorem dX11_other_19 : decode cX11_other 19 = .ok (.ifCond .lt 9, 3) := db_X11_other_0.2.2.2.2.2.2.2.2.2.2.1
theorem dX11_other_22 : decode cX11_other 22 = .ok (.iload 4, 2) := db_X11_other_0.2.2.2.2.2.2.2.2.2.2.2.1
theorem dX11_other_24 : decode cX11_other 24 = .ok (.iconst 3, 1) := db_X11_other_0.2.2.2.2.2.2.2.2.2.2.2.2.1
theorem dX11_other_25 : decode cX11_other 25 = .ok (.if_icmp .le 13, 3) := db_X11_other_0.2.2.2.2.2.2.2.2.2.2.2.2.2.1
theorem dX11_other_28 : decode cX11_other 28 = .ok (.new 114, 3) := db_X11_other_0.2.2.2.2.2.2.2.2.2.2.2.2.2.2.1
theorem dX11_other_31 : decode cX11_other 31 = .ok (.dup, 1) := db_X11_other_0.2.2.2.2.2.2.2.2.2.2.2.2.2.2.2
theorem db_X11_other_32 : decode cX11_other 32 = .ok (.ldc 237, 2) ∧ decode cX11_other 34 = .ok (.invokespecial 118, 3) ∧ decode cX11_other 37 = .ok (.athrow, 1) ∧ decode cX11_other 38 = .ok (.aload_n 0, 1) ∧ decode cX11_other 39 = .ok (.getfield 18, 3) ∧ decode cX11_other 42 = .ok (.iload_n 1, 1) ∧ decode cX11_other 43 = .ok (.aaload, 1) ∧ decode cX11_other 44 = .ok (.getfield 191, 3) ∧ decode cX11_other 47 = .ok (.ifCond .eq 12, 3) ∧ decode cX11_other 50 = .ok (.aload 5, 2) ∧ decode cX11_other 52 = .ok (.getfield 221, 3) ∧ decode cX11_other 55 = .ok (.iconst 2, 1) ∧ decode cX11_other 56 = .ok (.if_icmp .eq 5, 3) ∧ decode cX11_other 59 = .ok (.iconst (-1), 1) ∧ decode cX11_other 60 = .ok (.ireturn, 1) ∧ decode cX11_other 61 = .ok (.iload 4, 2) := by decide +kernel
theorem dX11_other_32 : decode cX11_other 32 = .ok (.ldc 237, 2) := db_X11_other_32.1
theorem dX11_other_34 : decode cX11_other 34 = .ok (.invokespecial 118, 3) := db_X11_other_32.2.1
theorem dX11_other_37 : decode cX11_other 37 = .ok (.athrow, 1) := db_X11_other_32.2.2.1
theorem dX11_other_38 : decode cX11_other 38 = .ok (.aload_n 0, 1) := db_X11_other_32.2.2.2.1
theorem dX11_other_39 : decode cX11_other 39 = .ok (.getfield 18, 3) := db_X11_other_32.2.2.2.2.1
theorem dX11_other_42 : decode cX11_other 42 = .ok (.iload_n 1, 1) := db_X11_other_32.2.2.2.2.2.1
theorem dX11_other_43 : decode cX11_other 43 = .ok (.aaload, 1) := db_X11_other_32.2.2.2.2.2.2.1
theorem dX11_other_44 : decode cX11_other 44 = .ok (.getfield 191, 3) := db_X11_other_32.2.2.2.2.2.2.2.1
theorem dX11_other_47 : decode cX11_other 47 = .ok (.ifCond .eq 12, 3) := db_X11_other_32.2.2.2.2.2.2.2.2.1
theorem dX11_other_50 : decode cX11_other 50 = .ok (.aload 5, 2) := db_X11_other_32.2.2.2.2.2.2.2.2.2.1
theorem dX11_other_52 : decode cX11_other 52 = .ok (.getfield 221, 3) := db_X11_other_32.2.2.2.2.2.2.2.2.2.2.1
theorem dX11_other_55 : decode cX11_other 55 = .ok (.iconst 2, 1) := db_X11_other_32.2.2.2.2.2.2.2.2.2.2.2.1
theorem dX11_other_56 : decode cX11_other 56 = .ok (.if_icmp .eq 5, 3) := db_X11_other_32.2.2.2.2.2.2.2.2.2.2.2.2.1
theorem dX11_other_59 : decode cX11_other 59 = .ok (.iconst (-1), 1) := db_X11_other_32.2.2.2.2.2.2.2.2.2.2.2.2.2.1
theorem dX11_other_60 : decode cX11_other 60 = .ok (.ireturn, 1) := db_X11_other_32.2.2.2.2.2.2.2.2.2.2.2.2.2.2.1
theorem dX11_other_61 : decode cX11_other 61 = .ok (.iload 4, 2) := db_X11_other_32.2.2.2.2.2.2.2.2.2.2.2.2.2.2.2
theorem db_X11_other_63 : decode cX11_other 63 = .ok (.tableswitch 49 0 2 #[25, 33, 41], 25) ∧ decode cX11_other 88 = .ok (.aload 5, 2) ∧ decode cX11_other 90 = .ok (.getfield 239, 3) ∧ decode cX11_other 93 = .ok (.iload_n 3, 1) ∧ decode cX11_other 94 = .ok (.iaload, 1) ∧ decode cX11_other 95 = .ok (.ireturn, 1) ∧ decode cX11_other 96 = .ok (.aload 5, 2) ∧ decode cX11_other 98 = .ok (.getfield 241, 3) ∧ decode cX11_other 101 = .ok (.iload_n 3, 1) ∧ decode cX11_other 102 = .ok (.iaload, 1) ∧ decode cX11_other 103 = .ok (.ireturn, 1) ∧ decode cX11_other 104 = .ok (.aload 5, 2) ∧ decode cX11_other 106 = .ok (.getfield 244, 3) ∧ decode cX11_other 109 = .ok (.iload_n 3, 1) ∧ decode cX11_other 110 = .ok (.iaload, 1) ∧ decode cX11_other 111 = .ok (.ireturn, 1) := by decide +kernel
theorem dX11_other_63 : decode cX11_other 63 = .ok (.tableswitch 49 0 2 #[25, 33, 41], 25) := db_X11_other_63.1
theorem dX11_other_88 : decode cX11_other 88 = .ok (.aload 5, 2) := db_X11_other_63.2.1
theorem dX11_other_90 : decode cX11_other 90 = .ok (.getfield 239, 3) := db_X11_other_63.2.2.1
theorem dX11_other_93 : decode cX11_other 93 = .ok (.iload_n 3, 1) := db_X11_other_63.2.2.2.1
theorem dX11_other_94 : decode cX11_other 94 = .ok (.iaload, 1) := db_X11_other_63.2.2.2.2.1
theorem dX11_other_95 : decode cX11_other 95 = .ok (.ireturn, 1) := db_X11_other_63.2.2.2.2.2.1
theorem dX11_other_96 : decode cX11_other 96 = .ok (.aload 5, 2) := db_X11_other_63.2.2.2.2.2.2.1
theorem dX11_other_98 : decode cX11_other 98 = .ok (.getfield 241, 3) := db_X11_other_63.2.2.2.2.2.2.2.1
theorem dX11_other_101 : decode cX11_other 101 = .ok (.iload_n 3, 1) := db_X11_other_63.2.2.2.2.2.2.2.2.1
theorem dX11_other_102 : decode cX11_other 102 = .ok (.iaload, 1) := db_X11_other_63.2.2.2.2.2.2.2.2.2.1
theorem dX11_other_103 : decode cX11_other 103 = .ok (.ireturn, 1) := db_X11_other_63.2.2.2.2.2.2.2.2.2.2.1
theorem dX11_other_104 : decode cX11_other 104 = .ok (.aload 5, 2) := db_X11_other_63.2.2.2.2.2.2.2.2.2.2.2.1
theorem dX11_other_106 : decode cX11_other 106 = .ok (.getfield 244, 3) := db_X11_other_63.2.2.2.2.2.2.2.2.2.2.2.2.1
theorem dX11_other_109 : decode cX11_other 109 = .ok (.iload_n 3, 1) := db_X11_other_63.2.2.2.2.2.2.2.2.2.2.2.2.2.1
theorem dX11_other_110 : decode cX11_other 110 = .ok (.iaload, 1) := db_X11_other_63.2.2.2.2.2.2.2.2.2.2.2.2.2.2.1
theorem dX11_other_111 : decode cX11_other 111 = .ok (.ireturn, 1) := db_X11_other_63.2.2.2.2.2.2.2.2.2.2.2.2.2.2.2
theorem db_X11_other_112 : decode cX11_other 112 = .ok (.aload 5, 2) ∧ decode cX11_other 114 = .ok (.getfield 247, 3) ∧ decode cX11_other 117 = .ok (.iload_n 3, 1) ∧ decode cX11_other 118 = .ok (.iaload, 1) ∧ decode cX11_other 119 = .ok (.ireturn, 1) := by decide +kernel
theorem dX11_other_112 : decode cX11_other 112 = .ok (.aload 5, 2) := db_X11_other_112.1
theorem dX11_other_114 : decode cX11_other 114 = .ok (.getfield 247, 3) := db_X11_other_112.2.1
theorem dX11_other_117 : decode cX11_other 117 = .ok (.iload_n 3, 1) := db_X11_other_112.2.2.1
theorem dX11_other_118 : decode cX11_other 118 = .ok (.iaload, 1) := db_X11_other_112.2.2.2.1
theorem dX11_other_119 : decode cX11_other 119 = .ok (.ireturn, 1) := db_X11_other_112.2.2.2.2
theorem db_X11_view_0 : decode cX11_view 0 = .ok (.iload_n 1, 1) ∧ decode cX11_view 1 = .ok (.aload_n 0, 1) ∧ decode cX11_view 2 = .ok (.getfield 12, 3) ∧ decode cX11_view 5 = .ok (.getfield 186, 3) ∧ decode cX11_view 8 = .ok (.if_icmp .ne 22, 3) ∧ decode cX11_view 11 = .ok (.aload_n 0, 1) ∧ decode cX11_view 12 = .ok (.iload_n 2, 1) ∧ decode cX11_view 13 = .ok (.invokevirtual 98, 3) ∧ decode cX11_view 16 = .ok (.aload_n 0, 1) ∧ decode cX11_view 17 = .ok (.getfield 37, 3) ∧ decode cX11_view 20 = .ok (.getfield 250, 3) ∧ decode cX11_view 23 = .ok (.iload_n 2, 1) ∧ decode cX11_view 24 = .ok (.aaload, 1) ∧ decode cX11_view 25 = .ok (.astore 4, 2) ∧ decode cX11_view 27 = .ok (.goto 14, 3) ∧ decode cX11_view 30 = .ok (.aload_n 0, 1) := by decide +kernel
theorem dX11_view_0 : decode cX11_view 0 = .ok (.iload_n 1, 1) := db_X11_view_0.1
theorem dX11_view_1 : decode cX11_view 1 = .ok (.aload_n 0, 1) := db_X11_view_0.2.1
theorem dX11_view_2 : decode cX11_view 2 = .ok (.getfield 12, 3) := db_X11_view_0.2.2.1
theorem dX11_view_5 : decode cX11_view 5 = .ok (.getfield 186, 3) := db_X11_view_0.2.2.2.1
theorem dX11_view_8 : decode cX11_view 8 = .ok (.if_icmp .ne 22, 3) := db_X11_view_0.2.2.2.2.1
theorem dX11_view_11 : decode cX11_view 11 = .ok (.aload_n 0, 1) := db_X11_view_0.2.2.2.2.2.1
theorem dX11_view_12 : decode cX11_view 12 = .ok (.iload_n 2, 1) := db_X11_view_0.2.2.2.2.2.2.1
theorem dX11_view_13 : decode cX11_view 13 = .ok (.invokevirtual 98, 3) := db_X11_view_0.2.2.2.2.2.2.2.1
theorem dX11_view_16 : decode cX11_view 16 = .ok (.aload_n 0, 1) := db_X11_view_0.2.2.2.2.2.2.2.2.1
theorem dX11_view_17 : decode cX11_view 17 = .ok (.getfield 37, 3) := db_X11_view_0.2.2.2.2.2.2.2.2.2.1
theorem dX11_view_20 : decode cX11_view 20 = .ok (.getfield 250, 3) := db_X11_view_0.2.2.2.2.2.2.2.2.2.2.1
theorem dX11_view_23 : decode cX11_view 23 = .ok (.iload_n 2, 1) := db_X11_view_0.2.2.2.2.2.2.2.2.2.2.2.1
theorem dX11_view_24 : decode cX11_view 24 = .ok (.aaload, 1) := db_X11_view_0.2.2.2.2.2.2.2.2.2.2.2.2.1
theorem dX11_view_25 : decode cX11_view 25 = .ok (.astore 4, 2) := db_X11_view_0.2.2.2.2.2.2.2.2.2.2.2.2.2.1
theorem dX11_view_27 : decode cX11_view 27 = .ok (.goto 14, 3) := db_X11_view_0.2.2.2.2.2.2.2.2.2.2.2.2.2.2.1
theorem dX11_view_30 : decode cX11_view 30 = .ok (.aload_n 0, 1) := db_X11_view_0.2.2.2.2.2.2.2.2.2.2.2.2.2.2.2
theorem db_X11_view_31 : decode cX11_view 31 = .ok (.iload_n 1, 1) ∧ decode cX11_view 32 = .ok (.iload_n 2, 1) ∧ decode cX11_view 33 = .ok (.invokevirtual 215, 3) ∧ decode cX11_view 36 = .ok (.getfield 254, 3) ∧ decode cX11_view 39 = .ok (.astore 4, 2) ∧ decode cX11_view 41 = .ok (.iload_n 3, 1) ∧ decode cX11_view 42 = .ok (.ifCond .lt 8, 3) ∧ decode cX11_view 45 = .ok (.iload_n 3, 1) ∧ decode cX11_view 46 = .ok (.iconst 4, 1) ∧ decode cX11_view 47 = .ok (.if_icmp .lt 14, 3) ∧ decode cX11_view 50 = .ok (.new 114, 3) ∧ decode cX11_view 53 = .ok (.dup, 1) ∧ decode cX11_view 54 = .ok (.ldc_w 257, 3) ∧ decode cX11_view 57 = .ok (.invokespecial 118, 3) ∧ decode cX11_view 60 = .ok (.athrow, 1) ∧ decode cX11_view 61 = .ok (.aload_n 0, 1) := by decide +kernel
theorem dX11_view_31 : decode cX11_view 31 = .ok (.iload_n 1, 1) := db_X11_view_31.1
theorem dX11_view_32 : decode cX11_view 32 = .ok (.iload_n 2, 1) := db_X11_view_31.2.1
theorem dX11_view_33 : decode cX11_view 33 = .ok (.invokevirtual 215, 3) := db_X11_view_31.2.2.1
theorem dX11_view_36 : decode cX11_view 36 = .ok (.getfield 254, 3) := db_X11_view_31.2.2.2.1
theorem dX11_view_39 : decode cX11_view 39 = .ok (.astore 4, 2) := db_X11_view_31.2.2.2.2.1
theorem dX11_view_41 : decode cX11_view 41 = .ok (.iload_n 3, 1) := db_X11_view_31.2.2.2.2.2.1
theorem dX11_view_42 : decode cX11_view 42 = .ok (.ifCond .lt 8, 3) := db_X11_view_31.2.2.2.2.2.2.1
theorem dX11_view_45 : decode cX11_view 45 = .ok (.iload_n 3, 1) := db_X11_view_31.2.2.2.2.2.2.2.1
theorem dX11_view_46 : decode cX11_view 46 = .ok (.iconst 4, 1) := db_X11_view_31.2.2.2.2.2.2.2.2.1
theorem dX11_view_47 : decode cX11_view 47 = .ok (.if_icmp .lt 14, 3) := db_X11_view_31.2.2.2.2.2.2.2.2.2.1
theorem dX11_view_50 : decode cX11_view 50 = .ok (.new 114, 3) := db_X11_view_31.2.2.2.2.2.2.2.2.2.2.1
theorem dX11_view_53 : decode cX11_view 53 = .ok (.dup, 1) := db_X11_view_31.2.2.2.2.2.2.2.2.2.2.2.1
theorem dX11_view_54 : decode cX11_view 54 = .ok (.ldc_w 257, 3) := db_X11_view_31.2.2.2.2.2.2.2.2.2.2.2.2.1
theorem dX11_view_57 : decode cX11_view 57 = .ok (.invokespecial 118, 3) := db_X11_view_31.2.2.2.2.2.2.2.2.2.2.2.2.2.1
theorem dX11_view_60 : decode cX11_view 60 = .ok (.athrow, 1) := db_X11_view_31.2.2.2.2.2.2.2.2.2.2.2.2.2.2.1
theorem dX11_view_61 : decode cX11_view 61 = .ok (.aload_n 0, 1) := db_X11_view_31.2.2.2.2.2.2.2.2.2.2.2.2.2.2.2
theorem db_X11_view_62 : decode cX11_view 62 = .ok (.getfield 18, 3) ∧ decode cX11_view 65 = .ok (.iload_n 1, 1) ∧ decode cX11_view 66 = .ok (.aaload, 1) ∧ decode cX11_view 67 = .ok (.getfield 191, 3) ∧ decode cX11_view 70 = .ok (.ifCond .eq 10, 3) ∧ decode cX11_view 73 = .ok (.aload 4, 2) ∧ decode cX11_view 75 = .ok (.iload_n 3, 1) ∧ decode cX11_view 76 = .ok (.iaload, 1) ∧ decode cX11_view 77 = .ok (.goto 4, 3) ∧ decode cX11_view 81 = .ok (.ireturn, 1) := by decide +kernel
theorem dX11_view_62 : decode cX11_view 62 = .ok (.getfield 18, 3) := db_X11_view_62.1
theorem dX11_view_65 : decode cX11_view 65 = .ok (.iload_n 1, 1) := db_X11_view_62.2.1
theorem dX11_view_66 : decode cX11_view 66 = .ok (.aaload, 1) := db_X11_view_62.2.2.1
theorem dX11_view_67 : decode cX11_view 67 = .ok (.getfield 191, 3) := db_X11_view_62.2.2.2.1
theorem dX11_view_70 : decode cX11_view 70 = .ok (.ifCond .eq 10, 3) := db_X11_view_62.2.2.2.2.1
theorem dX11_view_73 : decode cX11_view 73 = .ok (.aload 4, 2) := db_X11_view_62.2.2.2.2.2.1
theorem dX11_view_75 : decode cX11_view 75 = .ok (.iload_n 3, 1) := db_X11_view_62.2.2.2.2.2.2.1
theorem dX11_view_76 : decode cX11_view 76 = .ok (.iaload, 1) := db_X11_view_62.2.2.2.2.2.2.2.1
theorem dX11_view_77 : decode cX11_view 77 = .ok (.goto 4, 3) := db_X11_view_62.2.2.2.2.2.2.2.2.1
theorem dX11_view_81 : decode cX11_view 81 = .ok (.ireturn, 1) := db_X11_view_62.2.2.2.2.2.2.2.2.2
theorem db_X11_document_0 : decode cX11_document 0 = .ok (.aload_n 0, 1) ∧ decode cX11_document 1 = .ok (.iload_n 2, 1) ∧ decode cX11_document 2 = .ok (.invokevirtual 73, 3) ∧ decode cX11_document 5 = .ok (.aload_n 0, 1) ∧ decode cX11_document 6 = .ok (.iload_n 1, 1) ∧ decode cX11_document 7 = .ok (.aload_n 0, 1) ∧ decode cX11_document 8 = .ok (.getfield 12, 3) ∧ decode cX11_document 11 = .ok (.iload_n 2, 1) ∧ decode cX11_document 12 = .ok (.invokevirtual 259, 3) ∧ decode cX11_document 15 = .ok (.invokevirtual 215, 3) ∧ decode cX11_document 18 = .ok (.getfield 224, 3) ∧ decode cX11_document 21 = .ok (.astore 4, 2) ∧ decode cX11_document 23 = .ok (.iload_n 3, 1) ∧ decode cX11_document 24 = .ok (.ifCond .lt 8, 3) ∧ decode cX11_document 27 = .ok (.iload_n 3, 1) ∧ decode cX11_document 28 = .ok (.iconst 2, 1) := by decide +kernel
theorem dX11_document_0 : decode cX11_document 0 = .ok (.aload_n 0, 1) := db_X11_document_0.1
theorem dX11_document_1 : decode cX11_document 1 = .ok (.iload_n 2, 1) := db_X11_document_0.2.1
theorem dX11_document_2 : decode cX11_document 2 = .ok (.invokevirtual 73, 3) := db_X11_document_0.2.2.1
theorem dX11_document_5 : decode cX11_document 5 = .ok (.aload_n 0, 1) := db_X11_document_0.2.2.2.1
theorem dX11_document_6 : decode cX11_document 6 = .ok (.iload_n 1, 1) := db_X11_document_0.2.2.2.2.1
theorem dX11_document_7 : decode cX11_document 7 = .ok (.aload_n 0, 1) := db_X11_document_0.2.2.2.2.2.1
theorem dX11_document_8 : decode cX11_document 8 = .ok (.getfield 12, 3) := db_X11_document_0.2.2.2.2.2.2.1
theorem dX11_document_11 : decode cX11_document 11 = .ok (.iload_n 2, 1) := db_X11_document_0.2.2.2.2.2.2.2.1
theorem dX11_document_12 : decode cX11_document 12 = .ok (.invokevirtual 259, 3) := db_X11_document_0.2.2.2.2.2.2.2.2.1
theorem dX11_document_15 : decode cX11_document 15 = .ok (.invokevirtual 215, 3) := db_X11_document_0.2.2.2.2.2.2.2.2.2.1
theorem dX11_document_18 : decode cX11_document 18 = .ok (.getfield 224, 3) := db_X11_document_0.2.2.2.2.2.2.2.2.2.2.1
theorem dX11_document_21 : decode cX11_document 21 = .ok (.astore 4, 2) := db_X11_document_0.2.2.2.2.2.2.2.2.2.2.2.1
theorem dX11_document_23 : decode cX11_document 23 = .ok (.iload_n 3, 1) := db_X11_document_0.2.2.2.2.2.2.2.2.2.2.2.2.1
theorem dX11_document_24 : decode cX11_document 24 = .ok (.ifCond .lt 8, 3) := db_X11_document_0.2.2.2.2.2.2.2.2.2.2.2.2.2.1
theorem dX11_document_27 : decode cX11_document 27 = .ok (.iload_n 3, 1) := db_X11_document_0.2.2.2.2.2.2.2.2.2.2.2.2.2.2.1
theorem dX11_document_28 : decode cX11_document 28 = .ok (.iconst 2, 1) := db_X11_document_0.2.2.2.2.2.2.2.2.2.2.2.2.2.2.2
theorem db_X11_document_29 : decode cX11_document 29 = .ok (.if_icmp .le 14, 3) ∧ decode cX11_document 32 = .ok (.new 114, 3) ∧ decode cX11_document 35 = .ok (.dup, 1) ∧ decode cX11_document 36 = .ok (.ldc_w 262, 3) ∧ decode cX11_document 39 = .ok (.invokespecial 118, 3) ∧ decode cX11_document 42 = .ok (.athrow, 1) ∧ decode cX11_document 43 = .ok (.aload_n 0, 1) ∧ decode cX11_document 44 = .ok (.getfield 18, 3) ∧ decode cX11_document 47 = .ok (.iload_n 1, 1) ∧ decode cX11_document 48 = .ok (.aaload, 1) ∧ decode cX11_document 49 = .ok (.getfield 191, 3) ∧ decode cX11_document 52 = .ok (.ifCond .ne 5, 3) ∧ decode cX11_document 57 = .ok (.iload_n 3, 1) ∧ decode cX11_document 58 = .ok (.iconst 2, 1) ∧ decode cX11_document 59 = .ok (.if_icmp .ne 14, 3) ∧ decode cX11_document 62 = .ok (.aload 4, 2) := by decide +kernel
theorem dX11_document_29 : decode cX11_document 29 = .ok (.if_icmp .le 14, 3) := db_X11_document_29.1
theorem dX11_document_32 : decode cX11_document 32 = .ok (.new 114, 3) := db_X11_document_29.2.1
theorem dX11_document_35 : decode cX11_document 35 = .ok (.dup, 1) := db_X11_document_29.2.2.1
theorem dX11_document_36 : decode cX11_document 36 = .ok (.ldc_w 262, 3) := db_X11_document_29.2.2.2.1
theorem dX11_document_39 : decode cX11_document 39 = .ok (.invokespecial 118, 3) := db_X11_document_29.2.2.2.2.1
theorem dX11_document_42 : decode cX11_document 42 = .ok (.athrow, 1) := db_X11_document_29.2.2.2.2.2.1
theorem dX11_document_43 : decode cX11_document 43 = .ok (.aload_n 0, 1) := db_X11_document_29.2.2.2.2.2.2.1
theorem dX11_document_44 : decode cX11_document 44 = .ok (.getfield 18, 3) := db_X11_document_29.2.2.2.2.2.2.2.1
theorem dX11_document_47 : decode cX11_document 47 = .ok (.iload_n 1, 1) := db_X11_document_29.2.2.2.2.2.2.2.2.1
theorem dX11_document_48 : decode cX11_document 48 = .ok (.aaload, 1) := db_X11_document_29.2.2.2.2.2.2.2.2.2.1
theorem dX11_document_49 : decode cX11_document 49 = .ok (.getfield 191, 3) := db_X11_document_29.2.2.2.2.2.2.2.2.2.2.1
theorem dX11_document_52 : decode cX11_document 52 = .ok (.ifCond .ne 5, 3) := db_X11_document_29.2.2.2.2.2.2.2.2.2.2.2.1
theorem dX11_document_57 : decode cX11_document 57 = .ok (.iload_n 3, 1) := db_X11_document_29.2.2.2.2.2.2.2.2.2.2.2.2.1
theorem dX11_document_58 : decode cX11_document 58 = .ok (.iconst 2, 1) := db_X11_document_29.2.2.2.2.2.2.2.2.2.2.2.2.2.1
theorem dX11_document_59 : decode cX11_document 59 = .ok (.if_icmp .ne 14, 3) := db_X11_document_29.2.2.2.2.2.2.2.2.2.2.2.2.2.2.1
theorem dX11_document_62 : decode cX11_document 62 = .ok (.aload 4, 2) := db_X11_document_29.2.2.2.2.2.2.2.2.2.2.2.2.2.2.2
theorem db_X11_document_64 : decode cX11_document 64 = .ok (.getfield 264, 3) ∧ decode cX11_document 67 = .ok (.getfield 268, 3) ∧ decode cX11_document 70 = .ok (.iload_n 2, 1) ∧ decode cX11_document 71 = .ok (.iaload, 1) ∧ decode cX11_document 72 = .ok (.ireturn, 1) ∧ decode cX11_document 73 = .ok (.aload 4, 2) ∧ decode cX11_document 75 = .ok (.iload_n 2, 1) ∧ decode cX11_document 76 = .ok (.iload_n 3, 1) ∧ decode cX11_document 77 = .ok (.ifCond .ne 11, 3) ∧ decode cX11_document 80 = .ok (.aload 4, 2) ∧ decode cX11_document 82 = .ok (.getfield 273, 3) ∧ decode cX11_document 85 = .ok (.goto 8, 3) ∧ decode cX11_document 88 = .ok (.aload 4, 2) ∧ decode cX11_document 90 = .ok (.getfield 276, 3) ∧ decode cX11_document 93 = .ok (.invokevirtual 279, 3) ∧ decode cX11_document 96 = .ok (.ireturn, 1) := by decide +kernel
theorem dX11_document_64 : decode cX11_document 64 = .ok (.getfield 264, 3) := db_X11_document_64.1
theorem dX11_document_67 : decode cX11_document 67 = .ok (.getfield 268, 3) := db_X11_document_64.2.1
theorem dX11_document_70 : decode cX11_document 70 = .ok (.iload_n 2, 1) := db_X11_document_64.2.2.1
theorem dX11_document_71 : decode cX11_document 71 = .ok (.iaload, 1) := db_X11_document_64.2.2.2.1
theorem dX11_document_72 : decode cX11_document 72 = .ok (.ireturn, 1) := db_X11_document_64.2.2.2.2.1
theorem dX11_document_73 : decode cX11_document 73 = .ok (.aload 4, 2) := db_X11_document_64.2.2.2.2.2.1
theorem dX11_document_75 : decode cX11_document 75 = .ok (.iload_n 2, 1) := db_X11_document_64.2.2.2.2.2.2.1
theorem dX11_document_76 : decode cX11_document 76 = .ok (.iload_n 3, 1) := db_X11_document_64.2.2.2.2.2.2.2.1
theorem dX11_document_77 : decode cX11_document 77 = .ok (.ifCond .ne 11, 3) := db_X11_document_64.2.2.2.2.2.2.2.2.1
theorem dX11_document_80 : decode cX11_document 80 = .ok (.aload 4, 2) := db_X11_document_64.2.2.2.2.2.2.2.2.2.1
theorem dX11_document_82 : decode cX11_document 82 = .ok (.getfield 273, 3) := db_X11_document_64.2.2.2.2.2.2.2.2.2.2.1
theorem dX11_document_85 : decode cX11_document 85 = .ok (.goto 8, 3) := db_X11_document_64.2.2.2.2.2.2.2.2.2.2.2.1
theorem dX11_document_88 : decode cX11_document 88 = .ok (.aload 4, 2) := db_X11_document_64.2.2.2.2.2.2.2.2.2.2.2.2.1
theorem dX11_document_90 : decode cX11_document 90 = .ok (.getfield 276, 3) := db_X11_document_64.2.2.2.2.2.2.2.2.2.2.2.2.2.1
theorem dX11_document_93 : decode cX11_document 93 = .ok (.invokevirtual 279, 3) := db_X11_document_64.2.2.2.2.2.2.2.2.2.2.2.2.2.2.1
theorem dX11_document_96 : decode cX11_document 96 = .ok (.ireturn, 1) := db_X11_document_64.2.2.2.2.2.2.2.2.2.2.2.2.2.2.2
theorem db_X11_act_0 : decode cX11_act 0 = .ok (.aload_n 0, 1) ∧ decode cX11_act 1 = .ok (.iload_n 1, 1) ∧ decode cX11_act 2 = .ok (.iload_n 2, 1) ∧ decode cX11_act 3 = .ok (.invokevirtual 215, 3) ∧ decode cX11_act 6 = .ok (.getfield 224, 3) ∧ decode cX11_act 9 = .ok (.astore 4, 2) ∧ decode cX11_act 11 = .ok (.aload_n 0, 1) ∧ decode cX11_act 12 = .ok (.getfield 18, 3) ∧ decode cX11_act 15 = .ok (.iload_n 1, 1) ∧ decode cX11_act 16 = .ok (.aaload, 1) ∧ decode cX11_act 17 = .ok (.getfield 191, 3) ∧ decode cX11_act 20 = .ok (.ifCond .eq 12, 3) ∧ decode cX11_act 23 = .ok (.aload 4, 2) ∧ decode cX11_act 25 = .ok (.iload_n 3, 1) ∧ decode cX11_act 26 = .ok (.invokevirtual 282, 3) ∧ decode cX11_act 29 = .ok (.goto 4, 3) := by decide +kernel
theorem dX11_act_0 : decode cX11_act 0 = .ok (.aload_n 0, 1) := db_X11_act_0.1
theorem dX11_act_1 : decode cX11_act 1 = .ok (.iload_n 1, 1) := db_X11_act_0.2.1
theorem dX11_act_2 : decode cX11_act 2 = .ok (.iload_n 2, 1) := db_X11_act_0.2.2.1
theorem dX11_act_3 : decode cX11_act 3 = .ok (.invokevirtual 215, 3) := db_X11_act_0.2.2.2.1
theorem dX11_act_6 : decode cX11_act 6 = .ok (.getfield 224, 3) := db_X11_act_0.2.2.2.2.1
theorem dX11_act_9 : decode cX11_act 9 = .ok (.astore 4, 2) := db_X11_act_0.2.2.2.2.2.1
theorem dX11_act_11 : decode cX11_act 11 = .ok (.aload_n 0, 1) := db_X11_act_0.2.2.2.2.2.2.1
theorem dX11_act_12 : decode cX11_act 12 = .ok (.getfield 18, 3) := db_X11_act_0.2.2.2.2.2.2.2.1
theorem dX11_act_15 : decode cX11_act 15 = .ok (.iload_n 1, 1) := db_X11_act_0.2.2.2.2.2.2.2.2.1
theorem dX11_act_16 : decode cX11_act 16 = .ok (.aaload, 1) := db_X11_act_0.2.2.2.2.2.2.2.2.2.1
theorem dX11_act_17 : decode cX11_act 17 = .ok (.getfield 191, 3) := db_X11_act_0.2.2.2.2.2.2.2.2.2.2.1
theorem dX11_act_20 : decode cX11_act 20 = .ok (.ifCond .eq 12, 3) := db_X11_act_0.2.2.2.2.2.2.2.2.2.2.2.1
theorem dX11_act_23 : decode cX11_act 23 = .ok (.aload 4, 2) := db_X11_act_0.2.2.2.2.2.2.2.2.2.2.2.2.1
theorem dX11_act_25 : decode cX11_act 25 = .ok (.iload_n 3, 1) := db_X11_act_0.2.2.2.2.2.2.2.2.2.2.2.2.2.1
theorem dX11_act_26 : decode cX11_act 26 = .ok (.invokevirtual 282, 3) := db_X11_act_0.2.2.2.2.2.2.2.2.2.2.2.2.2.2.1
theorem dX11_act_29 : decode cX11_act 29 = .ok (.goto 4, 3) := db_X11_act_0.2.2.2.2.2.2.2.2.2.2.2.2.2.2.2
theorem dX11_act_33 : decode cX11_act 33 = .ok (.ireturn, 1) := by decide +kernel
theorem db_X11_disk_0 : decode cX11_disk 0 = .ok (.iload_n 1, 1) ∧ decode cX11_disk 1 = .ok (.aload_n 0, 1) ∧ decode cX11_disk 2 = .ok (.getfield 12, 3) ∧ decode cX11_disk 5 = .ok (.getfield 186, 3) ∧ decode cX11_disk 8 = .ok (.if_icmp .ne 19, 3) ∧ decode cX11_disk 11 = .ok (.iload_n 2, 1) ∧ decode cX11_disk 12 = .ok (.ifCond .ne 15, 3) ∧ decode cX11_disk 15 = .ok (.aload_n 0, 1) ∧ decode cX11_disk 16 = .ok (.getfield 37, 3) ∧ decode cX11_disk 19 = .ok (.getfield 285, 3) ∧ decode cX11_disk 22 = .ok (.astore 5, 2) ∧ decode cX11_disk 24 = .ok (.goto 17, 3) ∧ decode cX11_disk 27 = .ok (.aload_n 0, 1) ∧ decode cX11_disk 28 = .ok (.iload_n 1, 1) ∧ decode cX11_disk 29 = .ok (.iload_n 2, 1) ∧ decode cX11_disk 30 = .ok (.invokevirtual 215, 3) := by decide +kernel
theorem dX11_disk_0 : decode cX11_disk 0 = .ok (.iload_n 1, 1) := db_X11_disk_0.1
theorem dX11_disk_1 : decode cX11_disk 1 = .ok (.aload_n 0, 1) := db_X11_disk_0.2.1
theorem dX11_disk_2 : decode cX11_disk 2 = .ok (.getfield 12, 3) := db_X11_disk_0.2.2.1
theorem dX11_disk_5 : decode cX11_disk 5 = .ok (.getfield 186, 3) := db_X11_disk_0.2.2.2.1
theorem dX11_disk_8 : decode cX11_disk 8 = .ok (.if_icmp .ne 19, 3) := db_X11_disk_0.2.2.2.2.1
theorem dX11_disk_11 : decode cX11_disk 11 = .ok (.iload_n 2, 1) := db_X11_disk_0.2.2.2.2.2.1
theorem dX11_disk_12 : decode cX11_disk 12 = .ok (.ifCond .ne 15, 3) := db_X11_disk_0.2.2.2.2.2.2.1
theorem dX11_disk_15 : decode cX11_disk 15 = .ok (.aload_n 0, 1) := db_X11_disk_0.2.2.2.2.2.2.2.1
theorem dX11_disk_16 : decode cX11_disk 16 = .ok (.getfield 37, 3) := db_X11_disk_0.2.2.2.2.2.2.2.2.1
theorem dX11_disk_19 : decode cX11_disk 19 = .ok (.getfield 285, 3) := db_X11_disk_0.2.2.2.2.2.2.2.2.2.1
theorem dX11_disk_22 : decode cX11_disk 22 = .ok (.astore 5, 2) := db_X11_disk_0.2.2.2.2.2.2.2.2.2.2.1
theorem dX11_disk_24 : decode cX11_disk 24 = .ok (.goto 17, 3) := db_X11_disk_0.2.2.2.2.2.2.2.2.2.2.2.1
theorem dX11_disk_27 : decode cX11_disk 27 = .ok (.aload_n 0, 1) := db_X11_disk_0.2.2.2.2.2.2.2.2.2.2.2.2.1
theorem dX11_disk_28 : decode cX11_disk 28 = .ok (.iload_n 1, 1) := db_X11_disk_0.2.2.2.2.2.2.2.2.2.2.2.2.2.1
theorem dX11_disk_29 : decode cX11_disk 29 = .ok (.iload_n 2, 1) := db_X11_disk_0.2.2.2.2.2.2.2.2.2.2.2.2.2.2.1
theorem dX11_disk_30 : decode cX11_disk 30 = .ok (.invokevirtual 215, 3) := db_X11_disk_0.2.2.2.2.2.2.2.2.2.2.2.2.2.2.2
theorem db_X11_disk_33 : decode cX11_disk 33 = .ok (.getfield 224, 3) ∧ decode cX11_disk 36 = .ok (.getfield 289, 3) ∧ decode cX11_disk 39 = .ok (.astore 5, 2) ∧ decode cX11_disk 41 = .ok (.iload_n 3, 1) ∧ decode cX11_disk 42 = .ok (.ifCond .lt 22, 3) ∧ decode cX11_disk 45 = .ok (.iload_n 3, 1) ∧ decode cX11_disk 46 = .ok (.sipush 202, 3) ∧ decode cX11_disk 49 = .ok (.if_icmp .ge 15, 3) ∧ decode cX11_disk 52 = .ok (.iload 4, 2) ∧ decode cX11_disk 54 = .ok (.ifCond .lt 10, 3) ∧ decode cX11_disk 57 = .ok (.iload 4, 2) ∧ decode cX11_disk 59 = .ok (.bipush 64, 2) ∧ decode cX11_disk 61 = .ok (.if_icmp .lt 14, 3) ∧ decode cX11_disk 64 = .ok (.new 114, 3) ∧ decode cX11_disk 67 = .ok (.dup, 1) ∧ decode cX11_disk 68 = .ok (.ldc_w 290, 3) := by decide +kernel
theorem dX11_disk_33 : decode cX11_disk 33 = .ok (.getfield 224, 3) := db_X11_disk_33.1
theorem dX11_disk_36 : decode cX11_disk 36 = .ok (.getfield 289, 3) := db_X11_disk_33.2.1
theorem dX11_disk_39 : decode cX11_disk 39 = .ok (.astore 5, 2) := db_X11_disk_33.2.2.1
theorem dX11_disk_41 : decode cX11_disk 41 = .ok (.iload_n 3, 1) := db_X11_disk_33.2.2.2.1
theorem dX11_disk_42 : decode cX11_disk 42 = .ok (.ifCond .lt 22, 3) := db_X11_disk_33.2.2.2.2.1
theorem dX11_disk_45 : decode cX11_disk 45 = .ok (.iload_n 3, 1) := db_X11_disk_33.2.2.2.2.2.1
theorem dX11_disk_46 : decode cX11_disk 46 = .ok (.sipush 202, 3) := db_X11_disk_33.2.2.2.2.2.2.1
theorem dX11_disk_49 : decode cX11_disk 49 = .ok (.if_icmp .ge 15, 3) := db_X11_disk_33.2.2.2.2.2.2.2.1
theorem dX11_disk_52 : decode cX11_disk 52 = .ok (.iload 4, 2) := db_X11_disk_33.2.2.2.2.2.2.2.2.1
theorem dX11_disk_54 : decode cX11_disk 54 = .ok (.ifCond .lt 10, 3) := db_X11_disk_33.2.2.2.2.2.2.2.2.2.1
theorem dX11_disk_57 : decode cX11_disk 57 = .ok (.iload 4, 2) := db_X11_disk_33.2.2.2.2.2.2.2.2.2.2.1
theorem dX11_disk_59 : decode cX11_disk 59 = .ok (.bipush 64, 2) := db_X11_disk_33.2.2.2.2.2.2.2.2.2.2.2.1
theorem dX11_disk_61 : decode cX11_disk 61 = .ok (.if_icmp .lt 14, 3) := db_X11_disk_33.2.2.2.2.2.2.2.2.2.2.2.2.1
theorem dX11_disk_64 : decode cX11_disk 64 = .ok (.new 114, 3) := db_X11_disk_33.2.2.2.2.2.2.2.2.2.2.2.2.2.1
theorem dX11_disk_67 : decode cX11_disk 67 = .ok (.dup, 1) := db_X11_disk_33.2.2.2.2.2.2.2.2.2.2.2.2.2.2.1
theorem dX11_disk_68 : decode cX11_disk 68 = .ok (.ldc_w 290, 3) := db_X11_disk_33.2.2.2.2.2.2.2.2.2.2.2.2.2.2.2
theorem db_X11_disk_71 : decode cX11_disk 71 = .ok (.invokespecial 118, 3) ∧ decode cX11_disk 74 = .ok (.athrow, 1) ∧ decode cX11_disk 75 = .ok (.aload 5, 2) ∧ decode cX11_disk 77 = .ok (.getfield 292, 3) ∧ decode cX11_disk 80 = .ok (.iload_n 3, 1) ∧ decode cX11_disk 81 = .ok (.bipush 64, 2) ∧ decode cX11_disk 83 = .ok (.imul, 1) ∧ decode cX11_disk 84 = .ok (.iload 4, 2) ∧ decode cX11_disk 86 = .ok (.iadd, 1) ∧ decode cX11_disk 87 = .ok (.baload, 1) ∧ decode cX11_disk 88 = .ok (.sipush 255, 3) ∧ decode cX11_disk 91 = .ok (.iand, 1) ∧ decode cX11_disk 92 = .ok (.ireturn, 1) := by decide +kernel
theorem dX11_disk_71 : decode cX11_disk 71 = .ok (.invokespecial 118, 3) := db_X11_disk_71.1
theorem dX11_disk_74 : decode cX11_disk 74 = .ok (.athrow, 1) := db_X11_disk_71.2.1
theorem dX11_disk_75 : decode cX11_disk 75 = .ok (.aload 5, 2) := db_X11_disk_71.2.2.1
theorem dX11_disk_77 : decode cX11_disk 77 = .ok (.getfield 292, 3) := db_X11_disk_71.2.2.2.1
theorem dX11_disk_80 : decode cX11_disk 80 = .ok (.iload_n 3, 1) := db_X11_disk_71.2.2.2.2.1
theorem dX11_disk_81 : decode cX11_disk 81 = .ok (.bipush 64, 2) := db_X11_disk_71.2.2.2.2.2.1
theorem dX11_disk_83 : decode cX11_disk 83 = .ok (.imul, 1) := db_X11_disk_71.2.2.2.2.2.2.1
theorem dX11_disk_84 : decode cX11_disk 84 = .ok (.iload 4, 2) := db_X11_disk_71.2.2.2.2.2.2.2.1
theorem dX11_disk_86 : decode cX11_disk 86 = .ok (.iadd, 1) := db_X11_disk_71.2.2.2.2.2.2.2.2.1
theorem dX11_disk_87 : decode cX11_disk 87 = .ok (.baload, 1) := db_X11_disk_71.2.2.2.2.2.2.2.2.2.1
theorem dX11_disk_88 : decode cX11_disk 88 = .ok (.sipush 255, 3) := db_X11_disk_71.2.2.2.2.2.2.2.2.2.2.1
theorem dX11_disk_91 : decode cX11_disk 91 = .ok (.iand, 1) := db_X11_disk_71.2.2.2.2.2.2.2.2.2.2.2.1
theorem dX11_disk_92 : decode cX11_disk 92 = .ok (.ireturn, 1) := db_X11_disk_71.2.2.2.2.2.2.2.2.2.2.2.2
theorem db_X11_segment_0 : decode cX11_segment 0 = .ok (.aload_n 0, 1) ∧ decode cX11_segment 1 = .ok (.iload_n 1, 1) ∧ decode cX11_segment 2 = .ok (.iload_n 2, 1) ∧ decode cX11_segment 3 = .ok (.iload_n 3, 1) ∧ decode cX11_segment 4 = .ok (.invokevirtual 298, 3) := by decide +kernel
theorem dX11_segment_0 : decode cX11_segment 0 = .ok (.aload_n 0, 1) := db_X11_segment_0.1
theorem dX11_segment_1 : decode cX11_segment 1 = .ok (.iload_n 1, 1) := db_X11_segment_0.2.1
theorem dX11_segment_2 : decode cX11_segment 2 = .ok (.iload_n 2, 1) := db_X11_segment_0.2.2.1
theorem dX11_segment_3 : decode cX11_segment 3 = .ok (.iload_n 3, 1) := db_X11_segment_0.2.2.2.1
theorem dX11_segment_4 : decode cX11_segment 4 = .ok (.invokevirtual 298, 3) := db_X11_segment_0.2.2.2.2
theorem db_X11_octet_0 : decode cX11_octet 0 = .ok (.aload_n 0, 1) ∧ decode cX11_octet 1 = .ok (.iload_n 1, 1) ∧ decode cX11_octet 2 = .ok (.iload_n 2, 1) ∧ decode cX11_octet 3 = .ok (.iload_n 3, 1) ∧ decode cX11_octet 4 = .ok (.invokevirtual 298, 3) := by decide +kernel
theorem dX11_octet_0 : decode cX11_octet 0 = .ok (.aload_n 0, 1) := db_X11_octet_0.1
theorem dX11_octet_1 : decode cX11_octet 1 = .ok (.iload_n 1, 1) := db_X11_octet_0.2.1
theorem dX11_octet_2 : decode cX11_octet 2 = .ok (.iload_n 2, 1) := db_X11_octet_0.2.2.1
theorem dX11_octet_3 : decode cX11_octet 3 = .ok (.iload_n 3, 1) := db_X11_octet_0.2.2.2.1
theorem dX11_octet_4 : decode cX11_octet 4 = .ok (.invokevirtual 298, 3) := db_X11_octet_0.2.2.2.2
theorem db_X11_told_0 : decode cX11_told 0 = .ok (.iload_n 1, 1) ∧ decode cX11_told 1 = .ok (.tableswitch 96 0 6 #[43, 51, 59, 67, 75, 83, 91], 43) ∧ decode cX11_told 44 = .ok (.aload_n 0, 1) ∧ decode cX11_told 45 = .ok (.getfield 12, 3) ∧ decode cX11_told 48 = .ok (.getfield 178, 3) ∧ decode cX11_told 51 = .ok (.ireturn, 1) ∧ decode cX11_told 52 = .ok (.aload_n 0, 1) ∧ decode cX11_told 53 = .ok (.getfield 12, 3) ∧ decode cX11_told 56 = .ok (.getfield 318, 3) ∧ decode cX11_told 59 = .ok (.ireturn, 1) ∧ decode cX11_told 60 = .ok (.aload_n 0, 1) ∧ decode cX11_told 61 = .ok (.getfield 12, 3) ∧ decode cX11_told 64 = .ok (.invokevirtual 321, 3) ∧ decode cX11_told 67 = .ok (.ireturn, 1) ∧ decode cX11_told 68 = .ok (.aload_n 0, 1) ∧ decode cX11_told 69 = .ok (.getfield 12, 3) := by decide +kernel
theorem dX11_told_0 : decode cX11_told 0 = .ok (.iload_n 1, 1) := db_X11_told_0.1
theorem dX11_told_1 : decode cX11_told 1 = .ok (.tableswitch 96 0 6 #[43, 51, 59, 67, 75, 83, 91], 43) := db_X11_told_0.2.1
theorem dX11_told_44 : decode cX11_told 44 = .ok (.aload_n 0, 1) := db_X11_told_0.2.2.1
theorem dX11_told_45 : decode cX11_told 45 = .ok (.getfield 12, 3) := db_X11_told_0.2.2.2.1
theorem dX11_told_48 : decode cX11_told 48 = .ok (.getfield 178, 3) := db_X11_told_0.2.2.2.2.1
theorem dX11_told_51 : decode cX11_told 51 = .ok (.ireturn, 1) := db_X11_told_0.2.2.2.2.2.1
theorem dX11_told_52 : decode cX11_told 52 = .ok (.aload_n 0, 1) := db_X11_told_0.2.2.2.2.2.2.1
theorem dX11_told_53 : decode cX11_told 53 = .ok (.getfield 12, 3) := db_X11_told_0.2.2.2.2.2.2.2.1
theorem dX11_told_56 : decode cX11_told 56 = .ok (.getfield 318, 3) := db_X11_told_0.2.2.2.2.2.2.2.2.1
theorem dX11_told_59 : decode cX11_told 59 = .ok (.ireturn, 1) := db_X11_told_0.2.2.2.2.2.2.2.2.2.1
theorem dX11_told_60 : decode cX11_told 60 = .ok (.aload_n 0, 1) := db_X11_told_0.2.2.2.2.2.2.2.2.2.2.1
theorem dX11_told_61 : decode cX11_told 61 = .ok (.getfield 12, 3) := db_X11_told_0.2.2.2.2.2.2.2.2.2.2.2.1
theorem dX11_told_64 : decode cX11_told 64 = .ok (.invokevirtual 321, 3) := db_X11_told_0.2.2.2.2.2.2.2.2.2.2.2.2.1
theorem dX11_told_67 : decode cX11_told 67 = .ok (.ireturn, 1) := db_X11_told_0.2.2.2.2.2.2.2.2.2.2.2.2.2.1
theorem dX11_told_68 : decode cX11_told 68 = .ok (.aload_n 0, 1) := db_X11_told_0.2.2.2.2.2.2.2.2.2.2.2.2.2.2.1
theorem dX11_told_69 : decode cX11_told 69 = .ok (.getfield 12, 3) := db_X11_told_0.2.2.2.2.2.2.2.2.2.2.2.2.2.2.2
theorem db_X11_told_72 : decode cX11_told 72 = .ok (.getfield 183, 3) ∧ decode cX11_told 75 = .ok (.ireturn, 1) ∧ decode cX11_told 76 = .ok (.aload_n 0, 1) ∧ decode cX11_told 77 = .ok (.getfield 12, 3) ∧ decode cX11_told 80 = .ok (.getfield 324, 3) ∧ decode cX11_told 83 = .ok (.ireturn, 1) ∧ decode cX11_told 84 = .ok (.aload_n 0, 1) ∧ decode cX11_told 85 = .ok (.getfield 12, 3) ∧ decode cX11_told 88 = .ok (.getfield 327, 3) ∧ decode cX11_told 91 = .ok (.ireturn, 1) ∧ decode cX11_told 92 = .ok (.aload_n 0, 1) ∧ decode cX11_told 93 = .ok (.invokevirtual 330, 3) ∧ decode cX11_told 96 = .ok (.ireturn, 1) ∧ decode cX11_told 97 = .ok (.new 114, 3) ∧ decode cX11_told 100 = .ok (.dup, 1) ∧ decode cX11_told 101 = .ok (.ldc_w 333, 3) := by decide +kernel
theorem dX11_told_72 : decode cX11_told 72 = .ok (.getfield 183, 3) := db_X11_told_72.1
theorem dX11_told_75 : decode cX11_told 75 = .ok (.ireturn, 1) := db_X11_told_72.2.1
theorem dX11_told_76 : decode cX11_told 76 = .ok (.aload_n 0, 1) := db_X11_told_72.2.2.1
theorem dX11_told_77 : decode cX11_told 77 = .ok (.getfield 12, 3) := db_X11_told_72.2.2.2.1
theorem dX11_told_80 : decode cX11_told 80 = .ok (.getfield 324, 3) := db_X11_told_72.2.2.2.2.1
theorem dX11_told_83 : decode cX11_told 83 = .ok (.ireturn, 1) := db_X11_told_72.2.2.2.2.2.1
theorem dX11_told_84 : decode cX11_told 84 = .ok (.aload_n 0, 1) := db_X11_told_72.2.2.2.2.2.2.1
theorem dX11_told_85 : decode cX11_told 85 = .ok (.getfield 12, 3) := db_X11_told_72.2.2.2.2.2.2.2.1
theorem dX11_told_88 : decode cX11_told 88 = .ok (.getfield 327, 3) := db_X11_told_72.2.2.2.2.2.2.2.2.1
theorem dX11_told_91 : decode cX11_told 91 = .ok (.ireturn, 1) := db_X11_told_72.2.2.2.2.2.2.2.2.2.1
theorem dX11_told_92 : decode cX11_told 92 = .ok (.aload_n 0, 1) := db_X11_told_72.2.2.2.2.2.2.2.2.2.2.1
theorem dX11_told_93 : decode cX11_told 93 = .ok (.invokevirtual 330, 3) := db_X11_told_72.2.2.2.2.2.2.2.2.2.2.2.1
theorem dX11_told_96 : decode cX11_told 96 = .ok (.ireturn, 1) := db_X11_told_72.2.2.2.2.2.2.2.2.2.2.2.2.1
theorem dX11_told_97 : decode cX11_told 97 = .ok (.new 114, 3) := db_X11_told_72.2.2.2.2.2.2.2.2.2.2.2.2.2.1
theorem dX11_told_100 : decode cX11_told 100 = .ok (.dup, 1) := db_X11_told_72.2.2.2.2.2.2.2.2.2.2.2.2.2.2.1
theorem dX11_told_101 : decode cX11_told 101 = .ok (.ldc_w 333, 3) := db_X11_told_72.2.2.2.2.2.2.2.2.2.2.2.2.2.2.2
theorem dX11_told_104 : decode cX11_told 104 = .ok (.invokespecial 118, 3) := by decide +kernel
theorem dX11_told_107 : decode cX11_told 107 = .ok (.athrow, 1) := by decide +kernel
theorem db_X11_requireNode_0 : decode cX11_requireNode 0 = .ok (.iload_n 1, 1) ∧ decode cX11_requireNode 1 = .ok (.ifCond .lt 14, 3) ∧ decode cX11_requireNode 4 = .ok (.iload_n 1, 1) ∧ decode cX11_requireNode 5 = .ok (.aload_n 0, 1) ∧ decode cX11_requireNode 6 = .ok (.getfield 12, 3) ∧ decode cX11_requireNode 9 = .ok (.getfield 186, 3) ∧ decode cX11_requireNode 12 = .ok (.if_icmp .le 14, 3) ∧ decode cX11_requireNode 15 = .ok (.new 114, 3) ∧ decode cX11_requireNode 18 = .ok (.dup, 1) ∧ decode cX11_requireNode 19 = .ok (.ldc_w 335, 3) ∧ decode cX11_requireNode 22 = .ok (.invokespecial 118, 3) ∧ decode cX11_requireNode 25 = .ok (.athrow, 1) ∧ decode cX11_requireNode 26 = .ok (.return_, 1) := by decide +kernel
theorem dX11_requireNode_0 : decode cX11_requireNode 0 = .ok (.iload_n 1, 1) := db_X11_requireNode_0.1
theorem dX11_requireNode_1 : decode cX11_requireNode 1 = .ok (.ifCond .lt 14, 3) := db_X11_requireNode_0.2.1
theorem dX11_requireNode_4 : decode cX11_requireNode 4 = .ok (.iload_n 1, 1) := db_X11_requireNode_0.2.2.1
theorem dX11_requireNode_5 : decode cX11_requireNode 5 = .ok (.aload_n 0, 1) := db_X11_requireNode_0.2.2.2.1
theorem dX11_requireNode_6 : decode cX11_requireNode 6 = .ok (.getfield 12, 3) := db_X11_requireNode_0.2.2.2.2.1
theorem dX11_requireNode_9 : decode cX11_requireNode 9 = .ok (.getfield 186, 3) := db_X11_requireNode_0.2.2.2.2.2.1
theorem dX11_requireNode_12 : decode cX11_requireNode 12 = .ok (.if_icmp .le 14, 3) := db_X11_requireNode_0.2.2.2.2.2.2.1
theorem dX11_requireNode_15 : decode cX11_requireNode 15 = .ok (.new 114, 3) := db_X11_requireNode_0.2.2.2.2.2.2.2.1
theorem dX11_requireNode_18 : decode cX11_requireNode 18 = .ok (.dup, 1) := db_X11_requireNode_0.2.2.2.2.2.2.2.2.1
theorem dX11_requireNode_19 : decode cX11_requireNode 19 = .ok (.ldc_w 335, 3) := db_X11_requireNode_0.2.2.2.2.2.2.2.2.2.1
theorem dX11_requireNode_22 : decode cX11_requireNode 22 = .ok (.invokespecial 118, 3) := db_X11_requireNode_0.2.2.2.2.2.2.2.2.2.2.1
theorem dX11_requireNode_25 : decode cX11_requireNode 25 = .ok (.athrow, 1) := db_X11_requireNode_0.2.2.2.2.2.2.2.2.2.2.2.1
theorem dX11_requireNode_26 : decode cX11_requireNode 26 = .ok (.return_, 1) := db_X11_requireNode_0.2.2.2.2.2.2.2.2.2.2.2.2
theorem db_X11_requireHost_0 : decode cX11_requireHost 0 = .ok (.iload_n 1, 1) ∧ decode cX11_requireHost 1 = .ok (.ifCond .lt 14, 3) ∧ decode cX11_requireHost 4 = .ok (.iload_n 1, 1) ∧ decode cX11_requireHost 5 = .ok (.aload_n 0, 1) ∧ decode cX11_requireHost 6 = .ok (.getfield 12, 3) ∧ decode cX11_requireHost 9 = .ok (.getfield 186, 3) ∧ decode cX11_requireHost 12 = .ok (.if_icmp .lt 14, 3) ∧ decode cX11_requireHost 15 = .ok (.new 114, 3) ∧ decode cX11_requireHost 18 = .ok (.dup, 1) ∧ decode cX11_requireHost 19 = .ok (.ldc_w 335, 3) ∧ decode cX11_requireHost 22 = .ok (.invokespecial 118, 3) ∧ decode cX11_requireHost 25 = .ok (.athrow, 1) ∧ decode cX11_requireHost 26 = .ok (.return_, 1) := by decide +kernel
theorem dX11_requireHost_0 : decode cX11_requireHost 0 = .ok (.iload_n 1, 1) := db_X11_requireHost_0.1
theorem dX11_requireHost_1 : decode cX11_requireHost 1 = .ok (.ifCond .lt 14, 3) := db_X11_requireHost_0.2.1
theorem dX11_requireHost_4 : decode cX11_requireHost 4 = .ok (.iload_n 1, 1) := db_X11_requireHost_0.2.2.1
theorem dX11_requireHost_5 : decode cX11_requireHost 5 = .ok (.aload_n 0, 1) := db_X11_requireHost_0.2.2.2.1
theorem dX11_requireHost_6 : decode cX11_requireHost 6 = .ok (.getfield 12, 3) := db_X11_requireHost_0.2.2.2.2.1
theorem dX11_requireHost_9 : decode cX11_requireHost 9 = .ok (.getfield 186, 3) := db_X11_requireHost_0.2.2.2.2.2.1
theorem dX11_requireHost_12 : decode cX11_requireHost 12 = .ok (.if_icmp .lt 14, 3) := db_X11_requireHost_0.2.2.2.2.2.2.1
theorem dX11_requireHost_15 : decode cX11_requireHost 15 = .ok (.new 114, 3) := db_X11_requireHost_0.2.2.2.2.2.2.2.1
theorem dX11_requireHost_18 : decode cX11_requireHost 18 = .ok (.dup, 1) := db_X11_requireHost_0.2.2.2.2.2.2.2.2.1
theorem dX11_requireHost_19 : decode cX11_requireHost 19 = .ok (.ldc_w 335, 3) := db_X11_requireHost_0.2.2.2.2.2.2.2.2.2.1
theorem dX11_requireHost_22 : decode cX11_requireHost 22 = .ok (.invokespecial 118, 3) := db_X11_requireHost_0.2.2.2.2.2.2.2.2.2.2.1
theorem dX11_requireHost_25 : decode cX11_requireHost 25 = .ok (.athrow, 1) := db_X11_requireHost_0.2.2.2.2.2.2.2.2.2.2.2.1
theorem dX11_requireHost_26 : decode cX11_requireHost 26 = .ok (.return_, 1) := db_X11_requireHost_0.2.2.2.2.2.2.2.2.2.2.2.2
theorem db_X11_requireShard_0 : decode cX11_requireShard 0 = .ok (.iload_n 1, 1) ∧ decode cX11_requireShard 1 = .ok (.ifCond .lt 14, 3) ∧ decode cX11_requireShard 4 = .ok (.iload_n 1, 1) ∧ decode cX11_requireShard 5 = .ok (.aload_n 0, 1) ∧ decode cX11_requireShard 6 = .ok (.getfield 12, 3) ∧ decode cX11_requireShard 9 = .ok (.getfield 337, 3) ∧ decode cX11_requireShard 12 = .ok (.if_icmp .lt 14, 3) ∧ decode cX11_requireShard 15 = .ok (.new 114, 3) ∧ decode cX11_requireShard 18 = .ok (.dup, 1) ∧ decode cX11_requireShard 19 = .ok (.ldc_w 340, 3) ∧ decode cX11_requireShard 22 = .ok (.invokespecial 118, 3) ∧ decode cX11_requireShard 25 = .ok (.athrow, 1) ∧ decode cX11_requireShard 26 = .ok (.return_, 1) := by decide +kernel
theorem dX11_requireShard_0 : decode cX11_requireShard 0 = .ok (.iload_n 1, 1) := db_X11_requireShard_0.1
theorem dX11_requireShard_1 : decode cX11_requireShard 1 = .ok (.ifCond .lt 14, 3) := db_X11_requireShard_0.2.1
theorem dX11_requireShard_4 : decode cX11_requireShard 4 = .ok (.iload_n 1, 1) := db_X11_requireShard_0.2.2.1
theorem dX11_requireShard_5 : decode cX11_requireShard 5 = .ok (.aload_n 0, 1) := db_X11_requireShard_0.2.2.2.1
theorem dX11_requireShard_6 : decode cX11_requireShard 6 = .ok (.getfield 12, 3) := db_X11_requireShard_0.2.2.2.2.1
theorem dX11_requireShard_9 : decode cX11_requireShard 9 = .ok (.getfield 337, 3) := db_X11_requireShard_0.2.2.2.2.2.1
theorem dX11_requireShard_12 : decode cX11_requireShard 12 = .ok (.if_icmp .lt 14, 3) := db_X11_requireShard_0.2.2.2.2.2.2.1
theorem dX11_requireShard_15 : decode cX11_requireShard 15 = .ok (.new 114, 3) := db_X11_requireShard_0.2.2.2.2.2.2.2.1
theorem dX11_requireShard_18 : decode cX11_requireShard 18 = .ok (.dup, 1) := db_X11_requireShard_0.2.2.2.2.2.2.2.2.1
theorem dX11_requireShard_19 : decode cX11_requireShard 19 = .ok (.ldc_w 340, 3) := db_X11_requireShard_0.2.2.2.2.2.2.2.2.2.1
theorem dX11_requireShard_22 : decode cX11_requireShard 22 = .ok (.invokespecial 118, 3) := db_X11_requireShard_0.2.2.2.2.2.2.2.2.2.2.1
theorem dX11_requireShard_25 : decode cX11_requireShard 25 = .ok (.athrow, 1) := db_X11_requireShard_0.2.2.2.2.2.2.2.2.2.2.2.1
theorem dX11_requireShard_26 : decode cX11_requireShard 26 = .ok (.return_, 1) := db_X11_requireShard_0.2.2.2.2.2.2.2.2.2.2.2.2
theorem db_X11_requireDocument_0 : decode cX11_requireDocument 0 = .ok (.iload_n 1, 1) ∧ decode cX11_requireDocument 1 = .ok (.ifCond .lt 9, 3) ∧ decode cX11_requireDocument 4 = .ok (.iload_n 1, 1) ∧ decode cX11_requireDocument 5 = .ok (.bipush 100, 2) ∧ decode cX11_requireDocument 7 = .ok (.if_icmp .lt 14, 3) ∧ decode cX11_requireDocument 10 = .ok (.new 114, 3) ∧ decode cX11_requireDocument 13 = .ok (.dup, 1) ∧ decode cX11_requireDocument 14 = .ok (.ldc_w 342, 3) ∧ decode cX11_requireDocument 17 = .ok (.invokespecial 118, 3) ∧ decode cX11_requireDocument 20 = .ok (.athrow, 1) ∧ decode cX11_requireDocument 21 = .ok (.return_, 1) := by decide +kernel
theorem dX11_requireDocument_0 : decode cX11_requireDocument 0 = .ok (.iload_n 1, 1) := db_X11_requireDocument_0.1
theorem dX11_requireDocument_1 : decode cX11_requireDocument 1 = .ok (.ifCond .lt 9, 3) := db_X11_requireDocument_0.2.1
theorem dX11_requireDocument_4 : decode cX11_requireDocument 4 = .ok (.iload_n 1, 1) := db_X11_requireDocument_0.2.2.1
theorem dX11_requireDocument_5 : decode cX11_requireDocument 5 = .ok (.bipush 100, 2) := db_X11_requireDocument_0.2.2.2.1
theorem dX11_requireDocument_7 : decode cX11_requireDocument 7 = .ok (.if_icmp .lt 14, 3) := db_X11_requireDocument_0.2.2.2.2.1
theorem dX11_requireDocument_10 : decode cX11_requireDocument 10 = .ok (.new 114, 3) := db_X11_requireDocument_0.2.2.2.2.2.1
theorem dX11_requireDocument_13 : decode cX11_requireDocument 13 = .ok (.dup, 1) := db_X11_requireDocument_0.2.2.2.2.2.2.1
theorem dX11_requireDocument_14 : decode cX11_requireDocument 14 = .ok (.ldc_w 342, 3) := db_X11_requireDocument_0.2.2.2.2.2.2.2.1
theorem dX11_requireDocument_17 : decode cX11_requireDocument 17 = .ok (.invokespecial 118, 3) := db_X11_requireDocument_0.2.2.2.2.2.2.2.2.1
theorem dX11_requireDocument_20 : decode cX11_requireDocument 20 = .ok (.athrow, 1) := db_X11_requireDocument_0.2.2.2.2.2.2.2.2.2.1
theorem dX11_requireDocument_21 : decode cX11_requireDocument 21 = .ok (.return_, 1) := db_X11_requireDocument_0.2.2.2.2.2.2.2.2.2.2
theorem db_X11_requireLink_0 : decode cX11_requireLink 0 = .ok (.aload_n 0, 1) ∧ decode cX11_requireLink 1 = .ok (.getfield 12, 3) ∧ decode cX11_requireLink 4 = .ok (.iload_n 1, 1) ∧ decode cX11_requireLink 5 = .ok (.iload_n 2, 1) ∧ decode cX11_requireLink 6 = .ok (.invokevirtual 152, 3) ∧ decode cX11_requireLink 9 = .ok (.iconst (-1), 1) ∧ decode cX11_requireLink 10 = .ok (.if_icmp .ne 14, 3) ∧ decode cX11_requireLink 13 = .ok (.new 114, 3) ∧ decode cX11_requireLink 16 = .ok (.dup, 1) ∧ decode cX11_requireLink 17 = .ok (.ldc_w 344, 3) ∧ decode cX11_requireLink 20 = .ok (.invokespecial 118, 3) ∧ decode cX11_requireLink 23 = .ok (.athrow, 1) ∧ decode cX11_requireLink 24 = .ok (.return_, 1) := by decide +kernel
theorem dX11_requireLink_0 : decode cX11_requireLink 0 = .ok (.aload_n 0, 1) := db_X11_requireLink_0.1
theorem dX11_requireLink_1 : decode cX11_requireLink 1 = .ok (.getfield 12, 3) := db_X11_requireLink_0.2.1
theorem dX11_requireLink_4 : decode cX11_requireLink 4 = .ok (.iload_n 1, 1) := db_X11_requireLink_0.2.2.1
theorem dX11_requireLink_5 : decode cX11_requireLink 5 = .ok (.iload_n 2, 1) := db_X11_requireLink_0.2.2.2.1
theorem dX11_requireLink_6 : decode cX11_requireLink 6 = .ok (.invokevirtual 152, 3) := db_X11_requireLink_0.2.2.2.2.1
theorem dX11_requireLink_9 : decode cX11_requireLink 9 = .ok (.iconst (-1), 1) := db_X11_requireLink_0.2.2.2.2.2.1
theorem dX11_requireLink_10 : decode cX11_requireLink 10 = .ok (.if_icmp .ne 14, 3) := db_X11_requireLink_0.2.2.2.2.2.2.1
theorem dX11_requireLink_13 : decode cX11_requireLink 13 = .ok (.new 114, 3) := db_X11_requireLink_0.2.2.2.2.2.2.2.1
theorem dX11_requireLink_16 : decode cX11_requireLink 16 = .ok (.dup, 1) := db_X11_requireLink_0.2.2.2.2.2.2.2.2.1
theorem dX11_requireLink_17 : decode cX11_requireLink 17 = .ok (.ldc_w 344, 3) := db_X11_requireLink_0.2.2.2.2.2.2.2.2.2.1
theorem dX11_requireLink_20 : decode cX11_requireLink 20 = .ok (.invokespecial 118, 3) := db_X11_requireLink_0.2.2.2.2.2.2.2.2.2.2.1
theorem dX11_requireLink_23 : decode cX11_requireLink 23 = .ok (.athrow, 1) := db_X11_requireLink_0.2.2.2.2.2.2.2.2.2.2.2.1
theorem dX11_requireLink_24 : decode cX11_requireLink 24 = .ok (.return_, 1) := db_X11_requireLink_0.2.2.2.2.2.2.2.2.2.2.2.2
theorem db_X11_requireReady_0 : decode cX11_requireReady 0 = .ok (.aload_n 0, 1) ∧ decode cX11_requireReady 1 = .ok (.getfield 18, 3) ∧ decode cX11_requireReady 4 = .ok (.iload_n 1, 1) ∧ decode cX11_requireReady 5 = .ok (.aaload, 1) ∧ decode cX11_requireReady 6 = .ok (.getfield 191, 3) ∧ decode cX11_requireReady 9 = .ok (.ifCond .eq 16, 3) ∧ decode cX11_requireReady 12 = .ok (.aload_n 0, 1) ∧ decode cX11_requireReady 13 = .ok (.getfield 12, 3) ∧ decode cX11_requireReady 16 = .ok (.getfield 318, 3) ∧ decode cX11_requireReady 19 = .ok (.sipush 500, 3) ∧ decode cX11_requireReady 22 = .ok (.if_icmp .lt 14, 3) ∧ decode cX11_requireReady 36 = .ok (.return_, 1) := by decide +kernel
theorem dX11_requireReady_0 : decode cX11_requireReady 0 = .ok (.aload_n 0, 1) := db_X11_requireReady_0.1
theorem dX11_requireReady_1 : decode cX11_requireReady 1 = .ok (.getfield 18, 3) := db_X11_requireReady_0.2.1
theorem dX11_requireReady_4 : decode cX11_requireReady 4 = .ok (.iload_n 1, 1) := db_X11_requireReady_0.2.2.1
theorem dX11_requireReady_5 : decode cX11_requireReady 5 = .ok (.aaload, 1) := db_X11_requireReady_0.2.2.2.1
theorem dX11_requireReady_6 : decode cX11_requireReady 6 = .ok (.getfield 191, 3) := db_X11_requireReady_0.2.2.2.2.1
theorem dX11_requireReady_9 : decode cX11_requireReady 9 = .ok (.ifCond .eq 16, 3) := db_X11_requireReady_0.2.2.2.2.2.1
theorem dX11_requireReady_12 : decode cX11_requireReady 12 = .ok (.aload_n 0, 1) := db_X11_requireReady_0.2.2.2.2.2.2.1
theorem dX11_requireReady_13 : decode cX11_requireReady 13 = .ok (.getfield 12, 3) := db_X11_requireReady_0.2.2.2.2.2.2.2.1
theorem dX11_requireReady_16 : decode cX11_requireReady 16 = .ok (.getfield 318, 3) := db_X11_requireReady_0.2.2.2.2.2.2.2.2.1
theorem dX11_requireReady_19 : decode cX11_requireReady 19 = .ok (.sipush 500, 3) := db_X11_requireReady_0.2.2.2.2.2.2.2.2.2.1
theorem dX11_requireReady_22 : decode cX11_requireReady 22 = .ok (.if_icmp .lt 14, 3) := db_X11_requireReady_0.2.2.2.2.2.2.2.2.2.2.1
theorem dX11_requireReady_36 : decode cX11_requireReady 36 = .ok (.return_, 1) := db_X11_requireReady_0.2.2.2.2.2.2.2.2.2.2.2
theorem db_X11_requireReplica_0 : decode cX11_requireReplica 0 = .ok (.iload_n 1, 1) ∧ decode cX11_requireReplica 1 = .ok (.ifCond .lt 14, 3) ∧ decode cX11_requireReplica 4 = .ok (.iload_n 1, 1) ∧ decode cX11_requireReplica 5 = .ok (.aload_n 0, 1) ∧ decode cX11_requireReplica 6 = .ok (.getfield 12, 3) ∧ decode cX11_requireReplica 9 = .ok (.getfield 186, 3) ∧ decode cX11_requireReplica 12 = .ok (.if_icmp .lt 7, 3) ∧ decode cX11_requireReplica 15 = .ok (.aconst_null, 1) ∧ decode cX11_requireReplica 16 = .ok (.goto 13, 3) ∧ decode cX11_requireReplica 19 = .ok (.aload_n 0, 1) ∧ decode cX11_requireReplica 20 = .ok (.getfield 18, 3) ∧ decode cX11_requireReplica 23 = .ok (.iload_n 1, 1) ∧ decode cX11_requireReplica 24 = .ok (.aaload, 1) ∧ decode cX11_requireReplica 25 = .ok (.iload_n 2, 1) ∧ decode cX11_requireReplica 26 = .ok (.invokevirtual 348, 3) ∧ decode cX11_requireReplica 29 = .ok (.astore_n 3, 1) := by decide +kernel
theorem dX11_requireReplica_0 : decode cX11_requireReplica 0 = .ok (.iload_n 1, 1) := db_X11_requireReplica_0.1
theorem dX11_requireReplica_1 : decode cX11_requireReplica 1 = .ok (.ifCond .lt 14, 3) := db_X11_requireReplica_0.2.1
theorem dX11_requireReplica_4 : decode cX11_requireReplica 4 = .ok (.iload_n 1, 1) := db_X11_requireReplica_0.2.2.1
theorem dX11_requireReplica_5 : decode cX11_requireReplica 5 = .ok (.aload_n 0, 1) := db_X11_requireReplica_0.2.2.2.1
theorem dX11_requireReplica_6 : decode cX11_requireReplica 6 = .ok (.getfield 12, 3) := db_X11_requireReplica_0.2.2.2.2.1
theorem dX11_requireReplica_9 : decode cX11_requireReplica 9 = .ok (.getfield 186, 3) := db_X11_requireReplica_0.2.2.2.2.2.1
theorem dX11_requireReplica_12 : decode cX11_requireReplica 12 = .ok (.if_icmp .lt 7, 3) := db_X11_requireReplica_0.2.2.2.2.2.2.1
theorem dX11_requireReplica_15 : decode cX11_requireReplica 15 = .ok (.aconst_null, 1) := db_X11_requireReplica_0.2.2.2.2.2.2.2.1
theorem dX11_requireReplica_16 : decode cX11_requireReplica 16 = .ok (.goto 13, 3) := db_X11_requireReplica_0.2.2.2.2.2.2.2.2.1
theorem dX11_requireReplica_19 : decode cX11_requireReplica 19 = .ok (.aload_n 0, 1) := db_X11_requireReplica_0.2.2.2.2.2.2.2.2.2.1
theorem dX11_requireReplica_20 : decode cX11_requireReplica 20 = .ok (.getfield 18, 3) := db_X11_requireReplica_0.2.2.2.2.2.2.2.2.2.2.1
theorem dX11_requireReplica_23 : decode cX11_requireReplica 23 = .ok (.iload_n 1, 1) := db_X11_requireReplica_0.2.2.2.2.2.2.2.2.2.2.2.1
theorem dX11_requireReplica_24 : decode cX11_requireReplica 24 = .ok (.aaload, 1) := db_X11_requireReplica_0.2.2.2.2.2.2.2.2.2.2.2.2.1
theorem dX11_requireReplica_25 : decode cX11_requireReplica 25 = .ok (.iload_n 2, 1) := db_X11_requireReplica_0.2.2.2.2.2.2.2.2.2.2.2.2.2.1
theorem dX11_requireReplica_26 : decode cX11_requireReplica 26 = .ok (.invokevirtual 348, 3) := db_X11_requireReplica_0.2.2.2.2.2.2.2.2.2.2.2.2.2.2.1
theorem dX11_requireReplica_29 : decode cX11_requireReplica 29 = .ok (.astore_n 3, 1) := db_X11_requireReplica_0.2.2.2.2.2.2.2.2.2.2.2.2.2.2.2
theorem db_X11_requireReplica_30 : decode cX11_requireReplica 30 = .ok (.aload_n 3, 1) ∧ decode cX11_requireReplica 31 = .ok (.ifnonnull 14, 3) ∧ decode cX11_requireReplica 34 = .ok (.new 114, 3) ∧ decode cX11_requireReplica 37 = .ok (.dup, 1) ∧ decode cX11_requireReplica 38 = .ok (.ldc_w 352, 3) ∧ decode cX11_requireReplica 41 = .ok (.invokespecial 118, 3) ∧ decode cX11_requireReplica 44 = .ok (.athrow, 1) ∧ decode cX11_requireReplica 45 = .ok (.aload_n 3, 1) ∧ decode cX11_requireReplica 46 = .ok (.areturn, 1) := by decide +kernel
theorem dX11_requireReplica_30 : decode cX11_requireReplica 30 = .ok (.aload_n 3, 1) := db_X11_requireReplica_30.1
theorem dX11_requireReplica_31 : decode cX11_requireReplica 31 = .ok (.ifnonnull 14, 3) := db_X11_requireReplica_30.2.1
theorem dX11_requireReplica_34 : decode cX11_requireReplica 34 = .ok (.new 114, 3) := db_X11_requireReplica_30.2.2.1
theorem dX11_requireReplica_37 : decode cX11_requireReplica 37 = .ok (.dup, 1) := db_X11_requireReplica_30.2.2.2.1
theorem dX11_requireReplica_38 : decode cX11_requireReplica 38 = .ok (.ldc_w 352, 3) := db_X11_requireReplica_30.2.2.2.2.1
theorem dX11_requireReplica_41 : decode cX11_requireReplica 41 = .ok (.invokespecial 118, 3) := db_X11_requireReplica_30.2.2.2.2.2.1
theorem dX11_requireReplica_44 : decode cX11_requireReplica 44 = .ok (.athrow, 1) := db_X11_requireReplica_30.2.2.2.2.2.2.1
theorem dX11_requireReplica_45 : decode cX11_requireReplica 45 = .ok (.aload_n 3, 1) := db_X11_requireReplica_30.2.2.2.2.2.2.2.1
theorem dX11_requireReplica_46 : decode cX11_requireReplica 46 = .ok (.areturn, 1) := db_X11_requireReplica_30.2.2.2.2.2.2.2.2
theorem db_X11_requireSegment_0 : decode cX11_requireSegment 0 = .ok (.aload_n 0, 1) ∧ decode cX11_requireSegment 1 = .ok (.iload_n 1, 1) ∧ decode cX11_requireSegment 2 = .ok (.iload_n 2, 1) ∧ decode cX11_requireSegment 3 = .ok (.invokevirtual 215, 3) ∧ decode cX11_requireSegment 6 = .ok (.getfield 224, 3) ∧ decode cX11_requireSegment 9 = .ok (.getfield 264, 3) ∧ decode cX11_requireSegment 12 = .ok (.astore 4, 2) ∧ decode cX11_requireSegment 14 = .ok (.aload_n 0, 1) ∧ decode cX11_requireSegment 15 = .ok (.getfield 18, 3) ∧ decode cX11_requireSegment 18 = .ok (.iload_n 1, 1) ∧ decode cX11_requireSegment 19 = .ok (.aaload, 1) ∧ decode cX11_requireSegment 20 = .ok (.getfield 191, 3) ∧ decode cX11_requireSegment 23 = .ok (.ifCond .eq 16, 3) ∧ decode cX11_requireSegment 26 = .ok (.iload_n 3, 1) ∧ decode cX11_requireSegment 27 = .ok (.ifCond .lt 12, 3) ∧ decode cX11_requireSegment 30 = .ok (.iload_n 3, 1) := by decide +kernel
theorem dX11_requireSegment_0 : decode cX11_requireSegment 0 = .ok (.aload_n 0, 1) := db_X11_requireSegment_0.1
theorem dX11_requireSegment_1 : decode cX11_requireSegment 1 = .ok (.iload_n 1, 1) := db_X11_requireSegment_0.2.1
theorem dX11_requireSegment_2 : decode cX11_requireSegment 2 = .ok (.iload_n 2, 1) := db_X11_requireSegment_0.2.2.1
theorem dX11_requireSegment_3 : decode cX11_requireSegment 3 = .ok (.invokevirtual 215, 3) := db_X11_requireSegment_0.2.2.2.1
theorem dX11_requireSegment_6 : decode cX11_requireSegment 6 = .ok (.getfield 224, 3) := db_X11_requireSegment_0.2.2.2.2.1
theorem dX11_requireSegment_9 : decode cX11_requireSegment 9 = .ok (.getfield 264, 3) := db_X11_requireSegment_0.2.2.2.2.2.1
theorem dX11_requireSegment_12 : decode cX11_requireSegment 12 = .ok (.astore 4, 2) := db_X11_requireSegment_0.2.2.2.2.2.2.1
theorem dX11_requireSegment_14 : decode cX11_requireSegment 14 = .ok (.aload_n 0, 1) := db_X11_requireSegment_0.2.2.2.2.2.2.2.1
theorem dX11_requireSegment_15 : decode cX11_requireSegment 15 = .ok (.getfield 18, 3) := db_X11_requireSegment_0.2.2.2.2.2.2.2.2.1
theorem dX11_requireSegment_18 : decode cX11_requireSegment 18 = .ok (.iload_n 1, 1) := db_X11_requireSegment_0.2.2.2.2.2.2.2.2.2.1
theorem dX11_requireSegment_19 : decode cX11_requireSegment 19 = .ok (.aaload, 1) := db_X11_requireSegment_0.2.2.2.2.2.2.2.2.2.2.1
theorem dX11_requireSegment_20 : decode cX11_requireSegment 20 = .ok (.getfield 191, 3) := db_X11_requireSegment_0.2.2.2.2.2.2.2.2.2.2.2.1
theorem dX11_requireSegment_23 : decode cX11_requireSegment 23 = .ok (.ifCond .eq 16, 3) := db_X11_requireSegment_0.2.2.2.2.2.2.2.2.2.2.2.2.1
theorem dX11_requireSegment_26 : decode cX11_requireSegment 26 = .ok (.iload_n 3, 1) := db_X11_requireSegment_0.2.2.2.2.2.2.2.2.2.2.2.2.2.1
theorem dX11_requireSegment_27 : decode cX11_requireSegment 27 = .ok (.ifCond .lt 12, 3) := db_X11_requireSegment_0.2.2.2.2.2.2.2.2.2.2.2.2.2.2.1
theorem dX11_requireSegment_30 : decode cX11_requireSegment 30 = .ok (.iload_n 3, 1) := db_X11_requireSegment_0.2.2.2.2.2.2.2.2.2.2.2.2.2.2.2
theorem db_X11_requireSegment_31 : decode cX11_requireSegment 31 = .ok (.aload 4, 2) ∧ decode cX11_requireSegment 33 = .ok (.getfield 354, 3) ∧ decode cX11_requireSegment 36 = .ok (.if_icmp .lt 14, 3) ∧ decode cX11_requireSegment 39 = .ok (.new 114, 3) ∧ decode cX11_requireSegment 42 = .ok (.dup, 1) ∧ decode cX11_requireSegment 43 = .ok (.ldc_w 357, 3) ∧ decode cX11_requireSegment 46 = .ok (.invokespecial 118, 3) ∧ decode cX11_requireSegment 49 = .ok (.athrow, 1) := by decide +kernel
theorem dX11_requireSegment_31 : decode cX11_requireSegment 31 = .ok (.aload 4, 2) := db_X11_requireSegment_31.1
theorem dX11_requireSegment_33 : decode cX11_requireSegment 33 = .ok (.getfield 354, 3) := db_X11_requireSegment_31.2.1
theorem dX11_requireSegment_36 : decode cX11_requireSegment 36 = .ok (.if_icmp .lt 14, 3) := db_X11_requireSegment_31.2.2.1
theorem dX11_requireSegment_39 : decode cX11_requireSegment 39 = .ok (.new 114, 3) := db_X11_requireSegment_31.2.2.2.1
theorem dX11_requireSegment_42 : decode cX11_requireSegment 42 = .ok (.dup, 1) := db_X11_requireSegment_31.2.2.2.2.1
theorem dX11_requireSegment_43 : decode cX11_requireSegment 43 = .ok (.ldc_w 357, 3) := db_X11_requireSegment_31.2.2.2.2.2.1
theorem dX11_requireSegment_46 : decode cX11_requireSegment 46 = .ok (.invokespecial 118, 3) := db_X11_requireSegment_31.2.2.2.2.2.2.1
theorem dX11_requireSegment_49 : decode cX11_requireSegment 49 = .ok (.athrow, 1) := db_X11_requireSegment_31.2.2.2.2.2.2.2
theorem db_X11_draftIsText_0 : decode cX11_draftIsText 0 = .ok (.aload_n 0, 1) ∧ decode cX11_draftIsText 1 = .ok (.getfield 52, 3) ∧ decode cX11_draftIsText 4 = .ok (.bipush 40, 2) ∧ decode cX11_draftIsText 6 = .ok (.if_icmp .le 5, 3) ∧ decode cX11_draftIsText 11 = .ok (.iconst 0, 1) ∧ decode cX11_draftIsText 12 = .ok (.istore_n 1, 1) ∧ decode cX11_draftIsText 13 = .ok (.iload_n 1, 1) ∧ decode cX11_draftIsText 14 = .ok (.aload_n 0, 1) ∧ decode cX11_draftIsText 15 = .ok (.getfield 52, 3) ∧ decode cX11_draftIsText 18 = .ok (.if_icmp .ge 33, 3) ∧ decode cX11_draftIsText 51 = .ok (.iconst 1, 1) ∧ decode cX11_draftIsText 52 = .ok (.ireturn, 1) := by decide +kernel
theorem dX11_draftIsText_0 : decode cX11_draftIsText 0 = .ok (.aload_n 0, 1) := db_X11_draftIsText_0.1
theorem dX11_draftIsText_1 : decode cX11_draftIsText 1 = .ok (.getfield 52, 3) := db_X11_draftIsText_0.2.1
theorem dX11_draftIsText_4 : decode cX11_draftIsText 4 = .ok (.bipush 40, 2) := db_X11_draftIsText_0.2.2.1
theorem dX11_draftIsText_6 : decode cX11_draftIsText 6 = .ok (.if_icmp .le 5, 3) := db_X11_draftIsText_0.2.2.2.1
theorem dX11_draftIsText_11 : decode cX11_draftIsText 11 = .ok (.iconst 0, 1) := db_X11_draftIsText_0.2.2.2.2.1
theorem dX11_draftIsText_12 : decode cX11_draftIsText 12 = .ok (.istore_n 1, 1) := db_X11_draftIsText_0.2.2.2.2.2.1
theorem dX11_draftIsText_13 : decode cX11_draftIsText 13 = .ok (.iload_n 1, 1) := db_X11_draftIsText_0.2.2.2.2.2.2.1
theorem dX11_draftIsText_14 : decode cX11_draftIsText 14 = .ok (.aload_n 0, 1) := db_X11_draftIsText_0.2.2.2.2.2.2.2.1
theorem dX11_draftIsText_15 : decode cX11_draftIsText 15 = .ok (.getfield 52, 3) := db_X11_draftIsText_0.2.2.2.2.2.2.2.2.1
theorem dX11_draftIsText_18 : decode cX11_draftIsText 18 = .ok (.if_icmp .ge 33, 3) := db_X11_draftIsText_0.2.2.2.2.2.2.2.2.2.1
theorem dX11_draftIsText_51 : decode cX11_draftIsText 51 = .ok (.iconst 1, 1) := db_X11_draftIsText_0.2.2.2.2.2.2.2.2.2.2.1
theorem dX11_draftIsText_52 : decode cX11_draftIsText 52 = .ok (.ireturn, 1) := db_X11_draftIsText_0.2.2.2.2.2.2.2.2.2.2.2
theorem db_X11_begin_0 : decode cX11_begin 0 = .ok (.aload_n 0, 1) ∧ decode cX11_begin 1 = .ok (.getfield 12, 3) ∧ decode cX11_begin 4 = .ok (.iload_n 1, 1) ∧ decode cX11_begin 5 = .ok (.iload_n 2, 1) ∧ decode cX11_begin 6 = .ok (.iload_n 3, 1) ∧ decode cX11_begin 7 = .ok (.invokevirtual 359, 3) ∧ decode cX11_begin 10 = .ok (.iconst 0, 1) ∧ decode cX11_begin 11 = .ok (.istore 4, 2) ∧ decode cX11_begin 13 = .ok (.iload 4, 2) ∧ decode cX11_begin 15 = .ok (.bipush 6, 2) ∧ decode cX11_begin 17 = .ok (.if_icmp .ge 19, 3) ∧ decode cX11_begin 20 = .ok (.aload_n 0, 1) ∧ decode cX11_begin 21 = .ok (.getfield 18, 3) ∧ decode cX11_begin 24 = .ok (.iload 4, 2) ∧ decode cX11_begin 26 = .ok (.aaload, 1) ∧ decode cX11_begin 27 = .ok (.invokevirtual 360, 3) := by decide +kernel
theorem dX11_begin_0 : decode cX11_begin 0 = .ok (.aload_n 0, 1) := db_X11_begin_0.1
theorem dX11_begin_1 : decode cX11_begin 1 = .ok (.getfield 12, 3) := db_X11_begin_0.2.1
theorem dX11_begin_4 : decode cX11_begin 4 = .ok (.iload_n 1, 1) := db_X11_begin_0.2.2.1
theorem dX11_begin_5 : decode cX11_begin 5 = .ok (.iload_n 2, 1) := db_X11_begin_0.2.2.2.1
theorem dX11_begin_6 : decode cX11_begin 6 = .ok (.iload_n 3, 1) := db_X11_begin_0.2.2.2.2.1
theorem dX11_begin_7 : decode cX11_begin 7 = .ok (.invokevirtual 359, 3) := db_X11_begin_0.2.2.2.2.2.1
theorem dX11_begin_10 : decode cX11_begin 10 = .ok (.iconst 0, 1) := db_X11_begin_0.2.2.2.2.2.2.1
theorem dX11_begin_11 : decode cX11_begin 11 = .ok (.istore 4, 2) := db_X11_begin_0.2.2.2.2.2.2.2.1
theorem dX11_begin_13 : decode cX11_begin 13 = .ok (.iload 4, 2) := db_X11_begin_0.2.2.2.2.2.2.2.2.1
theorem dX11_begin_15 : decode cX11_begin 15 = .ok (.bipush 6, 2) := db_X11_begin_0.2.2.2.2.2.2.2.2.2.1
theorem dX11_begin_17 : decode cX11_begin 17 = .ok (.if_icmp .ge 19, 3) := db_X11_begin_0.2.2.2.2.2.2.2.2.2.2.1
theorem dX11_begin_20 : decode cX11_begin 20 = .ok (.aload_n 0, 1) := db_X11_begin_0.2.2.2.2.2.2.2.2.2.2.2.1
theorem dX11_begin_21 : decode cX11_begin 21 = .ok (.getfield 18, 3) := db_X11_begin_0.2.2.2.2.2.2.2.2.2.2.2.2.1
theorem dX11_begin_24 : decode cX11_begin 24 = .ok (.iload 4, 2) := db_X11_begin_0.2.2.2.2.2.2.2.2.2.2.2.2.2.1
theorem dX11_begin_26 : decode cX11_begin 26 = .ok (.aaload, 1) := db_X11_begin_0.2.2.2.2.2.2.2.2.2.2.2.2.2.2.1
theorem dX11_begin_27 : decode cX11_begin 27 = .ok (.invokevirtual 360, 3) := db_X11_begin_0.2.2.2.2.2.2.2.2.2.2.2.2.2.2.2
theorem db_X11_begin_30 : decode cX11_begin 30 = .ok (.iinc 4 1, 3) ∧ decode cX11_begin 33 = .ok (.goto (-20), 3) ∧ decode cX11_begin 36 = .ok (.iconst 0, 1) ∧ decode cX11_begin 37 = .ok (.istore 4, 2) ∧ decode cX11_begin 39 = .ok (.iload 4, 2) ∧ decode cX11_begin 41 = .ok (.iload_n 2, 1) ∧ decode cX11_begin 42 = .ok (.if_icmp .ge 71, 3) ∧ decode cX11_begin 45 = .ok (.iconst 0, 1) ∧ decode cX11_begin 46 = .ok (.istore 5, 2) ∧ decode cX11_begin 48 = .ok (.iload 5, 2) ∧ decode cX11_begin 50 = .ok (.iload_n 3, 1) ∧ decode cX11_begin 51 = .ok (.if_icmp .ge 56, 3) ∧ decode cX11_begin 54 = .ok (.aload_n 0, 1) ∧ decode cX11_begin 55 = .ok (.getfield 18, 3) ∧ decode cX11_begin 58 = .ok (.iload 4, 2) ∧ decode cX11_begin 60 = .ok (.iload 5, 2) := by decide +kernel
theorem dX11_begin_30 : decode cX11_begin 30 = .ok (.iinc 4 1, 3) := db_X11_begin_30.1
theorem dX11_begin_33 : decode cX11_begin 33 = .ok (.goto (-20), 3) := db_X11_begin_30.2.1
theorem dX11_begin_36 : decode cX11_begin 36 = .ok (.iconst 0, 1) := db_X11_begin_30.2.2.1
theorem dX11_begin_37 : decode cX11_begin 37 = .ok (.istore 4, 2) := db_X11_begin_30.2.2.2.1
theorem dX11_begin_39 : decode cX11_begin 39 = .ok (.iload 4, 2) := db_X11_begin_30.2.2.2.2.1
theorem dX11_begin_41 : decode cX11_begin 41 = .ok (.iload_n 2, 1) := db_X11_begin_30.2.2.2.2.2.1
theorem dX11_begin_42 : decode cX11_begin 42 = .ok (.if_icmp .ge 71, 3) := db_X11_begin_30.2.2.2.2.2.2.1
theorem dX11_begin_45 : decode cX11_begin 45 = .ok (.iconst 0, 1) := db_X11_begin_30.2.2.2.2.2.2.2.1
theorem dX11_begin_46 : decode cX11_begin 46 = .ok (.istore 5, 2) := db_X11_begin_30.2.2.2.2.2.2.2.2.1
theorem dX11_begin_48 : decode cX11_begin 48 = .ok (.iload 5, 2) := db_X11_begin_30.2.2.2.2.2.2.2.2.2.1
theorem dX11_begin_50 : decode cX11_begin 50 = .ok (.iload_n 3, 1) := db_X11_begin_30.2.2.2.2.2.2.2.2.2.2.1
theorem dX11_begin_51 : decode cX11_begin 51 = .ok (.if_icmp .ge 56, 3) := db_X11_begin_30.2.2.2.2.2.2.2.2.2.2.2.1
theorem dX11_begin_54 : decode cX11_begin 54 = .ok (.aload_n 0, 1) := db_X11_begin_30.2.2.2.2.2.2.2.2.2.2.2.2.1
theorem dX11_begin_55 : decode cX11_begin 55 = .ok (.getfield 18, 3) := db_X11_begin_30.2.2.2.2.2.2.2.2.2.2.2.2.2.1
theorem dX11_begin_58 : decode cX11_begin 58 = .ok (.iload 4, 2) := db_X11_begin_30.2.2.2.2.2.2.2.2.2.2.2.2.2.2.1
theorem dX11_begin_60 : decode cX11_begin 60 = .ok (.iload 5, 2) := db_X11_begin_30.2.2.2.2.2.2.2.2.2.2.2.2.2.2.2
theorem db_X11_begin_62 : decode cX11_begin 62 = .ok (.iadd, 1) ∧ decode cX11_begin 63 = .ok (.iload_n 1, 1) ∧ decode cX11_begin 64 = .ok (.irem, 1) ∧ decode cX11_begin 65 = .ok (.aaload, 1) ∧ decode cX11_begin 66 = .ok (.astore 6, 2) ∧ decode cX11_begin 68 = .ok (.aload_n 0, 1) ∧ decode cX11_begin 69 = .ok (.getfield 27, 3) ∧ decode cX11_begin 72 = .ok (.iload 4, 2) ∧ decode cX11_begin 74 = .ok (.iconst 3, 1) ∧ decode cX11_begin 75 = .ok (.imul, 1) ∧ decode cX11_begin 76 = .ok (.iload 5, 2) ∧ decode cX11_begin 78 = .ok (.iadd, 1) ∧ decode cX11_begin 79 = .ok (.aaload, 1) ∧ decode cX11_begin 80 = .ok (.astore 7, 2) ∧ decode cX11_begin 82 = .ok (.aload 6, 2) ∧ decode cX11_begin 84 = .ok (.getfield 362, 3) := by decide +kernel
theorem dX11_begin_62 : decode cX11_begin 62 = .ok (.iadd, 1) := db_X11_begin_62.1
theorem dX11_begin_63 : decode cX11_begin 63 = .ok (.iload_n 1, 1) := db_X11_begin_62.2.1
theorem dX11_begin_64 : decode cX11_begin 64 = .ok (.irem, 1) := db_X11_begin_62.2.2.1
theorem dX11_begin_65 : decode cX11_begin 65 = .ok (.aaload, 1) := db_X11_begin_62.2.2.2.1
theorem dX11_begin_66 : decode cX11_begin 66 = .ok (.astore 6, 2) := db_X11_begin_62.2.2.2.2.1
theorem dX11_begin_68 : decode cX11_begin 68 = .ok (.aload_n 0, 1) := db_X11_begin_62.2.2.2.2.2.1
theorem dX11_begin_69 : decode cX11_begin 69 = .ok (.getfield 27, 3) := db_X11_begin_62.2.2.2.2.2.2.1
theorem dX11_begin_72 : decode cX11_begin 72 = .ok (.iload 4, 2) := db_X11_begin_62.2.2.2.2.2.2.2.1
theorem dX11_begin_74 : decode cX11_begin 74 = .ok (.iconst 3, 1) := db_X11_begin_62.2.2.2.2.2.2.2.2.1
theorem dX11_begin_75 : decode cX11_begin 75 = .ok (.imul, 1) := db_X11_begin_62.2.2.2.2.2.2.2.2.2.1
theorem dX11_begin_76 : decode cX11_begin 76 = .ok (.iload 5, 2) := db_X11_begin_62.2.2.2.2.2.2.2.2.2.2.1
theorem dX11_begin_78 : decode cX11_begin 78 = .ok (.iadd, 1) := db_X11_begin_62.2.2.2.2.2.2.2.2.2.2.2.1
theorem dX11_begin_79 : decode cX11_begin 79 = .ok (.aaload, 1) := db_X11_begin_62.2.2.2.2.2.2.2.2.2.2.2.2.1
theorem dX11_begin_80 : decode cX11_begin 80 = .ok (.astore 7, 2) := db_X11_begin_62.2.2.2.2.2.2.2.2.2.2.2.2.2.1
theorem dX11_begin_82 : decode cX11_begin 82 = .ok (.aload 6, 2) := db_X11_begin_62.2.2.2.2.2.2.2.2.2.2.2.2.2.2.1
theorem dX11_begin_84 : decode cX11_begin 84 = .ok (.getfield 362, 3) := db_X11_begin_62.2.2.2.2.2.2.2.2.2.2.2.2.2.2.2
theorem db_X11_begin_87 : decode cX11_begin 87 = .ok (.iload 4, 2) ∧ decode cX11_begin 89 = .ok (.aload 7, 2) ∧ decode cX11_begin 91 = .ok (.aastore, 1) ∧ decode cX11_begin 92 = .ok (.aload 7, 2) ∧ decode cX11_begin 94 = .ok (.aload 6, 2) ∧ decode cX11_begin 96 = .ok (.iload 4, 2) ∧ decode cX11_begin 98 = .ok (.invokevirtual 363, 3) ∧ decode cX11_begin 101 = .ok (.iinc 5 1, 3) ∧ decode cX11_begin 104 = .ok (.goto (-56), 3) ∧ decode cX11_begin 107 = .ok (.iinc 4 1, 3) ∧ decode cX11_begin 110 = .ok (.goto (-71), 3) ∧ decode cX11_begin 113 = .ok (.aload_n 0, 1) ∧ decode cX11_begin 114 = .ok (.getfield 37, 3) ∧ decode cX11_begin 117 = .ok (.aload_n 0, 1) ∧ decode cX11_begin 118 = .ok (.getfield 18, 3) ∧ decode cX11_begin 121 = .ok (.iload_n 1, 1) := by decide +kernel
theorem dX11_begin_87 : decode cX11_begin 87 = .ok (.iload 4, 2) := db_X11_begin_87.1
theorem dX11_begin_89 : decode cX11_begin 89 = .ok (.aload 7, 2) := db_X11_begin_87.2.1
theorem dX11_begin_91 : decode cX11_begin 91 = .ok (.aastore, 1) := db_X11_begin_87.2.2.1
theorem dX11_begin_92 : decode cX11_begin 92 = .ok (.aload 7, 2) := db_X11_begin_87.2.2.2.1
theorem dX11_begin_94 : decode cX11_begin 94 = .ok (.aload 6, 2) := db_X11_begin_87.2.2.2.2.1
theorem dX11_begin_96 : decode cX11_begin 96 = .ok (.iload 4, 2) := db_X11_begin_87.2.2.2.2.2.1
theorem dX11_begin_98 : decode cX11_begin 98 = .ok (.invokevirtual 363, 3) := db_X11_begin_87.2.2.2.2.2.2.1
theorem dX11_begin_101 : decode cX11_begin 101 = .ok (.iinc 5 1, 3) := db_X11_begin_87.2.2.2.2.2.2.2.1
theorem dX11_begin_104 : decode cX11_begin 104 = .ok (.goto (-56), 3) := db_X11_begin_87.2.2.2.2.2.2.2.2.1
theorem dX11_begin_107 : decode cX11_begin 107 = .ok (.iinc 4 1, 3) := db_X11_begin_87.2.2.2.2.2.2.2.2.2.1
theorem dX11_begin_110 : decode cX11_begin 110 = .ok (.goto (-71), 3) := db_X11_begin_87.2.2.2.2.2.2.2.2.2.2.1
theorem dX11_begin_113 : decode cX11_begin 113 = .ok (.aload_n 0, 1) := db_X11_begin_87.2.2.2.2.2.2.2.2.2.2.2.1
theorem dX11_begin_114 : decode cX11_begin 114 = .ok (.getfield 37, 3) := db_X11_begin_87.2.2.2.2.2.2.2.2.2.2.2.2.1
theorem dX11_begin_117 : decode cX11_begin 117 = .ok (.aload_n 0, 1) := db_X11_begin_87.2.2.2.2.2.2.2.2.2.2.2.2.2.1
theorem dX11_begin_118 : decode cX11_begin 118 = .ok (.getfield 18, 3) := db_X11_begin_87.2.2.2.2.2.2.2.2.2.2.2.2.2.2.1
theorem dX11_begin_121 : decode cX11_begin 121 = .ok (.iload_n 1, 1) := db_X11_begin_87.2.2.2.2.2.2.2.2.2.2.2.2.2.2.2
theorem db_X11_begin_122 : decode cX11_begin 122 = .ok (.aaload, 1) ∧ decode cX11_begin 123 = .ok (.invokevirtual 366, 3) ∧ decode cX11_begin 126 = .ok (.aload_n 0, 1) ∧ decode cX11_begin 127 = .ok (.getfield 12, 3) ∧ decode cX11_begin 130 = .ok (.iconst 0, 1) ∧ decode cX11_begin 131 = .ok (.putfield 327, 3) ∧ decode cX11_begin 134 = .ok (.return_, 1) := by decide +kernel
theorem dX11_begin_122 : decode cX11_begin 122 = .ok (.aaload, 1) := db_X11_begin_122.1
theorem dX11_begin_123 : decode cX11_begin 123 = .ok (.invokevirtual 366, 3) := db_X11_begin_122.2.1
theorem dX11_begin_126 : decode cX11_begin 126 = .ok (.aload_n 0, 1) := db_X11_begin_122.2.2.1
theorem dX11_begin_127 : decode cX11_begin 127 = .ok (.getfield 12, 3) := db_X11_begin_122.2.2.2.1
theorem dX11_begin_130 : decode cX11_begin 130 = .ok (.iconst 0, 1) := db_X11_begin_122.2.2.2.2.1
theorem dX11_begin_131 : decode cX11_begin 131 = .ok (.putfield 327, 3) := db_X11_begin_122.2.2.2.2.2.1
theorem dX11_begin_134 : decode cX11_begin 134 = .ok (.return_, 1) := db_X11_begin_122.2.2.2.2.2.2
theorem db_X11_come_0 : decode cX11_come 0 = .ok (.aload_n 0, 1) ∧ decode cX11_come 1 = .ok (.getfield 12, 3) ∧ decode cX11_come 4 = .ok (.getfield 318, 3) ∧ decode cX11_come 7 = .ok (.istore 6, 2) ∧ decode cX11_come 9 = .ok (.aload_n 0, 1) ∧ decode cX11_come 10 = .ok (.getfield 12, 3) ∧ decode cX11_come 13 = .ok (.getfield 369, 3) ∧ decode cX11_come 16 = .ok (.iload 6, 2) ∧ decode cX11_come 18 = .ok (.new 120, 3) ∧ decode cX11_come 21 = .ok (.dup, 1) ∧ decode cX11_come 22 = .ok (.iload 6, 2) ∧ decode cX11_come 24 = .ok (.iload_n 1, 1) ∧ decode cX11_come 25 = .ok (.iload_n 2, 1) ∧ decode cX11_come 26 = .ok (.iload_n 3, 1) ∧ decode cX11_come 27 = .ok (.aload_n 0, 1) ∧ decode cX11_come 28 = .ok (.getfield 12, 3) := by decide +kernel
theorem dX11_come_0 : decode cX11_come 0 = .ok (.aload_n 0, 1) := db_X11_come_0.1
theorem dX11_come_1 : decode cX11_come 1 = .ok (.getfield 12, 3) := db_X11_come_0.2.1
theorem dX11_come_4 : decode cX11_come 4 = .ok (.getfield 318, 3) := db_X11_come_0.2.2.1
theorem dX11_come_7 : decode cX11_come 7 = .ok (.istore 6, 2) := db_X11_come_0.2.2.2.1
theorem dX11_come_9 : decode cX11_come 9 = .ok (.aload_n 0, 1) := db_X11_come_0.2.2.2.2.1
theorem dX11_come_10 : decode cX11_come 10 = .ok (.getfield 12, 3) := db_X11_come_0.2.2.2.2.2.1
theorem dX11_come_13 : decode cX11_come 13 = .ok (.getfield 369, 3) := db_X11_come_0.2.2.2.2.2.2.1
theorem dX11_come_16 : decode cX11_come 16 = .ok (.iload 6, 2) := db_X11_come_0.2.2.2.2.2.2.2.1
theorem dX11_come_18 : decode cX11_come 18 = .ok (.new 120, 3) := db_X11_come_0.2.2.2.2.2.2.2.2.1
theorem dX11_come_21 : decode cX11_come 21 = .ok (.dup, 1) := db_X11_come_0.2.2.2.2.2.2.2.2.2.1
theorem dX11_come_22 : decode cX11_come 22 = .ok (.iload 6, 2) := db_X11_come_0.2.2.2.2.2.2.2.2.2.2.1
theorem dX11_come_24 : decode cX11_come 24 = .ok (.iload_n 1, 1) := db_X11_come_0.2.2.2.2.2.2.2.2.2.2.2.1
theorem dX11_come_25 : decode cX11_come 25 = .ok (.iload_n 2, 1) := db_X11_come_0.2.2.2.2.2.2.2.2.2.2.2.2.1
theorem dX11_come_26 : decode cX11_come 26 = .ok (.iload_n 3, 1) := db_X11_come_0.2.2.2.2.2.2.2.2.2.2.2.2.2.1
theorem dX11_come_27 : decode cX11_come 27 = .ok (.aload_n 0, 1) := db_X11_come_0.2.2.2.2.2.2.2.2.2.2.2.2.2.2.1
theorem dX11_come_28 : decode cX11_come 28 = .ok (.getfield 12, 3) := db_X11_come_0.2.2.2.2.2.2.2.2.2.2.2.2.2.2.2
theorem db_X11_come_31 : decode cX11_come 31 = .ok (.getfield 178, 3) ∧ decode cX11_come 34 = .ok (.aload 4, 2) ∧ decode cX11_come 36 = .ok (.aload 5, 2) ∧ decode cX11_come 38 = .ok (.invokespecial 373, 3) ∧ decode cX11_come 41 = .ok (.aastore, 1) ∧ decode cX11_come 42 = .ok (.aload_n 0, 1) ∧ decode cX11_come 43 = .ok (.getfield 12, 3) ∧ decode cX11_come 46 = .ok (.dup, 1) ∧ decode cX11_come 47 = .ok (.getfield 318, 3) ∧ decode cX11_come 50 = .ok (.iconst 1, 1) ∧ decode cX11_come 51 = .ok (.iadd, 1) ∧ decode cX11_come 52 = .ok (.putfield 318, 3) ∧ decode cX11_come 55 = .ok (.aload_n 0, 1) ∧ decode cX11_come 56 = .ok (.getfield 12, 3) ∧ decode cX11_come 59 = .ok (.iload_n 2, 1) ∧ decode cX11_come 60 = .ok (.aload_n 0, 1) := by decide +kernel
theorem dX11_come_31 : decode cX11_come 31 = .ok (.getfield 178, 3) := db_X11_come_31.1
theorem dX11_come_34 : decode cX11_come 34 = .ok (.aload 4, 2) := db_X11_come_31.2.1
theorem dX11_come_36 : decode cX11_come 36 = .ok (.aload 5, 2) := db_X11_come_31.2.2.1
theorem dX11_come_38 : decode cX11_come 38 = .ok (.invokespecial 373, 3) := db_X11_come_31.2.2.2.1
theorem dX11_come_41 : decode cX11_come 41 = .ok (.aastore, 1) := db_X11_come_31.2.2.2.2.1
theorem dX11_come_42 : decode cX11_come 42 = .ok (.aload_n 0, 1) := db_X11_come_31.2.2.2.2.2.1
theorem dX11_come_43 : decode cX11_come 43 = .ok (.getfield 12, 3) := db_X11_come_31.2.2.2.2.2.2.1
theorem dX11_come_46 : decode cX11_come 46 = .ok (.dup, 1) := db_X11_come_31.2.2.2.2.2.2.2.1
theorem dX11_come_47 : decode cX11_come 47 = .ok (.getfield 318, 3) := db_X11_come_31.2.2.2.2.2.2.2.2.1
theorem dX11_come_50 : decode cX11_come 50 = .ok (.iconst 1, 1) := db_X11_come_31.2.2.2.2.2.2.2.2.2.1
theorem dX11_come_51 : decode cX11_come 51 = .ok (.iadd, 1) := db_X11_come_31.2.2.2.2.2.2.2.2.2.2.1
theorem dX11_come_52 : decode cX11_come 52 = .ok (.putfield 318, 3) := db_X11_come_31.2.2.2.2.2.2.2.2.2.2.2.1
theorem dX11_come_55 : decode cX11_come 55 = .ok (.aload_n 0, 1) := db_X11_come_31.2.2.2.2.2.2.2.2.2.2.2.2.1
theorem dX11_come_56 : decode cX11_come 56 = .ok (.getfield 12, 3) := db_X11_come_31.2.2.2.2.2.2.2.2.2.2.2.2.2.1
theorem dX11_come_59 : decode cX11_come 59 = .ok (.iload_n 2, 1) := db_X11_come_31.2.2.2.2.2.2.2.2.2.2.2.2.2.2.1
theorem dX11_come_60 : decode cX11_come 60 = .ok (.aload_n 0, 1) := db_X11_come_31.2.2.2.2.2.2.2.2.2.2.2.2.2.2.2
theorem db_X11_come_61 : decode cX11_come 61 = .ok (.getfield 12, 3) ∧ decode cX11_come 64 = .ok (.getfield 186, 3) ∧ decode cX11_come 67 = .ok (.iconst 1, 1) ∧ decode cX11_come 68 = .ok (.invokevirtual 376, 3) ∧ decode cX11_come 71 = .ok (.iload 6, 2) ∧ decode cX11_come 73 = .ok (.iconst 0, 1) ∧ decode cX11_come 74 = .ok (.iconst 0, 1) ∧ decode cX11_come 75 = .ok (.iconst 0, 1) ∧ decode cX11_come 76 = .ok (.iconst 0, 1) ∧ decode cX11_come 77 = .ok (.invokevirtual 379, 3) ∧ decode cX11_come 80 = .ok (.pop, 1) ∧ decode cX11_come 81 = .ok (.iload 6, 2) ∧ decode cX11_come 83 = .ok (.ireturn, 1) := by decide +kernel
theorem dX11_come_61 : decode cX11_come 61 = .ok (.getfield 12, 3) := db_X11_come_61.1
theorem dX11_come_64 : decode cX11_come 64 = .ok (.getfield 186, 3) := db_X11_come_61.2.1
theorem dX11_come_67 : decode cX11_come 67 = .ok (.iconst 1, 1) := db_X11_come_61.2.2.1
theorem dX11_come_68 : decode cX11_come 68 = .ok (.invokevirtual 376, 3) := db_X11_come_61.2.2.2.1
theorem dX11_come_71 : decode cX11_come 71 = .ok (.iload 6, 2) := db_X11_come_61.2.2.2.2.1
theorem dX11_come_73 : decode cX11_come 73 = .ok (.iconst 0, 1) := db_X11_come_61.2.2.2.2.2.1
theorem dX11_come_74 : decode cX11_come 74 = .ok (.iconst 0, 1) := db_X11_come_61.2.2.2.2.2.2.1
theorem dX11_come_75 : decode cX11_come 75 = .ok (.iconst 0, 1) := db_X11_come_61.2.2.2.2.2.2.2.1
theorem dX11_come_76 : decode cX11_come 76 = .ok (.iconst 0, 1) := db_X11_come_61.2.2.2.2.2.2.2.2.1
theorem dX11_come_77 : decode cX11_come 77 = .ok (.invokevirtual 379, 3) := db_X11_come_61.2.2.2.2.2.2.2.2.2.1
theorem dX11_come_80 : decode cX11_come 80 = .ok (.pop, 1) := db_X11_come_61.2.2.2.2.2.2.2.2.2.2.1
theorem dX11_come_81 : decode cX11_come 81 = .ok (.iload 6, 2) := db_X11_come_61.2.2.2.2.2.2.2.2.2.2.2.1
theorem dX11_come_83 : decode cX11_come 83 = .ok (.ireturn, 1) := db_X11_come_61.2.2.2.2.2.2.2.2.2.2.2.2
theorem db_X11_fall_0 : decode cX11_fall 0 = .ok (.aload_n 0, 1) ∧ decode cX11_fall 1 = .ok (.getfield 18, 3) ∧ decode cX11_fall 4 = .ok (.iload_n 1, 1) ∧ decode cX11_fall 5 = .ok (.aaload, 1) ∧ decode cX11_fall 6 = .ok (.iconst 0, 1) ∧ decode cX11_fall 7 = .ok (.putfield 191, 3) ∧ decode cX11_fall 10 = .ok (.aload_n 0, 1) ∧ decode cX11_fall 11 = .ok (.getfield 18, 3) ∧ decode cX11_fall 14 = .ok (.iload_n 1, 1) ∧ decode cX11_fall 15 = .ok (.aaload, 1) ∧ decode cX11_fall 16 = .ok (.invokevirtual 383, 3) ∧ decode cX11_fall 19 = .ok (.iconst 0, 1) ∧ decode cX11_fall 20 = .ok (.istore_n 2, 1) ∧ decode cX11_fall 21 = .ok (.aload_n 0, 1) ∧ decode cX11_fall 22 = .ok (.getfield 12, 3) ∧ decode cX11_fall 25 = .ok (.getfield 386, 3) := by decide +kernel
theorem dX11_fall_0 : decode cX11_fall 0 = .ok (.aload_n 0, 1) := db_X11_fall_0.1
theorem dX11_fall_1 : decode cX11_fall 1 = .ok (.getfield 18, 3) := db_X11_fall_0.2.1
theorem dX11_fall_4 : decode cX11_fall 4 = .ok (.iload_n 1, 1) := db_X11_fall_0.2.2.1
theorem dX11_fall_5 : decode cX11_fall 5 = .ok (.aaload, 1) := db_X11_fall_0.2.2.2.1
theorem dX11_fall_6 : decode cX11_fall 6 = .ok (.iconst 0, 1) := db_X11_fall_0.2.2.2.2.1
theorem dX11_fall_7 : decode cX11_fall 7 = .ok (.putfield 191, 3) := db_X11_fall_0.2.2.2.2.2.1
theorem dX11_fall_10 : decode cX11_fall 10 = .ok (.aload_n 0, 1) := db_X11_fall_0.2.2.2.2.2.2.1
theorem dX11_fall_11 : decode cX11_fall 11 = .ok (.getfield 18, 3) := db_X11_fall_0.2.2.2.2.2.2.2.1
theorem dX11_fall_14 : decode cX11_fall 14 = .ok (.iload_n 1, 1) := db_X11_fall_0.2.2.2.2.2.2.2.2.1
theorem dX11_fall_15 : decode cX11_fall 15 = .ok (.aaload, 1) := db_X11_fall_0.2.2.2.2.2.2.2.2.2.1
theorem dX11_fall_16 : decode cX11_fall 16 = .ok (.invokevirtual 383, 3) := db_X11_fall_0.2.2.2.2.2.2.2.2.2.2.1
theorem dX11_fall_19 : decode cX11_fall 19 = .ok (.iconst 0, 1) := db_X11_fall_0.2.2.2.2.2.2.2.2.2.2.2.1
theorem dX11_fall_20 : decode cX11_fall 20 = .ok (.istore_n 2, 1) := db_X11_fall_0.2.2.2.2.2.2.2.2.2.2.2.2.1
theorem dX11_fall_21 : decode cX11_fall 21 = .ok (.aload_n 0, 1) := db_X11_fall_0.2.2.2.2.2.2.2.2.2.2.2.2.2.1
theorem dX11_fall_22 : decode cX11_fall 22 = .ok (.getfield 12, 3) := db_X11_fall_0.2.2.2.2.2.2.2.2.2.2.2.2.2.2.1
theorem dX11_fall_25 : decode cX11_fall 25 = .ok (.getfield 386, 3) := db_X11_fall_0.2.2.2.2.2.2.2.2.2.2.2.2.2.2.2
theorem db_X11_fall_28 : decode cX11_fall 28 = .ok (.istore_n 3, 1) ∧ decode cX11_fall 29 = .ok (.iload_n 3, 1) ∧ decode cX11_fall 30 = .ok (.aload_n 0, 1) ∧ decode cX11_fall 31 = .ok (.getfield 12, 3) ∧ decode cX11_fall 34 = .ok (.getfield 318, 3) ∧ decode cX11_fall 37 = .ok (.if_icmp .ge 50, 3) ∧ decode cX11_fall 87 = .ok (.iload_n 2, 1) ∧ decode cX11_fall 88 = .ok (.ireturn, 1) := by decide +kernel
theorem dX11_fall_28 : decode cX11_fall 28 = .ok (.istore_n 3, 1) := db_X11_fall_28.1
theorem dX11_fall_29 : decode cX11_fall 29 = .ok (.iload_n 3, 1) := db_X11_fall_28.2.1
theorem dX11_fall_30 : decode cX11_fall 30 = .ok (.aload_n 0, 1) := db_X11_fall_28.2.2.1
theorem dX11_fall_31 : decode cX11_fall 31 = .ok (.getfield 12, 3) := db_X11_fall_28.2.2.2.1
theorem dX11_fall_34 : decode cX11_fall 34 = .ok (.getfield 318, 3) := db_X11_fall_28.2.2.2.2.1
theorem dX11_fall_37 : decode cX11_fall 37 = .ok (.if_icmp .ge 50, 3) := db_X11_fall_28.2.2.2.2.2.1
theorem dX11_fall_87 : decode cX11_fall 87 = .ok (.iload_n 2, 1) := db_X11_fall_28.2.2.2.2.2.2.1
theorem dX11_fall_88 : decode cX11_fall 88 = .ok (.ireturn, 1) := db_X11_fall_28.2.2.2.2.2.2.2
theorem db_X11_pulse_0 : decode cX11_pulse 0 = .ok (.aload_n 0, 1) ∧ decode cX11_pulse 1 = .ok (.getfield 12, 3) ∧ decode cX11_pulse 4 = .ok (.dup, 1) ∧ decode cX11_pulse 5 = .ok (.getfield 178, 3) ∧ decode cX11_pulse 8 = .ok (.iconst 1, 1) ∧ decode cX11_pulse 9 = .ok (.iadd, 1) ∧ decode cX11_pulse 10 = .ok (.putfield 178, 3) ∧ decode cX11_pulse 13 = .ok (.aload_n 0, 1) ∧ decode cX11_pulse 14 = .ok (.getfield 12, 3) ∧ decode cX11_pulse 17 = .ok (.invokevirtual 393, 3) ∧ decode cX11_pulse 20 = .ok (.iconst 0, 1) ∧ decode cX11_pulse 21 = .ok (.istore_n 1, 1) ∧ decode cX11_pulse 22 = .ok (.iload_n 1, 1) ∧ decode cX11_pulse 23 = .ok (.aload_n 0, 1) ∧ decode cX11_pulse 24 = .ok (.getfield 12, 3) ∧ decode cX11_pulse 27 = .ok (.getfield 186, 3) := by decide +kernel
theorem dX11_pulse_0 : decode cX11_pulse 0 = .ok (.aload_n 0, 1) := db_X11_pulse_0.1
theorem dX11_pulse_1 : decode cX11_pulse 1 = .ok (.getfield 12, 3) := db_X11_pulse_0.2.1
theorem dX11_pulse_4 : decode cX11_pulse 4 = .ok (.dup, 1) := db_X11_pulse_0.2.2.1
theorem dX11_pulse_5 : decode cX11_pulse 5 = .ok (.getfield 178, 3) := db_X11_pulse_0.2.2.2.1
theorem dX11_pulse_8 : decode cX11_pulse 8 = .ok (.iconst 1, 1) := db_X11_pulse_0.2.2.2.2.1
theorem dX11_pulse_9 : decode cX11_pulse 9 = .ok (.iadd, 1) := db_X11_pulse_0.2.2.2.2.2.1
theorem dX11_pulse_10 : decode cX11_pulse 10 = .ok (.putfield 178, 3) := db_X11_pulse_0.2.2.2.2.2.2.1
theorem dX11_pulse_13 : decode cX11_pulse 13 = .ok (.aload_n 0, 1) := db_X11_pulse_0.2.2.2.2.2.2.2.1
theorem dX11_pulse_14 : decode cX11_pulse 14 = .ok (.getfield 12, 3) := db_X11_pulse_0.2.2.2.2.2.2.2.2.1
theorem dX11_pulse_17 : decode cX11_pulse 17 = .ok (.invokevirtual 393, 3) := db_X11_pulse_0.2.2.2.2.2.2.2.2.2.1
theorem dX11_pulse_20 : decode cX11_pulse 20 = .ok (.iconst 0, 1) := db_X11_pulse_0.2.2.2.2.2.2.2.2.2.2.1
theorem dX11_pulse_21 : decode cX11_pulse 21 = .ok (.istore_n 1, 1) := db_X11_pulse_0.2.2.2.2.2.2.2.2.2.2.2.1
theorem dX11_pulse_22 : decode cX11_pulse 22 = .ok (.iload_n 1, 1) := db_X11_pulse_0.2.2.2.2.2.2.2.2.2.2.2.2.1
theorem dX11_pulse_23 : decode cX11_pulse 23 = .ok (.aload_n 0, 1) := db_X11_pulse_0.2.2.2.2.2.2.2.2.2.2.2.2.2.1
theorem dX11_pulse_24 : decode cX11_pulse 24 = .ok (.getfield 12, 3) := db_X11_pulse_0.2.2.2.2.2.2.2.2.2.2.2.2.2.2.1
theorem dX11_pulse_27 : decode cX11_pulse 27 = .ok (.getfield 186, 3) := db_X11_pulse_0.2.2.2.2.2.2.2.2.2.2.2.2.2.2.2
theorem db_X11_pulse_30 : decode cX11_pulse 30 = .ok (.if_icmp .ge 85, 3) ∧ decode cX11_pulse 33 = .ok (.aload_n 0, 1) ∧ decode cX11_pulse 34 = .ok (.getfield 18, 3) ∧ decode cX11_pulse 37 = .ok (.iload_n 1, 1) ∧ decode cX11_pulse 38 = .ok (.aaload, 1) ∧ decode cX11_pulse 39 = .ok (.getfield 191, 3) ∧ decode cX11_pulse 42 = .ok (.ifCond .eq 67, 3) ∧ decode cX11_pulse 45 = .ok (.iconst 0, 1) ∧ decode cX11_pulse 46 = .ok (.istore_n 2, 1) ∧ decode cX11_pulse 47 = .ok (.iload_n 2, 1) ∧ decode cX11_pulse 48 = .ok (.aload_n 0, 1) ∧ decode cX11_pulse 49 = .ok (.getfield 12, 3) ∧ decode cX11_pulse 52 = .ok (.getfield 337, 3) ∧ decode cX11_pulse 55 = .ok (.if_icmp .ge 28, 3) ∧ decode cX11_pulse 58 = .ok (.aload_n 0, 1) ∧ decode cX11_pulse 59 = .ok (.getfield 18, 3) := by decide +kernel
theorem dX11_pulse_30 : decode cX11_pulse 30 = .ok (.if_icmp .ge 85, 3) := db_X11_pulse_30.1
theorem dX11_pulse_33 : decode cX11_pulse 33 = .ok (.aload_n 0, 1) := db_X11_pulse_30.2.1
theorem dX11_pulse_34 : decode cX11_pulse 34 = .ok (.getfield 18, 3) := db_X11_pulse_30.2.2.1
theorem dX11_pulse_37 : decode cX11_pulse 37 = .ok (.iload_n 1, 1) := db_X11_pulse_30.2.2.2.1
theorem dX11_pulse_38 : decode cX11_pulse 38 = .ok (.aaload, 1) := db_X11_pulse_30.2.2.2.2.1
theorem dX11_pulse_39 : decode cX11_pulse 39 = .ok (.getfield 191, 3) := db_X11_pulse_30.2.2.2.2.2.1
theorem dX11_pulse_42 : decode cX11_pulse 42 = .ok (.ifCond .eq 67, 3) := db_X11_pulse_30.2.2.2.2.2.2.1
theorem dX11_pulse_45 : decode cX11_pulse 45 = .ok (.iconst 0, 1) := db_X11_pulse_30.2.2.2.2.2.2.2.1
theorem dX11_pulse_46 : decode cX11_pulse 46 = .ok (.istore_n 2, 1) := db_X11_pulse_30.2.2.2.2.2.2.2.2.1
theorem dX11_pulse_47 : decode cX11_pulse 47 = .ok (.iload_n 2, 1) := db_X11_pulse_30.2.2.2.2.2.2.2.2.2.1
theorem dX11_pulse_48 : decode cX11_pulse 48 = .ok (.aload_n 0, 1) := db_X11_pulse_30.2.2.2.2.2.2.2.2.2.2.1
theorem dX11_pulse_49 : decode cX11_pulse 49 = .ok (.getfield 12, 3) := db_X11_pulse_30.2.2.2.2.2.2.2.2.2.2.2.1
theorem dX11_pulse_52 : decode cX11_pulse 52 = .ok (.getfield 337, 3) := db_X11_pulse_30.2.2.2.2.2.2.2.2.2.2.2.2.1
theorem dX11_pulse_55 : decode cX11_pulse 55 = .ok (.if_icmp .ge 28, 3) := db_X11_pulse_30.2.2.2.2.2.2.2.2.2.2.2.2.2.1
theorem dX11_pulse_58 : decode cX11_pulse 58 = .ok (.aload_n 0, 1) := db_X11_pulse_30.2.2.2.2.2.2.2.2.2.2.2.2.2.2.1
theorem dX11_pulse_59 : decode cX11_pulse 59 = .ok (.getfield 18, 3) := db_X11_pulse_30.2.2.2.2.2.2.2.2.2.2.2.2.2.2.2
theorem db_X11_pulse_62 : decode cX11_pulse 62 = .ok (.iload_n 1, 1) ∧ decode cX11_pulse 63 = .ok (.aaload, 1) ∧ decode cX11_pulse 64 = .ok (.iload_n 2, 1) ∧ decode cX11_pulse 65 = .ok (.invokevirtual 348, 3) ∧ decode cX11_pulse 68 = .ok (.astore_n 3, 1) ∧ decode cX11_pulse 69 = .ok (.aload_n 3, 1) ∧ decode cX11_pulse 70 = .ok (.ifnull 7, 3) ∧ decode cX11_pulse 73 = .ok (.aload_n 3, 1) ∧ decode cX11_pulse 74 = .ok (.invokevirtual 396, 3) ∧ decode cX11_pulse 77 = .ok (.iinc 2 1, 3) ∧ decode cX11_pulse 80 = .ok (.goto (-33), 3) ∧ decode cX11_pulse 83 = .ok (.aload_n 0, 1) ∧ decode cX11_pulse 84 = .ok (.getfield 18, 3) ∧ decode cX11_pulse 87 = .ok (.iload_n 1, 1) ∧ decode cX11_pulse 88 = .ok (.aaload, 1) ∧ decode cX11_pulse 89 = .ok (.invokevirtual 397, 3) := by decide +kernel
theorem dX11_pulse_62 : decode cX11_pulse 62 = .ok (.iload_n 1, 1) := db_X11_pulse_62.1
theorem dX11_pulse_63 : decode cX11_pulse 63 = .ok (.aaload, 1) := db_X11_pulse_62.2.1
theorem dX11_pulse_64 : decode cX11_pulse 64 = .ok (.iload_n 2, 1) := db_X11_pulse_62.2.2.1
theorem dX11_pulse_65 : decode cX11_pulse 65 = .ok (.invokevirtual 348, 3) := db_X11_pulse_62.2.2.2.1
theorem dX11_pulse_68 : decode cX11_pulse 68 = .ok (.astore_n 3, 1) := db_X11_pulse_62.2.2.2.2.1
theorem dX11_pulse_69 : decode cX11_pulse 69 = .ok (.aload_n 3, 1) := db_X11_pulse_62.2.2.2.2.2.1
theorem dX11_pulse_70 : decode cX11_pulse 70 = .ok (.ifnull 7, 3) := db_X11_pulse_62.2.2.2.2.2.2.1
theorem dX11_pulse_73 : decode cX11_pulse 73 = .ok (.aload_n 3, 1) := db_X11_pulse_62.2.2.2.2.2.2.2.1
theorem dX11_pulse_74 : decode cX11_pulse 74 = .ok (.invokevirtual 396, 3) := db_X11_pulse_62.2.2.2.2.2.2.2.2.1
theorem dX11_pulse_77 : decode cX11_pulse 77 = .ok (.iinc 2 1, 3) := db_X11_pulse_62.2.2.2.2.2.2.2.2.2.1
theorem dX11_pulse_80 : decode cX11_pulse 80 = .ok (.goto (-33), 3) := db_X11_pulse_62.2.2.2.2.2.2.2.2.2.2.1
theorem dX11_pulse_83 : decode cX11_pulse 83 = .ok (.aload_n 0, 1) := db_X11_pulse_62.2.2.2.2.2.2.2.2.2.2.2.1
theorem dX11_pulse_84 : decode cX11_pulse 84 = .ok (.getfield 18, 3) := db_X11_pulse_62.2.2.2.2.2.2.2.2.2.2.2.2.1
theorem dX11_pulse_87 : decode cX11_pulse 87 = .ok (.iload_n 1, 1) := db_X11_pulse_62.2.2.2.2.2.2.2.2.2.2.2.2.2.1
theorem dX11_pulse_88 : decode cX11_pulse 88 = .ok (.aaload, 1) := db_X11_pulse_62.2.2.2.2.2.2.2.2.2.2.2.2.2.2.1
theorem dX11_pulse_89 : decode cX11_pulse 89 = .ok (.invokevirtual 397, 3) := db_X11_pulse_62.2.2.2.2.2.2.2.2.2.2.2.2.2.2.2
theorem db_X11_pulse_92 : decode cX11_pulse 92 = .ok (.aload_n 0, 1) ∧ decode cX11_pulse 93 = .ok (.getfield 18, 3) ∧ decode cX11_pulse 96 = .ok (.iload_n 1, 1) ∧ decode cX11_pulse 97 = .ok (.aaload, 1) ∧ decode cX11_pulse 98 = .ok (.invokevirtual 400, 3) ∧ decode cX11_pulse 101 = .ok (.aload_n 0, 1) ∧ decode cX11_pulse 102 = .ok (.getfield 12, 3) ∧ decode cX11_pulse 105 = .ok (.iload_n 1, 1) ∧ decode cX11_pulse 106 = .ok (.invokevirtual 403, 3) ∧ decode cX11_pulse 109 = .ok (.iinc 1 1, 3) ∧ decode cX11_pulse 112 = .ok (.goto (-90), 3) ∧ decode cX11_pulse 115 = .ok (.aload_n 0, 1) ∧ decode cX11_pulse 116 = .ok (.getfield 18, 3) ∧ decode cX11_pulse 119 = .ok (.aload_n 0, 1) ∧ decode cX11_pulse 120 = .ok (.getfield 12, 3) ∧ decode cX11_pulse 123 = .ok (.getfield 186, 3) := by decide +kernel
theorem dX11_pulse_92 : decode cX11_pulse 92 = .ok (.aload_n 0, 1) := db_X11_pulse_92.1
theorem dX11_pulse_93 : decode cX11_pulse 93 = .ok (.getfield 18, 3) := db_X11_pulse_92.2.1
theorem dX11_pulse_96 : decode cX11_pulse 96 = .ok (.iload_n 1, 1) := db_X11_pulse_92.2.2.1
theorem dX11_pulse_97 : decode cX11_pulse 97 = .ok (.aaload, 1) := db_X11_pulse_92.2.2.2.1
theorem dX11_pulse_98 : decode cX11_pulse 98 = .ok (.invokevirtual 400, 3) := db_X11_pulse_92.2.2.2.2.1
theorem dX11_pulse_101 : decode cX11_pulse 101 = .ok (.aload_n 0, 1) := db_X11_pulse_92.2.2.2.2.2.1
theorem dX11_pulse_102 : decode cX11_pulse 102 = .ok (.getfield 12, 3) := db_X11_pulse_92.2.2.2.2.2.2.1
theorem dX11_pulse_105 : decode cX11_pulse 105 = .ok (.iload_n 1, 1) := db_X11_pulse_92.2.2.2.2.2.2.2.1
theorem dX11_pulse_106 : decode cX11_pulse 106 = .ok (.invokevirtual 403, 3) := db_X11_pulse_92.2.2.2.2.2.2.2.2.1
theorem dX11_pulse_109 : decode cX11_pulse 109 = .ok (.iinc 1 1, 3) := db_X11_pulse_92.2.2.2.2.2.2.2.2.2.1
theorem dX11_pulse_112 : decode cX11_pulse 112 = .ok (.goto (-90), 3) := db_X11_pulse_92.2.2.2.2.2.2.2.2.2.2.1
theorem dX11_pulse_115 : decode cX11_pulse 115 = .ok (.aload_n 0, 1) := db_X11_pulse_92.2.2.2.2.2.2.2.2.2.2.2.1
theorem dX11_pulse_116 : decode cX11_pulse 116 = .ok (.getfield 18, 3) := db_X11_pulse_92.2.2.2.2.2.2.2.2.2.2.2.2.1
theorem dX11_pulse_119 : decode cX11_pulse 119 = .ok (.aload_n 0, 1) := db_X11_pulse_92.2.2.2.2.2.2.2.2.2.2.2.2.2.1
theorem dX11_pulse_120 : decode cX11_pulse 120 = .ok (.getfield 12, 3) := db_X11_pulse_92.2.2.2.2.2.2.2.2.2.2.2.2.2.2.1
theorem dX11_pulse_123 : decode cX11_pulse 123 = .ok (.getfield 186, 3) := db_X11_pulse_92.2.2.2.2.2.2.2.2.2.2.2.2.2.2.2
theorem db_X11_pulse_126 : decode cX11_pulse 126 = .ok (.aaload, 1) ∧ decode cX11_pulse 127 = .ok (.getfield 191, 3) ∧ decode cX11_pulse 130 = .ok (.ifCond .eq 26, 3) ∧ decode cX11_pulse 133 = .ok (.aload_n 0, 1) ∧ decode cX11_pulse 134 = .ok (.getfield 37, 3) ∧ decode cX11_pulse 137 = .ok (.invokevirtual 406, 3) ∧ decode cX11_pulse 140 = .ok (.goto 16, 3) ∧ decode cX11_pulse 156 = .ok (.return_, 1) := by decide +kernel
theorem dX11_pulse_126 : decode cX11_pulse 126 = .ok (.aaload, 1) := db_X11_pulse_126.1
theorem dX11_pulse_127 : decode cX11_pulse 127 = .ok (.getfield 191, 3) := db_X11_pulse_126.2.1
theorem dX11_pulse_130 : decode cX11_pulse 130 = .ok (.ifCond .eq 26, 3) := db_X11_pulse_126.2.2.1
theorem dX11_pulse_133 : decode cX11_pulse 133 = .ok (.aload_n 0, 1) := db_X11_pulse_126.2.2.2.1
theorem dX11_pulse_134 : decode cX11_pulse 134 = .ok (.getfield 37, 3) := db_X11_pulse_126.2.2.2.2.1
theorem dX11_pulse_137 : decode cX11_pulse 137 = .ok (.invokevirtual 406, 3) := db_X11_pulse_126.2.2.2.2.2.1
theorem dX11_pulse_140 : decode cX11_pulse 140 = .ok (.goto 16, 3) := db_X11_pulse_126.2.2.2.2.2.2.1
theorem dX11_pulse_156 : decode cX11_pulse 156 = .ok (.return_, 1) := db_X11_pulse_126.2.2.2.2.2.2.2
theorem db_X11_contextsInUse_0 : decode cX11_contextsInUse 0 = .ok (.iconst 0, 1) ∧ decode cX11_contextsInUse 1 = .ok (.istore_n 1, 1) ∧ decode cX11_contextsInUse 2 = .ok (.iconst 0, 1) ∧ decode cX11_contextsInUse 3 = .ok (.istore_n 2, 1) ∧ decode cX11_contextsInUse 4 = .ok (.iload_n 2, 1) ∧ decode cX11_contextsInUse 5 = .ok (.aload_n 0, 1) ∧ decode cX11_contextsInUse 6 = .ok (.getfield 12, 3) ∧ decode cX11_contextsInUse 9 = .ok (.getfield 186, 3) ∧ decode cX11_contextsInUse 12 = .ok (.if_icmp .ge 21, 3) ∧ decode cX11_contextsInUse 15 = .ok (.iload_n 1, 1) ∧ decode cX11_contextsInUse 16 = .ok (.aload_n 0, 1) ∧ decode cX11_contextsInUse 17 = .ok (.getfield 18, 3) ∧ decode cX11_contextsInUse 20 = .ok (.iload_n 2, 1) ∧ decode cX11_contextsInUse 21 = .ok (.aaload, 1) ∧ decode cX11_contextsInUse 22 = .ok (.invokevirtual 409, 3) ∧ decode cX11_contextsInUse 25 = .ok (.iadd, 1) := by decide +kernel
theorem dX11_contextsInUse_0 : decode cX11_contextsInUse 0 = .ok (.iconst 0, 1) := db_X11_contextsInUse_0.1
theorem dX11_contextsInUse_1 : decode cX11_contextsInUse 1 = .ok (.istore_n 1, 1) := db_X11_contextsInUse_0.2.1
theorem dX11_contextsInUse_2 : decode cX11_contextsInUse 2 = .ok (.iconst 0, 1) := db_X11_contextsInUse_0.2.2.1
theorem dX11_contextsInUse_3 : decode cX11_contextsInUse 3 = .ok (.istore_n 2, 1) := db_X11_contextsInUse_0.2.2.2.1
theorem dX11_contextsInUse_4 : decode cX11_contextsInUse 4 = .ok (.iload_n 2, 1) := db_X11_contextsInUse_0.2.2.2.2.1
theorem dX11_contextsInUse_5 : decode cX11_contextsInUse 5 = .ok (.aload_n 0, 1) := db_X11_contextsInUse_0.2.2.2.2.2.1
theorem dX11_contextsInUse_6 : decode cX11_contextsInUse 6 = .ok (.getfield 12, 3) := db_X11_contextsInUse_0.2.2.2.2.2.2.1
theorem dX11_contextsInUse_9 : decode cX11_contextsInUse 9 = .ok (.getfield 186, 3) := db_X11_contextsInUse_0.2.2.2.2.2.2.2.1
theorem dX11_contextsInUse_12 : decode cX11_contextsInUse 12 = .ok (.if_icmp .ge 21, 3) := db_X11_contextsInUse_0.2.2.2.2.2.2.2.2.1
theorem dX11_contextsInUse_15 : decode cX11_contextsInUse 15 = .ok (.iload_n 1, 1) := db_X11_contextsInUse_0.2.2.2.2.2.2.2.2.2.1
theorem dX11_contextsInUse_16 : decode cX11_contextsInUse 16 = .ok (.aload_n 0, 1) := db_X11_contextsInUse_0.2.2.2.2.2.2.2.2.2.2.1
theorem dX11_contextsInUse_17 : decode cX11_contextsInUse 17 = .ok (.getfield 18, 3) := db_X11_contextsInUse_0.2.2.2.2.2.2.2.2.2.2.2.1
theorem dX11_contextsInUse_20 : decode cX11_contextsInUse 20 = .ok (.iload_n 2, 1) := db_X11_contextsInUse_0.2.2.2.2.2.2.2.2.2.2.2.2.1
theorem dX11_contextsInUse_21 : decode cX11_contextsInUse 21 = .ok (.aaload, 1) := db_X11_contextsInUse_0.2.2.2.2.2.2.2.2.2.2.2.2.2.1
theorem dX11_contextsInUse_22 : decode cX11_contextsInUse 22 = .ok (.invokevirtual 409, 3) := db_X11_contextsInUse_0.2.2.2.2.2.2.2.2.2.2.2.2.2.2.1
theorem dX11_contextsInUse_25 : decode cX11_contextsInUse 25 = .ok (.iadd, 1) := db_X11_contextsInUse_0.2.2.2.2.2.2.2.2.2.2.2.2.2.2.2
theorem db_X11_contextsInUse_26 : decode cX11_contextsInUse 26 = .ok (.istore_n 1, 1) ∧ decode cX11_contextsInUse 27 = .ok (.iinc 2 1, 3) ∧ decode cX11_contextsInUse 30 = .ok (.goto (-26), 3) ∧ decode cX11_contextsInUse 33 = .ok (.iload_n 1, 1) ∧ decode cX11_contextsInUse 34 = .ok (.ireturn, 1) := by decide +kernel
theorem dX11_contextsInUse_26 : decode cX11_contextsInUse 26 = .ok (.istore_n 1, 1) := db_X11_contextsInUse_26.1
theorem dX11_contextsInUse_27 : decode cX11_contextsInUse 27 = .ok (.iinc 2 1, 3) := db_X11_contextsInUse_26.2.1
theorem dX11_contextsInUse_30 : decode cX11_contextsInUse 30 = .ok (.goto (-26), 3) := db_X11_contextsInUse_26.2.2.1
theorem dX11_contextsInUse_33 : decode cX11_contextsInUse 33 = .ok (.iload_n 1, 1) := db_X11_contextsInUse_26.2.2.2.1
theorem dX11_contextsInUse_34 : decode cX11_contextsInUse 34 = .ok (.ireturn, 1) := db_X11_contextsInUse_26.2.2.2.2
theorem db_X11_pass_0 : decode cX11_pass 0 = .ok (.aload_n 0, 1) ∧ decode cX11_pass 1 = .ok (.getfield 12, 3) ∧ decode cX11_pass 4 = .ok (.iload_n 1, 1) ∧ decode cX11_pass 5 = .ok (.iload_n 2, 1) ∧ decode cX11_pass 6 = .ok (.invokevirtual 171, 3) ∧ decode cX11_pass 9 = .ok (.astore_n 3, 1) ∧ decode cX11_pass 10 = .ok (.aload_n 3, 1) ∧ decode cX11_pass 11 = .ok (.ifnonnull 5, 3) ∧ decode cX11_pass 14 = .ok (.iconst 0, 1) ∧ decode cX11_pass 15 = .ok (.ireturn, 1) ∧ decode cX11_pass 16 = .ok (.aload_n 0, 1) ∧ decode cX11_pass 17 = .ok (.getfield 12, 3) ∧ decode cX11_pass 20 = .ok (.dup, 1) ∧ decode cX11_pass 21 = .ok (.getfield 183, 3) ∧ decode cX11_pass 24 = .ok (.iconst 1, 1) ∧ decode cX11_pass 25 = .ok (.iadd, 1) := by decide +kernel
theorem dX11_pass_0 : decode cX11_pass 0 = .ok (.aload_n 0, 1) := db_X11_pass_0.1
theorem dX11_pass_1 : decode cX11_pass 1 = .ok (.getfield 12, 3) := db_X11_pass_0.2.1
theorem dX11_pass_4 : decode cX11_pass 4 = .ok (.iload_n 1, 1) := db_X11_pass_0.2.2.1
theorem dX11_pass_5 : decode cX11_pass 5 = .ok (.iload_n 2, 1) := db_X11_pass_0.2.2.2.1
theorem dX11_pass_6 : decode cX11_pass 6 = .ok (.invokevirtual 171, 3) := db_X11_pass_0.2.2.2.2.1
theorem dX11_pass_9 : decode cX11_pass 9 = .ok (.astore_n 3, 1) := db_X11_pass_0.2.2.2.2.2.1
theorem dX11_pass_10 : decode cX11_pass 10 = .ok (.aload_n 3, 1) := db_X11_pass_0.2.2.2.2.2.2.1
theorem dX11_pass_11 : decode cX11_pass 11 = .ok (.ifnonnull 5, 3) := db_X11_pass_0.2.2.2.2.2.2.2.1
theorem dX11_pass_14 : decode cX11_pass 14 = .ok (.iconst 0, 1) := db_X11_pass_0.2.2.2.2.2.2.2.2.1
theorem dX11_pass_15 : decode cX11_pass 15 = .ok (.ireturn, 1) := db_X11_pass_0.2.2.2.2.2.2.2.2.2.1
theorem dX11_pass_16 : decode cX11_pass 16 = .ok (.aload_n 0, 1) := db_X11_pass_0.2.2.2.2.2.2.2.2.2.2.1
theorem dX11_pass_17 : decode cX11_pass 17 = .ok (.getfield 12, 3) := db_X11_pass_0.2.2.2.2.2.2.2.2.2.2.2.1
theorem dX11_pass_20 : decode cX11_pass 20 = .ok (.dup, 1) := db_X11_pass_0.2.2.2.2.2.2.2.2.2.2.2.2.1
theorem dX11_pass_21 : decode cX11_pass 21 = .ok (.getfield 183, 3) := db_X11_pass_0.2.2.2.2.2.2.2.2.2.2.2.2.2.1
theorem dX11_pass_24 : decode cX11_pass 24 = .ok (.iconst 1, 1) := db_X11_pass_0.2.2.2.2.2.2.2.2.2.2.2.2.2.2.1
theorem dX11_pass_25 : decode cX11_pass 25 = .ok (.iadd, 1) := db_X11_pass_0.2.2.2.2.2.2.2.2.2.2.2.2.2.2.2
theorem db_X11_pass_26 : decode cX11_pass 26 = .ok (.putfield 183, 3) ∧ decode cX11_pass 29 = .ok (.aload_n 0, 1) ∧ decode cX11_pass 30 = .ok (.getfield 18, 3) ∧ decode cX11_pass 33 = .ok (.iload_n 2, 1) ∧ decode cX11_pass 34 = .ok (.aaload, 1) ∧ decode cX11_pass 35 = .ok (.getfield 191, 3) ∧ decode cX11_pass 38 = .ok (.ifCond .ne 8, 3) ∧ decode cX11_pass 46 = .ok (.aload_n 0, 1) ∧ decode cX11_pass 47 = .ok (.aload_n 3, 1) ∧ decode cX11_pass 48 = .ok (.iload_n 2, 1) ∧ decode cX11_pass 49 = .ok (.invokevirtual 412, 3) ∧ decode cX11_pass 52 = .ok (.astore 4, 2) ∧ decode cX11_pass 54 = .ok (.aload 4, 2) ∧ decode cX11_pass 56 = .ok (.ifnull 184, 3) ∧ decode cX11_pass 240 = .ok (.aload_n 3, 1) ∧ decode cX11_pass 241 = .ok (.getfield 162, 3) := by decide +kernel
theorem dX11_pass_26 : decode cX11_pass 26 = .ok (.putfield 183, 3) := db_X11_pass_26.1
theorem dX11_pass_29 : decode cX11_pass 29 = .ok (.aload_n 0, 1) := db_X11_pass_26.2.1
theorem dX11_pass_30 : decode cX11_pass 30 = .ok (.getfield 18, 3) := db_X11_pass_26.2.2.1
theorem dX11_pass_33 : decode cX11_pass 33 = .ok (.iload_n 2, 1) := db_X11_pass_26.2.2.2.1
theorem dX11_pass_34 : decode cX11_pass 34 = .ok (.aaload, 1) := db_X11_pass_26.2.2.2.2.1
theorem dX11_pass_35 : decode cX11_pass 35 = .ok (.getfield 191, 3) := db_X11_pass_26.2.2.2.2.2.1
theorem dX11_pass_38 : decode cX11_pass 38 = .ok (.ifCond .ne 8, 3) := db_X11_pass_26.2.2.2.2.2.2.1
theorem dX11_pass_46 : decode cX11_pass 46 = .ok (.aload_n 0, 1) := db_X11_pass_26.2.2.2.2.2.2.2.1
theorem dX11_pass_47 : decode cX11_pass 47 = .ok (.aload_n 3, 1) := db_X11_pass_26.2.2.2.2.2.2.2.2.1
theorem dX11_pass_48 : decode cX11_pass 48 = .ok (.iload_n 2, 1) := db_X11_pass_26.2.2.2.2.2.2.2.2.2.1
theorem dX11_pass_49 : decode cX11_pass 49 = .ok (.invokevirtual 412, 3) := db_X11_pass_26.2.2.2.2.2.2.2.2.2.2.1
theorem dX11_pass_52 : decode cX11_pass 52 = .ok (.astore 4, 2) := db_X11_pass_26.2.2.2.2.2.2.2.2.2.2.2.1
theorem dX11_pass_54 : decode cX11_pass 54 = .ok (.aload 4, 2) := db_X11_pass_26.2.2.2.2.2.2.2.2.2.2.2.2.1
theorem dX11_pass_56 : decode cX11_pass 56 = .ok (.ifnull 184, 3) := db_X11_pass_26.2.2.2.2.2.2.2.2.2.2.2.2.2.1
theorem dX11_pass_240 : decode cX11_pass 240 = .ok (.aload_n 3, 1) := db_X11_pass_26.2.2.2.2.2.2.2.2.2.2.2.2.2.2.1
theorem dX11_pass_241 : decode cX11_pass 241 = .ok (.getfield 162, 3) := db_X11_pass_26.2.2.2.2.2.2.2.2.2.2.2.2.2.2.2
theorem db_X11_pass_244 : decode cX11_pass 244 = .ok (.tableswitch 192 1 22 #[104, 180, 192, 180, 180, 192, 192, 192, 192, 192, 116, 128, 192, 192, 140, 140, 192, 192, 152, 180, 166, 180], 104) ∧ decode cX11_pass 384 = .ok (.aload_n 0, 1) ∧ decode cX11_pass 385 = .ok (.getfield 37, 3) ∧ decode cX11_pass 388 = .ok (.iload_n 1, 1) ∧ decode cX11_pass 389 = .ok (.aload_n 3, 1) ∧ decode cX11_pass 390 = .ok (.invokevirtual 457, 3) ∧ decode cX11_pass 393 = .ok (.goto 43, 3) ∧ decode cX11_pass 436 = .ok (.goto 11, 3) ∧ decode cX11_pass 447 = .ok (.aload_n 3, 1) ∧ decode cX11_pass 448 = .ok (.getfield 162, 3) ∧ decode cX11_pass 451 = .ok (.ireturn, 1) := by decide +kernel
theorem dX11_pass_244 : decode cX11_pass 244 = .ok (.tableswitch 192 1 22 #[104, 180, 192, 180, 180, 192, 192, 192, 192, 192, 116, 128, 192, 192, 140, 140, 192, 192, 152, 180, 166, 180], 104) := db_X11_pass_244.1
theorem dX11_pass_384 : decode cX11_pass 384 = .ok (.aload_n 0, 1) := db_X11_pass_244.2.1
theorem dX11_pass_385 : decode cX11_pass 385 = .ok (.getfield 37, 3) := db_X11_pass_244.2.2.1
theorem dX11_pass_388 : decode cX11_pass 388 = .ok (.iload_n 1, 1) := db_X11_pass_244.2.2.2.1
theorem dX11_pass_389 : decode cX11_pass 389 = .ok (.aload_n 3, 1) := db_X11_pass_244.2.2.2.2.1
theorem dX11_pass_390 : decode cX11_pass 390 = .ok (.invokevirtual 457, 3) := db_X11_pass_244.2.2.2.2.2.1
theorem dX11_pass_393 : decode cX11_pass 393 = .ok (.goto 43, 3) := db_X11_pass_244.2.2.2.2.2.2.1
theorem dX11_pass_436 : decode cX11_pass 436 = .ok (.goto 11, 3) := db_X11_pass_244.2.2.2.2.2.2.2.1
theorem dX11_pass_447 : decode cX11_pass 447 = .ok (.aload_n 3, 1) := db_X11_pass_244.2.2.2.2.2.2.2.2.1
theorem dX11_pass_448 : decode cX11_pass 448 = .ok (.getfield 162, 3) := db_X11_pass_244.2.2.2.2.2.2.2.2.2.1
theorem dX11_pass_451 : decode cX11_pass 451 = .ok (.ireturn, 1) := db_X11_pass_244.2.2.2.2.2.2.2.2.2.2
theorem db_X11_replicaFor_0 : decode cX11_replicaFor 0 = .ok (.aload_n 1, 1) ∧ decode cX11_replicaFor 1 = .ok (.getfield 162, 3) ∧ decode cX11_replicaFor 4 = .ok (.tableswitch 136 3 18 #[96, 136, 136, 80, 80, 80, 80, 80, 136, 136, 80, 80, 136, 136, 96, 80], 80) ∧ decode cX11_replicaFor 140 = .ok (.aconst_null, 1) ∧ decode cX11_replicaFor 141 = .ok (.areturn, 1) := by decide +kernel
theorem dX11_replicaFor_0 : decode cX11_replicaFor 0 = .ok (.aload_n 1, 1) := db_X11_replicaFor_0.1
theorem dX11_replicaFor_1 : decode cX11_replicaFor 1 = .ok (.getfield 162, 3) := db_X11_replicaFor_0.2.1
theorem dX11_replicaFor_4 : decode cX11_replicaFor 4 = .ok (.tableswitch 136 3 18 #[96, 136, 136, 80, 80, 80, 80, 80, 136, 136, 80, 80, 136, 136, 96, 80], 80) := db_X11_replicaFor_0.2.2.1
theorem dX11_replicaFor_140 : decode cX11_replicaFor 140 = .ok (.aconst_null, 1) := db_X11_replicaFor_0.2.2.2.1
theorem dX11_replicaFor_141 : decode cX11_replicaFor 141 = .ok (.areturn, 1) := db_X11_replicaFor_0.2.2.2.2
theorem db_X11_countRows_0 : decode cX11_countRows 0 = .ok (.iconst 0, 1) ∧ decode cX11_countRows 1 = .ok (.istore_n 1, 1) ∧ decode cX11_countRows 2 = .ok (.iconst 0, 1) ∧ decode cX11_countRows 3 = .ok (.istore_n 2, 1) ∧ decode cX11_countRows 4 = .ok (.iload_n 2, 1) ∧ decode cX11_countRows 5 = .ok (.aload_n 0, 1) ∧ decode cX11_countRows 6 = .ok (.arraylength, 1) ∧ decode cX11_countRows 7 = .ok (.if_icmp .ge 20, 3) ∧ decode cX11_countRows 27 = .ok (.iload_n 1, 1) ∧ decode cX11_countRows 28 = .ok (.ireturn, 1) := by decide +kernel
theorem dX11_countRows_0 : decode cX11_countRows 0 = .ok (.iconst 0, 1) := db_X11_countRows_0.1
theorem dX11_countRows_1 : decode cX11_countRows 1 = .ok (.istore_n 1, 1) := db_X11_countRows_0.2.1
theorem dX11_countRows_2 : decode cX11_countRows 2 = .ok (.iconst 0, 1) := db_X11_countRows_0.2.2.1
theorem dX11_countRows_3 : decode cX11_countRows 3 = .ok (.istore_n 2, 1) := db_X11_countRows_0.2.2.2.1
theorem dX11_countRows_4 : decode cX11_countRows 4 = .ok (.iload_n 2, 1) := db_X11_countRows_0.2.2.2.2.1
theorem dX11_countRows_5 : decode cX11_countRows 5 = .ok (.aload_n 0, 1) := db_X11_countRows_0.2.2.2.2.2.1
theorem dX11_countRows_6 : decode cX11_countRows 6 = .ok (.arraylength, 1) := db_X11_countRows_0.2.2.2.2.2.2.1
theorem dX11_countRows_7 : decode cX11_countRows 7 = .ok (.if_icmp .ge 20, 3) := db_X11_countRows_0.2.2.2.2.2.2.2.1
theorem dX11_countRows_27 : decode cX11_countRows 27 = .ok (.iload_n 1, 1) := db_X11_countRows_0.2.2.2.2.2.2.2.2.1
theorem dX11_countRows_28 : decode cX11_countRows 28 = .ok (.ireturn, 1) := db_X11_countRows_0.2.2.2.2.2.2.2.2.2
theorem db_X11_rowsOf_0 : decode cX11_rowsOf 0 = .ok (.aload_n 0, 1) ∧ decode cX11_rowsOf 1 = .ok (.invokestatic 480, 3) ∧ decode cX11_rowsOf 4 = .ok (.istore_n 1, 1) ∧ decode cX11_rowsOf 5 = .ok (.iload_n 1, 1) ∧ decode cX11_rowsOf 6 = .ok (.ifCond .ne 7, 3) ∧ decode cX11_rowsOf 9 = .ok (.getstatic 484, 3) ∧ decode cX11_rowsOf 12 = .ok (.areturn, 1) := by decide +kernel
theorem dX11_rowsOf_0 : decode cX11_rowsOf 0 = .ok (.aload_n 0, 1) := db_X11_rowsOf_0.1
theorem dX11_rowsOf_1 : decode cX11_rowsOf 1 = .ok (.invokestatic 480, 3) := db_X11_rowsOf_0.2.1
theorem dX11_rowsOf_4 : decode cX11_rowsOf 4 = .ok (.istore_n 1, 1) := db_X11_rowsOf_0.2.2.1
theorem dX11_rowsOf_5 : decode cX11_rowsOf 5 = .ok (.iload_n 1, 1) := db_X11_rowsOf_0.2.2.2.1
theorem dX11_rowsOf_6 : decode cX11_rowsOf 6 = .ok (.ifCond .ne 7, 3) := db_X11_rowsOf_0.2.2.2.2.1
theorem dX11_rowsOf_9 : decode cX11_rowsOf 9 = .ok (.getstatic 484, 3) := db_X11_rowsOf_0.2.2.2.2.2.1
theorem dX11_rowsOf_12 : decode cX11_rowsOf 12 = .ok (.areturn, 1) := db_X11_rowsOf_0.2.2.2.2.2.2
theorem db_J7_rangeCheck_23922_0 : decode cJ7_rangeCheck_23922 0 = .ok (.iload_n 1, 1) ∧ decode cJ7_rangeCheck_23922 1 = .ok (.iload_n 2, 1) ∧ decode cJ7_rangeCheck_23922 2 = .ok (.if_icmp .le 44, 3) ∧ decode cJ7_rangeCheck_23922 46 = .ok (.iload_n 1, 1) ∧ decode cJ7_rangeCheck_23922 47 = .ok (.ifCond .ge 12, 3) ∧ decode cJ7_rangeCheck_23922 59 = .ok (.iload_n 2, 1) ∧ decode cJ7_rangeCheck_23922 60 = .ok (.iload_n 0, 1) ∧ decode cJ7_rangeCheck_23922 61 = .ok (.if_icmp .le 12, 3) ∧ decode cJ7_rangeCheck_23922 73 = .ok (.return_, 1) := by decide +kernel
theorem dJ7_rangeCheck_23922_0 : decode cJ7_rangeCheck_23922 0 = .ok (.iload_n 1, 1) := db_J7_rangeCheck_23922_0.1
theorem dJ7_rangeCheck_23922_1 : decode cJ7_rangeCheck_23922 1 = .ok (.iload_n 2, 1) := db_J7_rangeCheck_23922_0.2.1
theorem dJ7_rangeCheck_23922_2 : decode cJ7_rangeCheck_23922 2 = .ok (.if_icmp .le 44, 3) := db_J7_rangeCheck_23922_0.2.2.1
theorem dJ7_rangeCheck_23922_46 : decode cJ7_rangeCheck_23922 46 = .ok (.iload_n 1, 1) := db_J7_rangeCheck_23922_0.2.2.2.1
theorem dJ7_rangeCheck_23922_47 : decode cJ7_rangeCheck_23922 47 = .ok (.ifCond .ge 12, 3) := db_J7_rangeCheck_23922_0.2.2.2.2.1
theorem dJ7_rangeCheck_23922_59 : decode cJ7_rangeCheck_23922 59 = .ok (.iload_n 2, 1) := db_J7_rangeCheck_23922_0.2.2.2.2.2.1
theorem dJ7_rangeCheck_23922_60 : decode cJ7_rangeCheck_23922 60 = .ok (.iload_n 0, 1) := db_J7_rangeCheck_23922_0.2.2.2.2.2.2.1
theorem dJ7_rangeCheck_23922_61 : decode cJ7_rangeCheck_23922 61 = .ok (.if_icmp .le 12, 3) := db_J7_rangeCheck_23922_0.2.2.2.2.2.2.2.1
theorem dJ7_rangeCheck_23922_73 : decode cJ7_rangeCheck_23922 73 = .ok (.return_, 1) := db_J7_rangeCheck_23922_0.2.2.2.2.2.2.2.2
theorem db_J7_fill_53178_0 : decode cJ7_fill_53178 0 = .ok (.iconst 0, 1) ∧ decode cJ7_fill_53178 1 = .ok (.istore_n 2, 1) ∧ decode cJ7_fill_53178 2 = .ok (.aload_n 0, 1) ∧ decode cJ7_fill_53178 3 = .ok (.arraylength, 1) ∧ decode cJ7_fill_53178 4 = .ok (.istore_n 3, 1) ∧ decode cJ7_fill_53178 5 = .ok (.iload_n 2, 1) ∧ decode cJ7_fill_53178 6 = .ok (.iload_n 3, 1) ∧ decode cJ7_fill_53178 7 = .ok (.if_icmp .ge 13, 3) ∧ decode cJ7_fill_53178 10 = .ok (.aload_n 0, 1) ∧ decode cJ7_fill_53178 11 = .ok (.iload_n 2, 1) ∧ decode cJ7_fill_53178 12 = .ok (.iload_n 1, 1) ∧ decode cJ7_fill_53178 13 = .ok (.iastore, 1) ∧ decode cJ7_fill_53178 14 = .ok (.iinc 2 1, 3) ∧ decode cJ7_fill_53178 17 = .ok (.goto (-12), 3) ∧ decode cJ7_fill_53178 20 = .ok (.return_, 1) := by decide +kernel
theorem dJ7_fill_53178_0 : decode cJ7_fill_53178 0 = .ok (.iconst 0, 1) := db_J7_fill_53178_0.1
theorem dJ7_fill_53178_1 : decode cJ7_fill_53178 1 = .ok (.istore_n 2, 1) := db_J7_fill_53178_0.2.1
theorem dJ7_fill_53178_2 : decode cJ7_fill_53178 2 = .ok (.aload_n 0, 1) := db_J7_fill_53178_0.2.2.1
theorem dJ7_fill_53178_3 : decode cJ7_fill_53178 3 = .ok (.arraylength, 1) := db_J7_fill_53178_0.2.2.2.1
theorem dJ7_fill_53178_4 : decode cJ7_fill_53178 4 = .ok (.istore_n 3, 1) := db_J7_fill_53178_0.2.2.2.2.1
theorem dJ7_fill_53178_5 : decode cJ7_fill_53178 5 = .ok (.iload_n 2, 1) := db_J7_fill_53178_0.2.2.2.2.2.1
theorem dJ7_fill_53178_6 : decode cJ7_fill_53178 6 = .ok (.iload_n 3, 1) := db_J7_fill_53178_0.2.2.2.2.2.2.1
theorem dJ7_fill_53178_7 : decode cJ7_fill_53178 7 = .ok (.if_icmp .ge 13, 3) := db_J7_fill_53178_0.2.2.2.2.2.2.2.1
theorem dJ7_fill_53178_10 : decode cJ7_fill_53178 10 = .ok (.aload_n 0, 1) := db_J7_fill_53178_0.2.2.2.2.2.2.2.2.1
theorem dJ7_fill_53178_11 : decode cJ7_fill_53178 11 = .ok (.iload_n 2, 1) := db_J7_fill_53178_0.2.2.2.2.2.2.2.2.2.1
theorem dJ7_fill_53178_12 : decode cJ7_fill_53178 12 = .ok (.iload_n 1, 1) := db_J7_fill_53178_0.2.2.2.2.2.2.2.2.2.2.1
theorem dJ7_fill_53178_13 : decode cJ7_fill_53178 13 = .ok (.iastore, 1) := db_J7_fill_53178_0.2.2.2.2.2.2.2.2.2.2.2.1
theorem dJ7_fill_53178_14 : decode cJ7_fill_53178 14 = .ok (.iinc 2 1, 3) := db_J7_fill_53178_0.2.2.2.2.2.2.2.2.2.2.2.2.1
theorem dJ7_fill_53178_17 : decode cJ7_fill_53178 17 = .ok (.goto (-12), 3) := db_J7_fill_53178_0.2.2.2.2.2.2.2.2.2.2.2.2.2.1
theorem dJ7_fill_53178_20 : decode cJ7_fill_53178 20 = .ok (.return_, 1) := db_J7_fill_53178_0.2.2.2.2.2.2.2.2.2.2.2.2.2.2
theorem db_J7_fill_031fb_0 : decode cJ7_fill_031fb 0 = .ok (.iconst 0, 1) ∧ decode cJ7_fill_031fb 1 = .ok (.istore_n 2, 1) ∧ decode cJ7_fill_031fb 2 = .ok (.aload_n 0, 1) ∧ decode cJ7_fill_031fb 3 = .ok (.arraylength, 1) ∧ decode cJ7_fill_031fb 4 = .ok (.istore_n 3, 1) ∧ decode cJ7_fill_031fb 5 = .ok (.iload_n 2, 1) ∧ decode cJ7_fill_031fb 6 = .ok (.iload_n 3, 1) ∧ decode cJ7_fill_031fb 7 = .ok (.if_icmp .ge 13, 3) ∧ decode cJ7_fill_031fb 10 = .ok (.aload_n 0, 1) ∧ decode cJ7_fill_031fb 11 = .ok (.iload_n 2, 1) ∧ decode cJ7_fill_031fb 12 = .ok (.iload_n 1, 1) ∧ decode cJ7_fill_031fb 13 = .ok (.bastore, 1) ∧ decode cJ7_fill_031fb 14 = .ok (.iinc 2 1, 3) ∧ decode cJ7_fill_031fb 17 = .ok (.goto (-12), 3) ∧ decode cJ7_fill_031fb 20 = .ok (.return_, 1) := by decide +kernel
theorem dJ7_fill_031fb_0 : decode cJ7_fill_031fb 0 = .ok (.iconst 0, 1) := db_J7_fill_031fb_0.1
theorem dJ7_fill_031fb_1 : decode cJ7_fill_031fb 1 = .ok (.istore_n 2, 1) := db_J7_fill_031fb_0.2.1
theorem dJ7_fill_031fb_2 : decode cJ7_fill_031fb 2 = .ok (.aload_n 0, 1) := db_J7_fill_031fb_0.2.2.1
theorem dJ7_fill_031fb_3 : decode cJ7_fill_031fb 3 = .ok (.arraylength, 1) := db_J7_fill_031fb_0.2.2.2.1
theorem dJ7_fill_031fb_4 : decode cJ7_fill_031fb 4 = .ok (.istore_n 3, 1) := db_J7_fill_031fb_0.2.2.2.2.1
theorem dJ7_fill_031fb_5 : decode cJ7_fill_031fb 5 = .ok (.iload_n 2, 1) := db_J7_fill_031fb_0.2.2.2.2.2.1
theorem dJ7_fill_031fb_6 : decode cJ7_fill_031fb 6 = .ok (.iload_n 3, 1) := db_J7_fill_031fb_0.2.2.2.2.2.2.1
theorem dJ7_fill_031fb_7 : decode cJ7_fill_031fb 7 = .ok (.if_icmp .ge 13, 3) := db_J7_fill_031fb_0.2.2.2.2.2.2.2.1
theorem dJ7_fill_031fb_10 : decode cJ7_fill_031fb 10 = .ok (.aload_n 0, 1) := db_J7_fill_031fb_0.2.2.2.2.2.2.2.2.1
theorem dJ7_fill_031fb_11 : decode cJ7_fill_031fb 11 = .ok (.iload_n 2, 1) := db_J7_fill_031fb_0.2.2.2.2.2.2.2.2.2.1
theorem dJ7_fill_031fb_12 : decode cJ7_fill_031fb 12 = .ok (.iload_n 1, 1) := db_J7_fill_031fb_0.2.2.2.2.2.2.2.2.2.2.1
theorem dJ7_fill_031fb_13 : decode cJ7_fill_031fb 13 = .ok (.bastore, 1) := db_J7_fill_031fb_0.2.2.2.2.2.2.2.2.2.2.2.1
theorem dJ7_fill_031fb_14 : decode cJ7_fill_031fb 14 = .ok (.iinc 2 1, 3) := db_J7_fill_031fb_0.2.2.2.2.2.2.2.2.2.2.2.2.1
theorem dJ7_fill_031fb_17 : decode cJ7_fill_031fb 17 = .ok (.goto (-12), 3) := db_J7_fill_031fb_0.2.2.2.2.2.2.2.2.2.2.2.2.2.1
theorem dJ7_fill_031fb_20 : decode cJ7_fill_031fb 20 = .ok (.return_, 1) := db_J7_fill_031fb_0.2.2.2.2.2.2.2.2.2.2.2.2.2.2
theorem db_J7_fill_eb02e_0 : decode cJ7_fill_eb02e 0 = .ok (.aload_n 0, 1) ∧ decode cJ7_fill_eb02e 1 = .ok (.arraylength, 1) ∧ decode cJ7_fill_eb02e 2 = .ok (.iload_n 1, 1) ∧ decode cJ7_fill_eb02e 3 = .ok (.iload_n 2, 1) ∧ decode cJ7_fill_eb02e 4 = .ok (.invokestatic 13, 3) ∧ decode cJ7_fill_eb02e 7 = .ok (.iload_n 1, 1) ∧ decode cJ7_fill_eb02e 8 = .ok (.istore 4, 2) ∧ decode cJ7_fill_eb02e 10 = .ok (.iload 4, 2) ∧ decode cJ7_fill_eb02e 12 = .ok (.iload_n 2, 1) ∧ decode cJ7_fill_eb02e 13 = .ok (.if_icmp .ge 14, 3) ∧ decode cJ7_fill_eb02e 16 = .ok (.aload_n 0, 1) ∧ decode cJ7_fill_eb02e 17 = .ok (.iload 4, 2) ∧ decode cJ7_fill_eb02e 19 = .ok (.iload_n 3, 1) ∧ decode cJ7_fill_eb02e 20 = .ok (.bastore, 1) ∧ decode cJ7_fill_eb02e 21 = .ok (.iinc 4 1, 3) ∧ decode cJ7_fill_eb02e 24 = .ok (.goto (-14), 3) := by decide +kernel
theorem dJ7_fill_eb02e_0 : decode cJ7_fill_eb02e 0 = .ok (.aload_n 0, 1) := db_J7_fill_eb02e_0.1
theorem dJ7_fill_eb02e_1 : decode cJ7_fill_eb02e 1 = .ok (.arraylength, 1) := db_J7_fill_eb02e_0.2.1
theorem dJ7_fill_eb02e_2 : decode cJ7_fill_eb02e 2 = .ok (.iload_n 1, 1) := db_J7_fill_eb02e_0.2.2.1
theorem dJ7_fill_eb02e_3 : decode cJ7_fill_eb02e 3 = .ok (.iload_n 2, 1) := db_J7_fill_eb02e_0.2.2.2.1
theorem dJ7_fill_eb02e_4 : decode cJ7_fill_eb02e 4 = .ok (.invokestatic 13, 3) := db_J7_fill_eb02e_0.2.2.2.2.1
theorem dJ7_fill_eb02e_7 : decode cJ7_fill_eb02e 7 = .ok (.iload_n 1, 1) := db_J7_fill_eb02e_0.2.2.2.2.2.1
theorem dJ7_fill_eb02e_8 : decode cJ7_fill_eb02e 8 = .ok (.istore 4, 2) := db_J7_fill_eb02e_0.2.2.2.2.2.2.1
theorem dJ7_fill_eb02e_10 : decode cJ7_fill_eb02e 10 = .ok (.iload 4, 2) := db_J7_fill_eb02e_0.2.2.2.2.2.2.2.1
theorem dJ7_fill_eb02e_12 : decode cJ7_fill_eb02e 12 = .ok (.iload_n 2, 1) := db_J7_fill_eb02e_0.2.2.2.2.2.2.2.2.1
theorem dJ7_fill_eb02e_13 : decode cJ7_fill_eb02e 13 = .ok (.if_icmp .ge 14, 3) := db_J7_fill_eb02e_0.2.2.2.2.2.2.2.2.2.1
theorem dJ7_fill_eb02e_16 : decode cJ7_fill_eb02e 16 = .ok (.aload_n 0, 1) := db_J7_fill_eb02e_0.2.2.2.2.2.2.2.2.2.2.1
theorem dJ7_fill_eb02e_17 : decode cJ7_fill_eb02e 17 = .ok (.iload 4, 2) := db_J7_fill_eb02e_0.2.2.2.2.2.2.2.2.2.2.2.1
theorem dJ7_fill_eb02e_19 : decode cJ7_fill_eb02e 19 = .ok (.iload_n 3, 1) := db_J7_fill_eb02e_0.2.2.2.2.2.2.2.2.2.2.2.2.1
theorem dJ7_fill_eb02e_20 : decode cJ7_fill_eb02e 20 = .ok (.bastore, 1) := db_J7_fill_eb02e_0.2.2.2.2.2.2.2.2.2.2.2.2.2.1
theorem dJ7_fill_eb02e_21 : decode cJ7_fill_eb02e 21 = .ok (.iinc 4 1, 3) := db_J7_fill_eb02e_0.2.2.2.2.2.2.2.2.2.2.2.2.2.2.1
theorem dJ7_fill_eb02e_24 : decode cJ7_fill_eb02e 24 = .ok (.goto (-14), 3) := db_J7_fill_eb02e_0.2.2.2.2.2.2.2.2.2.2.2.2.2.2.2
theorem dJ7_fill_eb02e_27 : decode cJ7_fill_eb02e 27 = .ok (.return_, 1) := by decide +kernel
theorem db_J7_copyOf_59c91_0 : decode cJ7_copyOf_59c91 0 = .ok (.iload_n 1, 1) ∧ decode cJ7_copyOf_59c91 1 = .ok (.aload_n 0, 1) ∧ decode cJ7_copyOf_59c91 2 = .ok (.arraylength, 1) ∧ decode cJ7_copyOf_59c91 3 = .ok (.if_icmp .ne 11, 3) ∧ decode cJ7_copyOf_59c91 14 = .ok (.iload_n 1, 1) ∧ decode cJ7_copyOf_59c91 15 = .ok (.newarray .int, 2) ∧ decode cJ7_copyOf_59c91 17 = .ok (.astore_n 2, 1) ∧ decode cJ7_copyOf_59c91 18 = .ok (.aload_n 0, 1) ∧ decode cJ7_copyOf_59c91 19 = .ok (.iconst 0, 1) ∧ decode cJ7_copyOf_59c91 20 = .ok (.aload_n 2, 1) ∧ decode cJ7_copyOf_59c91 21 = .ok (.iconst 0, 1) ∧ decode cJ7_copyOf_59c91 22 = .ok (.aload_n 0, 1) ∧ decode cJ7_copyOf_59c91 23 = .ok (.arraylength, 1) ∧ decode cJ7_copyOf_59c91 24 = .ok (.iload_n 1, 1) ∧ decode cJ7_copyOf_59c91 25 = .ok (.invokestatic 304, 3) ∧ decode cJ7_copyOf_59c91 28 = .ok (.invokestatic 150, 3) := by decide +kernel
theorem dJ7_copyOf_59c91_0 : decode cJ7_copyOf_59c91 0 = .ok (.iload_n 1, 1) := db_J7_copyOf_59c91_0.1
theorem dJ7_copyOf_59c91_1 : decode cJ7_copyOf_59c91 1 = .ok (.aload_n 0, 1) := db_J7_copyOf_59c91_0.2.1
theorem dJ7_copyOf_59c91_2 : decode cJ7_copyOf_59c91 2 = .ok (.arraylength, 1) := db_J7_copyOf_59c91_0.2.2.1
theorem dJ7_copyOf_59c91_3 : decode cJ7_copyOf_59c91 3 = .ok (.if_icmp .ne 11, 3) := db_J7_copyOf_59c91_0.2.2.2.1
theorem dJ7_copyOf_59c91_14 : decode cJ7_copyOf_59c91 14 = .ok (.iload_n 1, 1) := db_J7_copyOf_59c91_0.2.2.2.2.1
theorem dJ7_copyOf_59c91_15 : decode cJ7_copyOf_59c91 15 = .ok (.newarray .int, 2) := db_J7_copyOf_59c91_0.2.2.2.2.2.1
theorem dJ7_copyOf_59c91_17 : decode cJ7_copyOf_59c91 17 = .ok (.astore_n 2, 1) := db_J7_copyOf_59c91_0.2.2.2.2.2.2.1
theorem dJ7_copyOf_59c91_18 : decode cJ7_copyOf_59c91 18 = .ok (.aload_n 0, 1) := db_J7_copyOf_59c91_0.2.2.2.2.2.2.2.1
theorem dJ7_copyOf_59c91_19 : decode cJ7_copyOf_59c91 19 = .ok (.iconst 0, 1) := db_J7_copyOf_59c91_0.2.2.2.2.2.2.2.2.1
theorem dJ7_copyOf_59c91_20 : decode cJ7_copyOf_59c91 20 = .ok (.aload_n 2, 1) := db_J7_copyOf_59c91_0.2.2.2.2.2.2.2.2.2.1
theorem dJ7_copyOf_59c91_21 : decode cJ7_copyOf_59c91 21 = .ok (.iconst 0, 1) := db_J7_copyOf_59c91_0.2.2.2.2.2.2.2.2.2.2.1
theorem dJ7_copyOf_59c91_22 : decode cJ7_copyOf_59c91 22 = .ok (.aload_n 0, 1) := db_J7_copyOf_59c91_0.2.2.2.2.2.2.2.2.2.2.2.1
theorem dJ7_copyOf_59c91_23 : decode cJ7_copyOf_59c91 23 = .ok (.arraylength, 1) := db_J7_copyOf_59c91_0.2.2.2.2.2.2.2.2.2.2.2.2.1
theorem dJ7_copyOf_59c91_24 : decode cJ7_copyOf_59c91 24 = .ok (.iload_n 1, 1) := db_J7_copyOf_59c91_0.2.2.2.2.2.2.2.2.2.2.2.2.2.1
theorem dJ7_copyOf_59c91_25 : decode cJ7_copyOf_59c91 25 = .ok (.invokestatic 304, 3) := db_J7_copyOf_59c91_0.2.2.2.2.2.2.2.2.2.2.2.2.2.2.1
theorem dJ7_copyOf_59c91_28 : decode cJ7_copyOf_59c91 28 = .ok (.invokestatic 150, 3) := db_J7_copyOf_59c91_0.2.2.2.2.2.2.2.2.2.2.2.2.2.2.2
theorem dJ7_copyOf_59c91_31 : decode cJ7_copyOf_59c91 31 = .ok (.aload_n 2, 1) := by decide +kernel
theorem dJ7_copyOf_59c91_32 : decode cJ7_copyOf_59c91 32 = .ok (.areturn, 1) := by decide +kernel
theorem db_J9_floorMod_7cf53_0 : decode cJ9_floorMod_7cf53 0 = .ok (.iload_n 0, 1) ∧ decode cJ9_floorMod_7cf53 1 = .ok (.iload_n 1, 1) ∧ decode cJ9_floorMod_7cf53 2 = .ok (.irem, 1) ∧ decode cJ9_floorMod_7cf53 3 = .ok (.istore_n 2, 1) ∧ decode cJ9_floorMod_7cf53 4 = .ok (.iload_n 0, 1) ∧ decode cJ9_floorMod_7cf53 5 = .ok (.iload_n 1, 1) ∧ decode cJ9_floorMod_7cf53 6 = .ok (.ixor, 1) ∧ decode cJ9_floorMod_7cf53 7 = .ok (.ifCond .ge 11, 3) ∧ decode cJ9_floorMod_7cf53 10 = .ok (.iload_n 2, 1) ∧ decode cJ9_floorMod_7cf53 11 = .ok (.ifCond .eq 7, 3) ∧ decode cJ9_floorMod_7cf53 14 = .ok (.iload_n 2, 1) ∧ decode cJ9_floorMod_7cf53 15 = .ok (.iload_n 1, 1) ∧ decode cJ9_floorMod_7cf53 16 = .ok (.iadd, 1) ∧ decode cJ9_floorMod_7cf53 17 = .ok (.ireturn, 1) ∧ decode cJ9_floorMod_7cf53 18 = .ok (.iload_n 2, 1) ∧ decode cJ9_floorMod_7cf53 19 = .ok (.ireturn, 1) := by decide +kernel
theorem dJ9_floorMod_7cf53_0 : decode cJ9_floorMod_7cf53 0 = .ok (.iload_n 0, 1) := db_J9_floorMod_7cf53_0.1
theorem dJ9_floorMod_7cf53_1 : decode cJ9_floorMod_7cf53 1 = .ok (.iload_n 1, 1) := db_J9_floorMod_7cf53_0.2.1
theorem dJ9_floorMod_7cf53_2 : decode cJ9_floorMod_7cf53 2 = .ok (.irem, 1) := db_J9_floorMod_7cf53_0.2.2.1
theorem dJ9_floorMod_7cf53_3 : decode cJ9_floorMod_7cf53 3 = .ok (.istore_n 2, 1) := db_J9_floorMod_7cf53_0.2.2.2.1
theorem dJ9_floorMod_7cf53_4 : decode cJ9_floorMod_7cf53 4 = .ok (.iload_n 0, 1) := db_J9_floorMod_7cf53_0.2.2.2.2.1
theorem dJ9_floorMod_7cf53_5 : decode cJ9_floorMod_7cf53 5 = .ok (.iload_n 1, 1) := db_J9_floorMod_7cf53_0.2.2.2.2.2.1
theorem dJ9_floorMod_7cf53_6 : decode cJ9_floorMod_7cf53 6 = .ok (.ixor, 1) := db_J9_floorMod_7cf53_0.2.2.2.2.2.2.1
theorem dJ9_floorMod_7cf53_7 : decode cJ9_floorMod_7cf53 7 = .ok (.ifCond .ge 11, 3) := db_J9_floorMod_7cf53_0.2.2.2.2.2.2.2.1
theorem dJ9_floorMod_7cf53_10 : decode cJ9_floorMod_7cf53 10 = .ok (.iload_n 2, 1) := db_J9_floorMod_7cf53_0.2.2.2.2.2.2.2.2.1
theorem dJ9_floorMod_7cf53_11 : decode cJ9_floorMod_7cf53 11 = .ok (.ifCond .eq 7, 3) := db_J9_floorMod_7cf53_0.2.2.2.2.2.2.2.2.2.1
theorem dJ9_floorMod_7cf53_14 : decode cJ9_floorMod_7cf53 14 = .ok (.iload_n 2, 1) := db_J9_floorMod_7cf53_0.2.2.2.2.2.2.2.2.2.2.1
theorem dJ9_floorMod_7cf53_15 : decode cJ9_floorMod_7cf53 15 = .ok (.iload_n 1, 1) := db_J9_floorMod_7cf53_0.2.2.2.2.2.2.2.2.2.2.2.1
theorem dJ9_floorMod_7cf53_16 : decode cJ9_floorMod_7cf53 16 = .ok (.iadd, 1) := db_J9_floorMod_7cf53_0.2.2.2.2.2.2.2.2.2.2.2.2.1
theorem dJ9_floorMod_7cf53_17 : decode cJ9_floorMod_7cf53 17 = .ok (.ireturn, 1) := db_J9_floorMod_7cf53_0.2.2.2.2.2.2.2.2.2.2.2.2.2.1
theorem dJ9_floorMod_7cf53_18 : decode cJ9_floorMod_7cf53 18 = .ok (.iload_n 2, 1) := db_J9_floorMod_7cf53_0.2.2.2.2.2.2.2.2.2.2.2.2.2.2.1
theorem dJ9_floorMod_7cf53_19 : decode cJ9_floorMod_7cf53 19 = .ok (.ireturn, 1) := db_J9_floorMod_7cf53_0.2.2.2.2.2.2.2.2.2.2.2.2.2.2.2
theorem dJ9_min_7cf53_0 : decode cJ9_min_7cf53 0 = .ok (.iload_n 0, 1) := by decide +kernel
