theorem dX11_init_0 : decode cX11_init 0 = .ok (.aload_n 0, 1) := by decide +kernel
theorem dX11_init_1 : decode cX11_init 1 = .ok (.invokespecial 3, 3) := by decide +kernel
theorem dX11_init_4 : decode cX11_init 4 = .ok (.aload_n 0, 1) := by decide +kernel
theorem dX11_init_5 : decode cX11_init 5 = .ok (.new 9, 3) := by decide +kernel
theorem dX11_init_8 : decode cX11_init 8 = .ok (.dup, 1) := by decide +kernel
theorem dX11_init_9 : decode cX11_init 9 = .ok (.invokespecial 11, 3) := by decide +kernel
theorem dX11_init_12 : decode cX11_init 12 = .ok (.putfield 12, 3) := by decide +kernel
theorem dX11_init_15 : decode cX11_init 15 = .ok (.aload_n 0, 1) := by decide +kernel
theorem dX11_init_16 : decode cX11_init 16 = .ok (.bipush 6, 2) := by decide +kernel
theorem dX11_init_18 : decode cX11_init 18 = .ok (.anewarray 16, 3) := by decide +kernel
theorem dX11_init_21 : decode cX11_init 21 = .ok (.putfield 18, 3) := by decide +kernel
theorem dX11_init_24 : decode cX11_init 24 = .ok (.iconst 0, 1) := by decide +kernel
theorem dX11_init_25 : decode cX11_init 25 = .ok (.istore_n 1, 1) := by decide +kernel
theorem dX11_init_26 : decode cX11_init 26 = .ok (.iload_n 1, 1) := by decide +kernel
theorem dX11_init_27 : decode cX11_init 27 = .ok (.bipush 6, 2) := by decide +kernel
theorem dX11_init_29 : decode cX11_init 29 = .ok (.if_icmp .ge 27, 3) := by decide +kernel
theorem dX11_init_32 : decode cX11_init 32 = .ok (.aload_n 0, 1) := by decide +kernel
theorem dX11_init_33 : decode cX11_init 33 = .ok (.getfield 18, 3) := by decide +kernel
theorem dX11_init_36 : decode cX11_init 36 = .ok (.iload_n 1, 1) := by decide +kernel
theorem dX11_init_37 : decode cX11_init 37 = .ok (.new 16, 3) := by decide +kernel
theorem dX11_init_40 : decode cX11_init 40 = .ok (.dup, 1) := by decide +kernel
theorem dX11_init_41 : decode cX11_init 41 = .ok (.aload_n 0, 1) := by decide +kernel
theorem dX11_init_42 : decode cX11_init 42 = .ok (.getfield 12, 3) := by decide +kernel
theorem dX11_init_45 : decode cX11_init 45 = .ok (.iload_n 1, 1) := by decide +kernel
theorem dX11_init_46 : decode cX11_init 46 = .ok (.invokespecial 22, 3) := by decide +kernel
theorem dX11_init_49 : decode cX11_init 49 = .ok (.aastore, 1) := by decide +kernel
theorem dX11_init_50 : decode cX11_init 50 = .ok (.iinc 1 1, 3) := by decide +kernel
theorem dX11_init_53 : decode cX11_init 53 = .ok (.goto (-27), 3) := by decide +kernel
theorem dX11_init_56 : decode cX11_init 56 = .ok (.aload_n 0, 1) := by decide +kernel
theorem dX11_init_57 : decode cX11_init 57 = .ok (.bipush 12, 2) := by decide +kernel
theorem dX11_init_59 : decode cX11_init 59 = .ok (.anewarray 25, 3) := by decide +kernel
theorem dX11_init_62 : decode cX11_init 62 = .ok (.putfield 27, 3) := by decide +kernel
theorem dX11_init_65 : decode cX11_init 65 = .ok (.iconst 0, 1) := by decide +kernel
theorem dX11_init_66 : decode cX11_init 66 = .ok (.istore_n 1, 1) := by decide +kernel
theorem dX11_init_67 : decode cX11_init 67 = .ok (.iload_n 1, 1) := by decide +kernel
theorem dX11_init_68 : decode cX11_init 68 = .ok (.bipush 12, 2) := by decide +kernel
theorem dX11_init_70 : decode cX11_init 70 = .ok (.if_icmp .ge 26, 3) := by decide +kernel
theorem dX11_init_73 : decode cX11_init 73 = .ok (.aload_n 0, 1) := by decide +kernel
theorem dX11_init_74 : decode cX11_init 74 = .ok (.getfield 27, 3) := by decide +kernel
theorem dX11_init_77 : decode cX11_init 77 = .ok (.iload_n 1, 1) := by decide +kernel
theorem dX11_init_78 : decode cX11_init 78 = .ok (.new 25, 3) := by decide +kernel
theorem dX11_init_81 : decode cX11_init 81 = .ok (.dup, 1) := by decide +kernel
theorem dX11_init_82 : decode cX11_init 82 = .ok (.aload_n 0, 1) := by decide +kernel
theorem dX11_init_83 : decode cX11_init 83 = .ok (.getfield 12, 3) := by decide +kernel
theorem dX11_init_86 : decode cX11_init 86 = .ok (.invokespecial 31, 3) := by decide +kernel
theorem dX11_init_89 : decode cX11_init 89 = .ok (.aastore, 1) := by decide +kernel
theorem dX11_init_90 : decode cX11_init 90 = .ok (.iinc 1 1, 3) := by decide +kernel
theorem dX11_init_93 : decode cX11_init 93 = .ok (.goto (-26), 3) := by decide +kernel
theorem dX11_init_96 : decode cX11_init 96 = .ok (.aload_n 0, 1) := by decide +kernel
theorem dX11_init_97 : decode cX11_init 97 = .ok (.new 34, 3) := by decide +kernel
theorem dX11_init_100 : decode cX11_init 100 = .ok (.dup, 1) := by decide +kernel
theorem dX11_init_101 : decode cX11_init 101 = .ok (.aload_n 0, 1) := by decide +kernel
theorem dX11_init_102 : decode cX11_init 102 = .ok (.getfield 12, 3) := by decide +kernel
theorem dX11_init_105 : decode cX11_init 105 = .ok (.invokespecial 36, 3) := by decide +kernel
theorem dX11_init_108 : decode cX11_init 108 = .ok (.putfield 37, 3) := by decide +kernel
theorem dX11_init_111 : decode cX11_init 111 = .ok (.aload_n 0, 1) := by decide +kernel
theorem dX11_init_112 : decode cX11_init 112 = .ok (.new 41, 3) := by decide +kernel
theorem dX11_init_115 : decode cX11_init 115 = .ok (.dup, 1) := by decide +kernel
theorem dX11_init_116 : decode cX11_init 116 = .ok (.invokespecial 43, 3) := by decide +kernel
theorem dX11_init_119 : decode cX11_init 119 = .ok (.putfield 44, 3) := by decide +kernel
theorem dX11_init_122 : decode cX11_init 122 = .ok (.aload_n 0, 1) := by decide +kernel
theorem dX11_init_123 : decode cX11_init 123 = .ok (.bipush 60, 2) := by decide +kernel
theorem dX11_init_125 : decode cX11_init 125 = .ok (.newarray .int, 2) := by decide +kernel
theorem dX11_init_127 : decode cX11_init 127 = .ok (.putfield 48, 3) := by decide +kernel
theorem dX11_init_130 : decode cX11_init 130 = .ok (.aload_n 0, 1) := by decide +kernel
theorem dX11_init_131 : decode cX11_init 131 = .ok (.iconst 0, 1) := by decide +kernel
theorem dX11_init_132 : decode cX11_init 132 = .ok (.putfield 52, 3) := by decide +kernel
theorem dX11_init_135 : decode cX11_init 135 = .ok (.aload_n 0, 1) := by decide +kernel
theorem dX11_init_136 : decode cX11_init 136 = .ok (.iconst 3, 1) := by decide +kernel
theorem dX11_init_137 : decode cX11_init 137 = .ok (.iconst 2, 1) := by decide +kernel
theorem dX11_init_138 : decode cX11_init 138 = .ok (.iconst 2, 1) := by decide +kernel
theorem dX11_init_139 : decode cX11_init 139 = .ok (.invokevirtual 56, 3) := by decide +kernel
theorem dX11_init_142 : decode cX11_init 142 = .ok (.return_, 1) := by decide +kernel
theorem dX11_make_0 : decode cX11_make 0 = .ok (.iload_n 1, 1) := by decide +kernel
theorem dX11_make_1 : decode cX11_make 1 = .ok (.iconst 1, 1) := by decide +kernel
theorem dX11_make_2 : decode cX11_make 2 = .ok (.if_icmp .lt 33, 3) := by decide +kernel
theorem dX11_make_5 : decode cX11_make 5 = .ok (.iload_n 1, 1) := by decide +kernel
theorem dX11_make_6 : decode cX11_make 6 = .ok (.iconst 5, 1) := by decide +kernel
theorem dX11_make_7 : decode cX11_make 7 = .ok (.if_icmp .gt 28, 3) := by decide +kernel
theorem dX11_make_10 : decode cX11_make 10 = .ok (.iload_n 2, 1) := by decide +kernel
theorem dX11_make_11 : decode cX11_make 11 = .ok (.iconst 1, 1) := by decide +kernel
theorem dX11_make_12 : decode cX11_make 12 = .ok (.if_icmp .lt 23, 3) := by decide +kernel
theorem dX11_make_15 : decode cX11_make 15 = .ok (.iload_n 2, 1) := by decide +kernel
theorem dX11_make_16 : decode cX11_make 16 = .ok (.iconst 4, 1) := by decide +kernel
theorem dX11_make_17 : decode cX11_make 17 = .ok (.if_icmp .gt 18, 3) := by decide +kernel
theorem dX11_make_20 : decode cX11_make 20 = .ok (.iload_n 3, 1) := by decide +kernel
theorem dX11_make_21 : decode cX11_make 21 = .ok (.iconst 1, 1) := by decide +kernel
theorem dX11_make_22 : decode cX11_make 22 = .ok (.if_icmp .lt 13, 3) := by decide +kernel
theorem dX11_make_25 : decode cX11_make 25 = .ok (.iload_n 3, 1) := by decide +kernel
theorem dX11_make_26 : decode cX11_make 26 = .ok (.iconst 3, 1) := by decide +kernel
theorem dX11_make_27 : decode cX11_make 27 = .ok (.if_icmp .gt 8, 3) := by decide +kernel
theorem dX11_make_30 : decode cX11_make 30 = .ok (.iload_n 3, 1) := by decide +kernel
theorem dX11_make_31 : decode cX11_make 31 = .ok (.iload_n 1, 1) := by decide +kernel
theorem dX11_make_32 : decode cX11_make 32 = .ok (.if_icmp .le 13, 3) := by decide +kernel
theorem dX11_make_35 : decode cX11_make 35 = .ok (.new 60, 3) := by decide +kernel
theorem dX11_make_38 : decode cX11_make 38 = .ok (.dup, 1) := by decide +kernel
theorem dX11_make_39 : decode cX11_make 39 = .ok (.ldc 62, 2) := by decide +kernel
theorem dX11_make_41 : decode cX11_make 41 = .ok (.invokespecial 64, 3) := by decide +kernel
theorem dX11_make_44 : decode cX11_make 44 = .ok (.athrow, 1) := by decide +kernel
theorem dX11_make_45 : decode cX11_make 45 = .ok (.aload_n 0, 1) := by decide +kernel
theorem dX11_make_46 : decode cX11_make 46 = .ok (.iload_n 1, 1) := by decide +kernel
theorem dX11_make_47 : decode cX11_make 47 = .ok (.iload_n 2, 1) := by decide +kernel
theorem dX11_make_48 : decode cX11_make 48 = .ok (.iload_n 3, 1) := by decide +kernel
theorem dX11_make_49 : decode cX11_make 49 = .ok (.invokevirtual 56, 3) := by decide +kernel
theorem dX11_make_52 : decode cX11_make 52 = .ok (.iload_n 2, 1) := by decide +kernel
theorem dX11_make_53 : decode cX11_make 53 = .ok (.iload_n 3, 1) := by decide +kernel
theorem dX11_make_54 : decode cX11_make 54 = .ok (.imul, 1) := by decide +kernel
theorem dX11_make_55 : decode cX11_make 55 = .ok (.ireturn, 1) := by decide +kernel
theorem dX11_draft_0 : decode cX11_draft 0 = .ok (.iload_n 1, 1) := by decide +kernel
theorem dX11_draft_1 : decode cX11_draft 1 = .ok (.iconst 1, 1) := by decide +kernel
theorem dX11_draft_2 : decode cX11_draft 2 = .ok (.if_icmp .lt 20, 3) := by decide +kernel
theorem dX11_draft_5 : decode cX11_draft 5 = .ok (.iload_n 1, 1) := by decide +kernel
theorem dX11_draft_6 : decode cX11_draft 6 = .ok (.bipush 8, 2) := by decide +kernel
theorem dX11_draft_8 : decode cX11_draft 8 = .ok (.if_icmp .gt 14, 3) := by decide +kernel
theorem dX11_draft_11 : decode cX11_draft 11 = .ok (.aload_n 0, 1) := by decide +kernel
theorem dX11_draft_12 : decode cX11_draft 12 = .ok (.getfield 52, 3) := by decide +kernel
theorem dX11_draft_15 : decode cX11_draft 15 = .ok (.iload_n 1, 1) := by decide +kernel
theorem dX11_draft_16 : decode cX11_draft 16 = .ok (.iadd, 1) := by decide +kernel
theorem dX11_draft_17 : decode cX11_draft 17 = .ok (.bipush 60, 2) := by decide +kernel
theorem dX11_draft_19 : decode cX11_draft 19 = .ok (.if_icmp .le 13, 3) := by decide +kernel
theorem dX11_draft_22 : decode cX11_draft 22 = .ok (.new 60, 3) := by decide +kernel
theorem dX11_draft_25 : decode cX11_draft 25 = .ok (.dup, 1) := by decide +kernel
theorem dX11_draft_26 : decode cX11_draft 26 = .ok (.ldc 67, 2) := by decide +kernel
theorem dX11_draft_28 : decode cX11_draft 28 = .ok (.invokespecial 64, 3) := by decide +kernel
theorem dX11_draft_31 : decode cX11_draft 31 = .ok (.athrow, 1) := by decide +kernel
theorem dX11_draft_32 : decode cX11_draft 32 = .ok (.iconst 0, 1) := by decide +kernel
theorem dX11_draft_33 : decode cX11_draft 33 = .ok (.istore 4, 2) := by decide +kernel
theorem dX11_draft_35 : decode cX11_draft 35 = .ok (.iload 4, 2) := by decide +kernel
theorem dX11_draft_37 : decode cX11_draft 37 = .ok (.iload_n 1, 1) := by decide +kernel
theorem dX11_draft_38 : decode cX11_draft 38 = .ok (.if_icmp .ge 40, 3) := by decide +kernel
theorem dX11_draft_41 : decode cX11_draft 41 = .ok (.aload_n 0, 1) := by decide +kernel
theorem dX11_draft_42 : decode cX11_draft 42 = .ok (.getfield 48, 3) := by decide +kernel
theorem dX11_draft_45 : decode cX11_draft 45 = .ok (.aload_n 0, 1) := by decide +kernel
theorem dX11_draft_46 : decode cX11_draft 46 = .ok (.getfield 52, 3) := by decide +kernel
theorem dX11_draft_49 : decode cX11_draft 49 = .ok (.lload_n 2, 1) := by decide +kernel
theorem dX11_draft_50 : decode cX11_draft 50 = .ok (.bipush 8, 2) := by decide +kernel
theorem dX11_draft_52 : decode cX11_draft 52 = .ok (.iload 4, 2) := by decide +kernel
theorem dX11_draft_54 : decode cX11_draft 54 = .ok (.imul, 1) := by decide +kernel
theorem dX11_draft_55 : decode cX11_draft 55 = .ok (.lushr, 1) := by decide +kernel
theorem dX11_draft_56 : decode cX11_draft 56 = .ok (.l2i, 1) := by decide +kernel
theorem dX11_draft_57 : decode cX11_draft 57 = .ok (.sipush 255, 3) := by decide +kernel
theorem dX11_draft_60 : decode cX11_draft 60 = .ok (.iand, 1) := by decide +kernel
theorem dX11_draft_61 : decode cX11_draft 61 = .ok (.iastore, 1) := by decide +kernel
theorem dX11_draft_62 : decode cX11_draft 62 = .ok (.aload_n 0, 1) := by decide +kernel
theorem dX11_draft_63 : decode cX11_draft 63 = .ok (.dup, 1) := by decide +kernel
theorem dX11_draft_64 : decode cX11_draft 64 = .ok (.getfield 52, 3) := by decide +kernel
theorem dX11_draft_67 : decode cX11_draft 67 = .ok (.iconst 1, 1) := by decide +kernel
theorem dX11_draft_68 : decode cX11_draft 68 = .ok (.iadd, 1) := by decide +kernel
theorem dX11_draft_69 : decode cX11_draft 69 = .ok (.putfield 52, 3) := by decide +kernel
theorem dX11_draft_72 : decode cX11_draft 72 = .ok (.iinc 4 1, 3) := by decide +kernel
theorem dX11_draft_75 : decode cX11_draft 75 = .ok (.goto (-40), 3) := by decide +kernel
theorem dX11_draft_78 : decode cX11_draft 78 = .ok (.aload_n 0, 1) := by decide +kernel
theorem dX11_draft_79 : decode cX11_draft 79 = .ok (.getfield 52, 3) := by decide +kernel
theorem dX11_draft_82 : decode cX11_draft 82 = .ok (.ireturn, 1) := by decide +kernel
theorem dX11_put_0 : decode cX11_put 0 = .ok (.aload_n 0, 1) := by decide +kernel
theorem dX11_put_1 : decode cX11_put 1 = .ok (.iload_n 1, 1) := by decide +kernel
theorem dX11_put_2 : decode cX11_put 2 = .ok (.invokevirtual 69, 3) := by decide +kernel
theorem dX11_put_5 : decode cX11_put 5 = .ok (.aload_n 0, 1) := by decide +kernel
theorem dX11_put_6 : decode cX11_put 6 = .ok (.iload_n 2, 1) := by decide +kernel
theorem dX11_put_7 : decode cX11_put 7 = .ok (.invokevirtual 73, 3) := by decide +kernel
theorem dX11_put_10 : decode cX11_put 10 = .ok (.aload_n 0, 1) := by decide +kernel
theorem dX11_put_11 : decode cX11_put 11 = .ok (.invokevirtual 76, 3) := by decide +kernel
theorem dX11_put_14 : decode cX11_put 14 = .ok (.ifCond .ne 13, 3) := by decide +kernel
theorem dX11_put_17 : decode cX11_put 17 = .ok (.new 60, 3) := by decide +kernel
theorem dX11_put_20 : decode cX11_put 20 = .ok (.dup, 1) := by decide +kernel
theorem dX11_put_21 : decode cX11_put 21 = .ok (.ldc 80, 2) := by decide +kernel
theorem dX11_put_23 : decode cX11_put 23 = .ok (.invokespecial 64, 3) := by decide +kernel
theorem dX11_put_26 : decode cX11_put 26 = .ok (.athrow, 1) := by decide +kernel
theorem dX11_put_27 : decode cX11_put 27 = .ok (.aload_n 0, 1) := by decide +kernel
theorem dX11_put_28 : decode cX11_put 28 = .ok (.iload_n 1, 1) := by decide +kernel
theorem dX11_put_29 : decode cX11_put 29 = .ok (.invokevirtual 82, 3) := by decide +kernel
theorem dX11_put_32 : decode cX11_put 32 = .ok (.aload_n 0, 1) := by decide +kernel
theorem dX11_put_33 : decode cX11_put 33 = .ok (.getfield 48, 3) := by decide +kernel
theorem dX11_put_36 : decode cX11_put 36 = .ok (.aload_n 0, 1) := by decide +kernel
theorem dX11_put_37 : decode cX11_put 37 = .ok (.getfield 52, 3) := by decide +kernel
theorem dX11_put_40 : decode cX11_put 40 = .ok (.invokestatic 85, 3) := by decide +kernel
theorem dX11_put_43 : decode cX11_put 43 = .ok (.astore_n 3, 1) := by decide +kernel
theorem dX11_put_44 : decode cX11_put 44 = .ok (.aload_n 0, 1) := by decide +kernel
theorem dX11_put_45 : decode cX11_put 45 = .ok (.iconst 0, 1) := by decide +kernel
theorem dX11_put_46 : decode cX11_put 46 = .ok (.putfield 52, 3) := by decide +kernel
theorem dX11_put_49 : decode cX11_put 49 = .ok (.aload_n 0, 1) := by decide +kernel
theorem dX11_put_50 : decode cX11_put 50 = .ok (.iconst 0, 1) := by decide +kernel
theorem dX11_put_51 : decode cX11_put 51 = .ok (.iload_n 1, 1) := by decide +kernel
theorem dX11_put_52 : decode cX11_put 52 = .ok (.iload_n 2, 1) := by decide +kernel
theorem dX11_put_53 : decode cX11_put 53 = .ok (.aload_n 3, 1) := by decide +kernel
theorem dX11_put_54 : decode cX11_put 54 = .ok (.aconst_null, 1) := by decide +kernel
theorem dX11_put_55 : decode cX11_put 55 = .ok (.invokevirtual 91, 3) := by decide +kernel
theorem dX11_put_58 : decode cX11_put 58 = .ok (.ireturn, 1) := by decide +kernel
theorem dX11_drop_0 : decode cX11_drop 0 = .ok (.aload_n 0, 1) := by decide +kernel
theorem dX11_drop_1 : decode cX11_drop 1 = .ok (.iload_n 1, 1) := by decide +kernel
theorem dX11_drop_2 : decode cX11_drop 2 = .ok (.invokevirtual 69, 3) := by decide +kernel
theorem dX11_drop_5 : decode cX11_drop 5 = .ok (.aload_n 0, 1) := by decide +kernel
theorem dX11_drop_6 : decode cX11_drop 6 = .ok (.iload_n 2, 1) := by decide +kernel
theorem dX11_drop_7 : decode cX11_drop 7 = .ok (.invokevirtual 73, 3) := by decide +kernel
theorem dX11_drop_10 : decode cX11_drop 10 = .ok (.aload_n 0, 1) := by decide +kernel
theorem dX11_drop_11 : decode cX11_drop 11 = .ok (.iload_n 1, 1) := by decide +kernel
theorem dX11_drop_12 : decode cX11_drop 12 = .ok (.invokevirtual 82, 3) := by decide +kernel
theorem dX11_drop_15 : decode cX11_drop 15 = .ok (.aload_n 0, 1) := by decide +kernel
theorem dX11_drop_16 : decode cX11_drop 16 = .ok (.iconst 1, 1) := by decide +kernel
theorem dX11_drop_17 : decode cX11_drop 17 = .ok (.iload_n 1, 1) := by decide +kernel
theorem dX11_drop_18 : decode cX11_drop 18 = .ok (.iload_n 2, 1) := by decide +kernel
theorem dX11_drop_19 : decode cX11_drop 19 = .ok (.getstatic 95, 3) := by decide +kernel
theorem dX11_drop_22 : decode cX11_drop 22 = .ok (.aconst_null, 1) := by decide +kernel
theorem dX11_drop_23 : decode cX11_drop 23 = .ok (.invokevirtual 91, 3) := by decide +kernel
theorem dX11_drop_26 : decode cX11_drop 26 = .ok (.ireturn, 1) := by decide +kernel
theorem dX11_refresh_0 : decode cX11_refresh 0 = .ok (.aload_n 0, 1) := by decide +kernel
theorem dX11_refresh_1 : decode cX11_refresh 1 = .ok (.iload_n 1, 1) := by decide +kernel
theorem dX11_refresh_2 : decode cX11_refresh 2 = .ok (.invokevirtual 69, 3) := by decide +kernel
theorem dX11_refresh_5 : decode cX11_refresh 5 = .ok (.aload_n 0, 1) := by decide +kernel
theorem dX11_refresh_6 : decode cX11_refresh 6 = .ok (.iload_n 2, 1) := by decide +kernel
theorem dX11_refresh_7 : decode cX11_refresh 7 = .ok (.invokevirtual 98, 3) := by decide +kernel
theorem dX11_refresh_10 : decode cX11_refresh 10 = .ok (.aload_n 0, 1) := by decide +kernel
theorem dX11_refresh_11 : decode cX11_refresh 11 = .ok (.iload_n 1, 1) := by decide +kernel
theorem dX11_refresh_12 : decode cX11_refresh 12 = .ok (.invokevirtual 82, 3) := by decide +kernel
theorem dX11_refresh_15 : decode cX11_refresh 15 = .ok (.aload_n 0, 1) := by decide +kernel
theorem dX11_refresh_16 : decode cX11_refresh 16 = .ok (.iconst 2, 1) := by decide +kernel
theorem dX11_refresh_17 : decode cX11_refresh 17 = .ok (.iload_n 1, 1) := by decide +kernel
theorem dX11_refresh_18 : decode cX11_refresh 18 = .ok (.iload_n 2, 1) := by decide +kernel
theorem dX11_refresh_19 : decode cX11_refresh 19 = .ok (.getstatic 95, 3) := by decide +kernel
theorem dX11_refresh_22 : decode cX11_refresh 22 = .ok (.aconst_null, 1) := by decide +kernel
theorem dX11_refresh_23 : decode cX11_refresh 23 = .ok (.invokevirtual 91, 3) := by decide +kernel
theorem dX11_refresh_26 : decode cX11_refresh 26 = .ok (.ireturn, 1) := by decide +kernel
theorem dX11_find_0 : decode cX11_find 0 = .ok (.aload_n 0, 1) := by decide +kernel
theorem dX11_find_1 : decode cX11_find 1 = .ok (.iload_n 1, 1) := by decide +kernel
theorem dX11_find_2 : decode cX11_find 2 = .ok (.invokevirtual 69, 3) := by decide +kernel
theorem dX11_find_5 : decode cX11_find 5 = .ok (.iload_n 2, 1) := by decide +kernel
theorem dX11_find_6 : decode cX11_find 6 = .ok (.iconst 1, 1) := by decide +kernel
theorem dX11_find_7 : decode cX11_find 7 = .ok (.if_icmp .lt 9, 3) := by decide +kernel
theorem dX11_find_10 : decode cX11_find 10 = .ok (.iload_n 2, 1) := by decide +kernel
theorem dX11_find_11 : decode cX11_find 11 = .ok (.bipush 10, 2) := by decide +kernel
theorem dX11_find_13 : decode cX11_find 13 = .ok (.if_icmp .le 13, 3) := by decide +kernel
theorem dX11_find_16 : decode cX11_find 16 = .ok (.new 60, 3) := by decide +kernel
theorem dX11_find_19 : decode cX11_find 19 = .ok (.dup, 1) := by decide +kernel
theorem dX11_find_20 : decode cX11_find 20 = .ok (.ldc 101, 2) := by decide +kernel
theorem dX11_find_22 : decode cX11_find 22 = .ok (.invokespecial 64, 3) := by decide +kernel
theorem dX11_find_25 : decode cX11_find 25 = .ok (.athrow, 1) := by decide +kernel
theorem dX11_find_26 : decode cX11_find 26 = .ok (.aload_n 0, 1) := by decide +kernel
theorem dX11_find_27 : decode cX11_find 27 = .ok (.iload_n 1, 1) := by decide +kernel
theorem dX11_find_28 : decode cX11_find 28 = .ok (.invokevirtual 82, 3) := by decide +kernel
theorem dX11_find_31 : decode cX11_find 31 = .ok (.new 103, 3) := by decide +kernel
theorem dX11_find_34 : decode cX11_find 34 = .ok (.dup, 1) := by decide +kernel
theorem dX11_find_35 : decode cX11_find 35 = .ok (.invokespecial 105, 3) := by decide +kernel
theorem dX11_find_38 : decode cX11_find 38 = .ok (.astore_n 3, 1) := by decide +kernel
theorem dX11_find_39 : decode cX11_find 39 = .ok (.aload_n 3, 1) := by decide +kernel
theorem dX11_find_40 : decode cX11_find 40 = .ok (.aload_n 0, 1) := by decide +kernel
theorem dX11_find_41 : decode cX11_find 41 = .ok (.getfield 48, 3) := by decide +kernel
theorem dX11_find_44 : decode cX11_find 44 = .ok (.aload_n 0, 1) := by decide +kernel
theorem dX11_find_45 : decode cX11_find 45 = .ok (.getfield 52, 3) := by decide +kernel
theorem dX11_find_48 : decode cX11_find 48 = .ok (.invokevirtual 106, 3) := by decide +kernel
theorem dX11_find_51 : decode cX11_find 51 = .ok (.istore 4, 2) := by decide +kernel
theorem dX11_find_53 : decode cX11_find 53 = .ok (.aload_n 0, 1) := by decide +kernel
theorem dX11_find_54 : decode cX11_find 54 = .ok (.iconst 0, 1) := by decide +kernel
theorem dX11_find_55 : decode cX11_find 55 = .ok (.putfield 52, 3) := by decide +kernel
theorem dX11_find_58 : decode cX11_find 58 = .ok (.iload 4, 2) := by decide +kernel
theorem dX11_find_60 : decode cX11_find 60 = .ok (.ifCond .ge 6, 3) := by decide +kernel
theorem dX11_find_63 : decode cX11_find 63 = .ok (.iload 4, 2) := by decide +kernel
theorem dX11_find_65 : decode cX11_find 65 = .ok (.ireturn, 1) := by decide +kernel
theorem dX11_find_66 : decode cX11_find 66 = .ok (.aload_n 0, 1) := by decide +kernel
theorem dX11_find_67 : decode cX11_find 67 = .ok (.iconst 3, 1) := by decide +kernel
theorem dX11_find_68 : decode cX11_find 68 = .ok (.iload_n 1, 1) := by decide +kernel
theorem dX11_find_69 : decode cX11_find 69 = .ok (.iload_n 2, 1) := by decide +kernel
theorem dX11_find_70 : decode cX11_find 70 = .ok (.getstatic 95, 3) := by decide +kernel
theorem dX11_find_73 : decode cX11_find 73 = .ok (.aload_n 3, 1) := by decide +kernel
theorem dX11_find_74 : decode cX11_find 74 = .ok (.invokevirtual 91, 3) := by decide +kernel
theorem dX11_find_77 : decode cX11_find 77 = .ok (.ireturn, 1) := by decide +kernel
theorem dX11_request_0 : decode cX11_request 0 = .ok (.aload_n 0, 1) := by decide +kernel
theorem dX11_request_1 : decode cX11_request 1 = .ok (.getfield 12, 3) := by decide +kernel
theorem dX11_request_4 : decode cX11_request 4 = .ok (.iload_n 1, 1) := by decide +kernel
theorem dX11_request_5 : decode cX11_request 5 = .ok (.invokevirtual 110, 3) := by decide +kernel
theorem dX11_request_8 : decode cX11_request 8 = .ok (.astore_n 3, 1) := by decide +kernel
theorem dX11_request_9 : decode cX11_request 9 = .ok (.aload_n 3, 1) := by decide +kernel
theorem dX11_request_10 : decode cX11_request 10 = .ok (.ifnull 12, 3) := by decide +kernel
theorem dX11_request_13 : decode cX11_request 13 = .ok (.iload_n 2, 1) := by decide +kernel
theorem dX11_request_14 : decode cX11_request 14 = .ok (.ifCond .lt 8, 3) := by decide +kernel
theorem dX11_request_17 : decode cX11_request 17 = .ok (.iload_n 2, 1) := by decide +kernel
theorem dX11_request_18 : decode cX11_request 18 = .ok (.iconst 5, 1) := by decide +kernel
theorem dX11_request_19 : decode cX11_request 19 = .ok (.if_icmp .le 13, 3) := by decide +kernel
theorem dX11_request_22 : decode cX11_request 22 = .ok (.new 114, 3) := by decide +kernel
theorem dX11_request_25 : decode cX11_request 25 = .ok (.dup, 1) := by decide +kernel
theorem dX11_request_26 : decode cX11_request 26 = .ok (.ldc 116, 2) := by decide +kernel
theorem dX11_request_28 : decode cX11_request 28 = .ok (.invokespecial 118, 3) := by decide +kernel
theorem dX11_request_31 : decode cX11_request 31 = .ok (.athrow, 1) := by decide +kernel
theorem dX11_request_32 : decode cX11_request 32 = .ok (.iload_n 2, 1) := by decide +kernel
theorem dX11_request_33 : decode cX11_request 33 = .ok (.tableswitch 60 0 4 #[35, 40, 45, 50, 55], 35) := by decide +kernel
theorem dX11_request_68 : decode cX11_request 68 = .ok (.aload_n 3, 1) := by decide +kernel
theorem dX11_request_69 : decode cX11_request 69 = .ok (.getfield 119, 3) := by decide +kernel
theorem dX11_request_72 : decode cX11_request 72 = .ok (.ireturn, 1) := by decide +kernel
theorem dX11_request_73 : decode cX11_request 73 = .ok (.aload_n 3, 1) := by decide +kernel
theorem dX11_request_74 : decode cX11_request 74 = .ok (.getfield 124, 3) := by decide +kernel
theorem dX11_request_77 : decode cX11_request 77 = .ok (.ireturn, 1) := by decide +kernel
theorem dX11_request_78 : decode cX11_request 78 = .ok (.aload_n 3, 1) := by decide +kernel
theorem dX11_request_79 : decode cX11_request 79 = .ok (.getfield 127, 3) := by decide +kernel
theorem dX11_request_82 : decode cX11_request 82 = .ok (.ireturn, 1) := by decide +kernel
theorem dX11_request_83 : decode cX11_request 83 = .ok (.aload_n 3, 1) := by decide +kernel
theorem dX11_request_84 : decode cX11_request 84 = .ok (.getfield 130, 3) := by decide +kernel
theorem dX11_request_87 : decode cX11_request 87 = .ok (.ireturn, 1) := by decide +kernel
theorem dX11_request_88 : decode cX11_request 88 = .ok (.aload_n 3, 1) := by decide +kernel
theorem dX11_request_89 : decode cX11_request 89 = .ok (.getfield 133, 3) := by decide +kernel
theorem dX11_request_92 : decode cX11_request 92 = .ok (.ireturn, 1) := by decide +kernel
theorem dX11_request_93 : decode cX11_request 93 = .ok (.aload_n 3, 1) := by decide +kernel
theorem dX11_request_94 : decode cX11_request 94 = .ok (.invokevirtual 136, 3) := by decide +kernel
theorem dX11_request_97 : decode cX11_request 97 = .ok (.ireturn, 1) := by decide +kernel
theorem dX11_hit_0 : decode cX11_hit 0 = .ok (.aload_n 0, 1) := by decide +kernel
theorem dX11_hit_1 : decode cX11_hit 1 = .ok (.getfield 12, 3) := by decide +kernel
theorem dX11_hit_4 : decode cX11_hit 4 = .ok (.iload_n 1, 1) := by decide +kernel
theorem dX11_hit_5 : decode cX11_hit 5 = .ok (.invokevirtual 110, 3) := by decide +kernel
theorem dX11_hit_8 : decode cX11_hit 8 = .ok (.astore 4, 2) := by decide +kernel
theorem dX11_hit_10 : decode cX11_hit 10 = .ok (.aload 4, 2) := by decide +kernel
theorem dX11_hit_12 : decode cX11_hit 12 = .ok (.ifnull 25, 3) := by decide +kernel
theorem dX11_hit_15 : decode cX11_hit 15 = .ok (.iload_n 2, 1) := by decide +kernel
theorem dX11_hit_16 : decode cX11_hit 16 = .ok (.ifCond .lt 21, 3) := by decide +kernel
theorem dX11_hit_19 : decode cX11_hit 19 = .ok (.iload_n 2, 1) := by decide +kernel
theorem dX11_hit_20 : decode cX11_hit 20 = .ok (.aload 4, 2) := by decide +kernel
theorem dX11_hit_22 : decode cX11_hit 22 = .ok (.invokevirtual 136, 3) := by decide +kernel
theorem dX11_hit_25 : decode cX11_hit 25 = .ok (.if_icmp .ge 12, 3) := by decide +kernel
theorem dX11_hit_28 : decode cX11_hit 28 = .ok (.iload_n 3, 1) := by decide +kernel
theorem dX11_hit_29 : decode cX11_hit 29 = .ok (.ifCond .lt 8, 3) := by decide +kernel
theorem dX11_hit_32 : decode cX11_hit 32 = .ok (.iload_n 3, 1) := by decide +kernel
theorem dX11_hit_33 : decode cX11_hit 33 = .ok (.iconst 1, 1) := by decide +kernel
theorem dX11_hit_34 : decode cX11_hit 34 = .ok (.if_icmp .le 13, 3) := by decide +kernel
theorem dX11_hit_37 : decode cX11_hit 37 = .ok (.new 114, 3) := by decide +kernel
theorem dX11_hit_40 : decode cX11_hit 40 = .ok (.dup, 1) := by decide +kernel
theorem dX11_hit_41 : decode cX11_hit 41 = .ok (.ldc 140, 2) := by decide +kernel
theorem dX11_hit_43 : decode cX11_hit 43 = .ok (.invokespecial 118, 3) := by decide +kernel
theorem dX11_hit_46 : decode cX11_hit 46 = .ok (.athrow, 1) := by decide +kernel
theorem dX11_hit_47 : decode cX11_hit 47 = .ok (.aload 4, 2) := by decide +kernel
theorem dX11_hit_49 : decode cX11_hit 49 = .ok (.getfield 142, 3) := by decide +kernel
theorem dX11_hit_52 : decode cX11_hit 52 = .ok (.iconst 2, 1) := by decide +kernel
theorem dX11_hit_53 : decode cX11_hit 53 = .ok (.iload_n 2, 1) := by decide +kernel
theorem dX11_hit_54 : decode cX11_hit 54 = .ok (.imul, 1) := by decide +kernel
theorem dX11_hit_55 : decode cX11_hit 55 = .ok (.iload_n 3, 1) := by decide +kernel
theorem dX11_hit_56 : decode cX11_hit 56 = .ok (.iadd, 1) := by decide +kernel
theorem dX11_hit_57 : decode cX11_hit 57 = .ok (.iaload, 1) := by decide +kernel
theorem dX11_hit_58 : decode cX11_hit 58 = .ok (.ireturn, 1) := by decide +kernel
theorem dX11_link_0 : decode cX11_link 0 = .ok (.aload_n 0, 1) := by decide +kernel
theorem dX11_link_1 : decode cX11_link 1 = .ok (.iload_n 1, 1) := by decide +kernel
theorem dX11_link_2 : decode cX11_link 2 = .ok (.iload_n 2, 1) := by decide +kernel
theorem dX11_link_3 : decode cX11_link 3 = .ok (.invokevirtual 145, 3) := by decide +kernel
theorem dX11_link_6 : decode cX11_link 6 = .ok (.aload_n 0, 1) := by decide +kernel
theorem dX11_link_7 : decode cX11_link 7 = .ok (.getfield 12, 3) := by decide +kernel
theorem dX11_link_10 : decode cX11_link 10 = .ok (.getfield 149, 3) := by decide +kernel
theorem dX11_link_13 : decode cX11_link 13 = .ok (.aload_n 0, 1) := by decide +kernel
theorem dX11_link_14 : decode cX11_link 14 = .ok (.getfield 12, 3) := by decide +kernel
theorem dX11_link_17 : decode cX11_link 17 = .ok (.iload_n 1, 1) := by decide +kernel
theorem dX11_link_18 : decode cX11_link 18 = .ok (.iload_n 2, 1) := by decide +kernel
theorem dX11_link_19 : decode cX11_link 19 = .ok (.invokevirtual 152, 3) := by decide +kernel
theorem dX11_link_22 : decode cX11_link 22 = .ok (.iaload, 1) := by decide +kernel
theorem dX11_link_23 : decode cX11_link 23 = .ok (.ireturn, 1) := by decide +kernel
theorem dX11_message_0 : decode cX11_message 0 = .ok (.aload_n 0, 1) := by decide +kernel
theorem dX11_message_1 : decode cX11_message 1 = .ok (.getfield 12, 3) := by decide +kernel
theorem dX11_message_4 : decode cX11_message 4 = .ok (.iload_n 1, 1) := by decide +kernel
theorem dX11_message_5 : decode cX11_message 5 = .ok (.iload_n 2, 1) := by decide +kernel
theorem dX11_message_6 : decode cX11_message 6 = .ok (.iload_n 3, 1) := by decide +kernel
theorem dX11_message_7 : decode cX11_message 7 = .ok (.invokevirtual 156, 3) := by decide +kernel
theorem dX11_message_10 : decode cX11_message 10 = .ok (.astore 5, 2) := by decide +kernel
theorem dX11_message_12 : decode cX11_message 12 = .ok (.aload 5, 2) := by decide +kernel
theorem dX11_message_14 : decode cX11_message 14 = .ok (.ifnull 14, 3) := by decide +kernel
theorem dX11_message_17 : decode cX11_message 17 = .ok (.iload 4, 2) := by decide +kernel
theorem dX11_message_19 : decode cX11_message 19 = .ok (.ifCond .lt 9, 3) := by decide +kernel
theorem dX11_message_22 : decode cX11_message 22 = .ok (.iload 4, 2) := by decide +kernel
theorem dX11_message_24 : decode cX11_message 24 = .ok (.iconst 5, 1) := by decide +kernel
theorem dX11_message_25 : decode cX11_message 25 = .ok (.if_icmp .le 13, 3) := by decide +kernel
theorem dX11_message_28 : decode cX11_message 28 = .ok (.new 114, 3) := by decide +kernel
theorem dX11_message_31 : decode cX11_message 31 = .ok (.dup, 1) := by decide +kernel
theorem dX11_message_32 : decode cX11_message 32 = .ok (.ldc 160, 2) := by decide +kernel
theorem dX11_message_34 : decode cX11_message 34 = .ok (.invokespecial 118, 3) := by decide +kernel
theorem dX11_message_37 : decode cX11_message 37 = .ok (.athrow, 1) := by decide +kernel
theorem dX11_message_38 : decode cX11_message 38 = .ok (.iload 4, 2) := by decide +kernel
theorem dX11_message_40 : decode cX11_message 40 = .ok (.ifCond .ne 11, 3) := by decide +kernel
theorem dX11_message_43 : decode cX11_message 43 = .ok (.aload 5, 2) := by decide +kernel
theorem dX11_message_45 : decode cX11_message 45 = .ok (.getfield 162, 3) := by decide +kernel
theorem dX11_message_48 : decode cX11_message 48 = .ok (.goto 13, 3) := by decide +kernel
theorem dX11_message_51 : decode cX11_message 51 = .ok (.aload 5, 2) := by decide +kernel
theorem dX11_message_53 : decode cX11_message 53 = .ok (.getfield 165, 3) := by decide +kernel
theorem dX11_message_56 : decode cX11_message 56 = .ok (.iload 4, 2) := by decide +kernel
theorem dX11_message_58 : decode cX11_message 58 = .ok (.iconst 1, 1) := by decide +kernel
theorem dX11_message_59 : decode cX11_message 59 = .ok (.isub, 1) := by decide +kernel
theorem dX11_message_60 : decode cX11_message 60 = .ok (.iaload, 1) := by decide +kernel
theorem dX11_message_61 : decode cX11_message 61 = .ok (.ireturn, 1) := by decide +kernel
theorem dX11_deliver_0 : decode cX11_deliver 0 = .ok (.aload_n 0, 1) := by decide +kernel
theorem dX11_deliver_1 : decode cX11_deliver 1 = .ok (.iload_n 1, 1) := by decide +kernel
theorem dX11_deliver_2 : decode cX11_deliver 2 = .ok (.iload_n 2, 1) := by decide +kernel
theorem dX11_deliver_3 : decode cX11_deliver 3 = .ok (.invokevirtual 145, 3) := by decide +kernel
theorem dX11_deliver_6 : decode cX11_deliver 6 = .ok (.aload_n 0, 1) := by decide +kernel
theorem dX11_deliver_7 : decode cX11_deliver 7 = .ok (.iload_n 1, 1) := by decide +kernel
theorem dX11_deliver_8 : decode cX11_deliver 8 = .ok (.iload_n 2, 1) := by decide +kernel
theorem dX11_deliver_9 : decode cX11_deliver 9 = .ok (.invokevirtual 168, 3) := by decide +kernel
theorem dX11_deliver_12 : decode cX11_deliver 12 = .ok (.ireturn, 1) := by decide +kernel
theorem dX11_lose_0 : decode cX11_lose 0 = .ok (.aload_n 0, 1) := by decide +kernel
theorem dX11_lose_1 : decode cX11_lose 1 = .ok (.iload_n 1, 1) := by decide +kernel
theorem dX11_lose_2 : decode cX11_lose 2 = .ok (.iload_n 2, 1) := by decide +kernel
theorem dX11_lose_3 : decode cX11_lose 3 = .ok (.invokevirtual 145, 3) := by decide +kernel
theorem dX11_lose_6 : decode cX11_lose 6 = .ok (.aload_n 0, 1) := by decide +kernel
theorem dX11_lose_7 : decode cX11_lose 7 = .ok (.getfield 12, 3) := by decide +kernel
theorem dX11_lose_10 : decode cX11_lose 10 = .ok (.iload_n 1, 1) := by decide +kernel
theorem dX11_lose_11 : decode cX11_lose 11 = .ok (.iload_n 2, 1) := by decide +kernel
theorem dX11_lose_12 : decode cX11_lose 12 = .ok (.invokevirtual 171, 3) := by decide +kernel
theorem dX11_lose_15 : decode cX11_lose 15 = .ok (.astore_n 3, 1) := by decide +kernel
theorem dX11_lose_16 : decode cX11_lose 16 = .ok (.aload_n 3, 1) := by decide +kernel
theorem dX11_lose_17 : decode cX11_lose 17 = .ok (.ifnonnull 7, 3) := by decide +kernel
theorem dX11_lose_20 : decode cX11_lose 20 = .ok (.iconst 0, 1) := by decide +kernel
theorem dX11_lose_21 : decode cX11_lose 21 = .ok (.goto 7, 3) := by decide +kernel
theorem dX11_lose_24 : decode cX11_lose 24 = .ok (.aload_n 3, 1) := by decide +kernel
theorem dX11_lose_25 : decode cX11_lose 25 = .ok (.getfield 162, 3) := by decide +kernel
theorem dX11_lose_28 : decode cX11_lose 28 = .ok (.ireturn, 1) := by decide +kernel
theorem dX11_tick_0 : decode cX11_tick 0 = .ok (.aload_n 0, 1) := by decide +kernel
theorem dX11_tick_1 : decode cX11_tick 1 = .ok (.invokevirtual 175, 3) := by decide +kernel
theorem dX11_tick_4 : decode cX11_tick 4 = .ok (.aload_n 0, 1) := by decide +kernel
theorem dX11_tick_5 : decode cX11_tick 5 = .ok (.getfield 12, 3) := by decide +kernel
theorem dX11_tick_8 : decode cX11_tick 8 = .ok (.getfield 178, 3) := by decide +kernel
theorem dX11_tick_11 : decode cX11_tick 11 = .ok (.ireturn, 1) := by decide +kernel
theorem dX11_run_0 : decode cX11_run 0 = .ok (.iload_n 1, 1) := by decide +kernel
theorem dX11_run_1 : decode cX11_run 1 = .ok (.ifCond .lt 9, 3) := by decide +kernel
theorem dX11_run_4 : decode cX11_run 4 = .ok (.iload_n 1, 1) := by decide +kernel
theorem dX11_run_5 : decode cX11_run 5 = .ok (.bipush 60, 2) := by decide +kernel
theorem dX11_run_7 : decode cX11_run 7 = .ok (.if_icmp .le 13, 3) := by decide +kernel
theorem dX11_run_10 : decode cX11_run 10 = .ok (.new 60, 3) := by decide +kernel
theorem dX11_run_13 : decode cX11_run 13 = .ok (.dup, 1) := by decide +kernel
theorem dX11_run_14 : decode cX11_run 14 = .ok (.ldc 181, 2) := by decide +kernel
theorem dX11_run_16 : decode cX11_run 16 = .ok (.invokespecial 64, 3) := by decide +kernel
theorem dX11_run_19 : decode cX11_run 19 = .ok (.athrow, 1) := by decide +kernel
theorem dX11_run_20 : decode cX11_run 20 = .ok (.aload_n 0, 1) := by decide +kernel
theorem dX11_run_21 : decode cX11_run 21 = .ok (.getfield 12, 3) := by decide +kernel
theorem dX11_run_24 : decode cX11_run 24 = .ok (.getfield 183, 3) := by decide +kernel
theorem dX11_run_27 : decode cX11_run 27 = .ok (.istore_n 2, 1) := by decide +kernel
theorem dX11_run_28 : decode cX11_run 28 = .ok (.iconst 0, 1) := by decide +kernel
theorem dX11_run_29 : decode cX11_run 29 = .ok (.istore_n 3, 1) := by decide +kernel
theorem dX11_run_30 : decode cX11_run 30 = .ok (.iload_n 3, 1) := by decide +kernel
theorem dX11_run_31 : decode cX11_run 31 = .ok (.iload_n 1, 1) := by decide +kernel
theorem dX11_run_32 : decode cX11_run 32 = .ok (.if_icmp .ge 101, 3) := by decide +kernel
theorem dX11_run_35 : decode cX11_run 35 = .ok (.iconst 0, 1) := by decide +kernel
theorem dX11_run_36 : decode cX11_run 36 = .ok (.istore 4, 2) := by decide +kernel
theorem dX11_run_38 : decode cX11_run 38 = .ok (.iload 4, 2) := by decide +kernel
theorem dX11_run_40 : decode cX11_run 40 = .ok (.aload_n 0, 1) := by decide +kernel
theorem dX11_run_41 : decode cX11_run 41 = .ok (.getfield 12, 3) := by decide +kernel
theorem dX11_run_44 : decode cX11_run 44 = .ok (.getfield 186, 3) := by decide +kernel
theorem dX11_run_47 : decode cX11_run 47 = .ok (.if_icmp .gt 76, 3) := by decide +kernel
theorem dX11_run_50 : decode cX11_run 50 = .ok (.iconst 0, 1) := by decide +kernel
theorem dX11_run_51 : decode cX11_run 51 = .ok (.istore 5, 2) := by decide +kernel
theorem dX11_run_53 : decode cX11_run 53 = .ok (.iload 5, 2) := by decide +kernel
theorem dX11_run_55 : decode cX11_run 55 = .ok (.aload_n 0, 1) := by decide +kernel
theorem dX11_run_56 : decode cX11_run 56 = .ok (.getfield 12, 3) := by decide +kernel
theorem dX11_run_59 : decode cX11_run 59 = .ok (.getfield 186, 3) := by decide +kernel
theorem dX11_run_62 : decode cX11_run 62 = .ok (.if_icmp .gt 55, 3) := by decide +kernel
theorem dX11_run_65 : decode cX11_run 65 = .ok (.aload_n 0, 1) := by decide +kernel
theorem dX11_run_66 : decode cX11_run 66 = .ok (.getfield 12, 3) := by decide +kernel
theorem dX11_run_69 : decode cX11_run 69 = .ok (.getfield 149, 3) := by decide +kernel
theorem dX11_run_72 : decode cX11_run 72 = .ok (.aload_n 0, 1) := by decide +kernel
theorem dX11_run_73 : decode cX11_run 73 = .ok (.getfield 12, 3) := by decide +kernel
theorem dX11_run_76 : decode cX11_run 76 = .ok (.iload 4, 2) := by decide +kernel
theorem dX11_run_78 : decode cX11_run 78 = .ok (.iload 5, 2) := by decide +kernel
theorem dX11_run_80 : decode cX11_run 80 = .ok (.invokevirtual 152, 3) := by decide +kernel
theorem dX11_run_83 : decode cX11_run 83 = .ok (.iaload, 1) := by decide +kernel
theorem dX11_run_84 : decode cX11_run 84 = .ok (.istore 6, 2) := by decide +kernel
theorem dX11_run_86 : decode cX11_run 86 = .ok (.iconst 0, 1) := by decide +kernel
theorem dX11_run_87 : decode cX11_run 87 = .ok (.istore 7, 2) := by decide +kernel
theorem dX11_run_89 : decode cX11_run 89 = .ok (.iload 7, 2) := by decide +kernel
theorem dX11_run_91 : decode cX11_run 91 = .ok (.iload 6, 2) := by decide +kernel
theorem dX11_run_93 : decode cX11_run 93 = .ok (.if_icmp .ge 18, 3) := by decide +kernel
theorem dX11_run_96 : decode cX11_run 96 = .ok (.aload_n 0, 1) := by decide +kernel
theorem dX11_run_97 : decode cX11_run 97 = .ok (.iload 4, 2) := by decide +kernel
theorem dX11_run_99 : decode cX11_run 99 = .ok (.iload 5, 2) := by decide +kernel
theorem dX11_run_101 : decode cX11_run 101 = .ok (.invokevirtual 168, 3) := by decide +kernel
theorem dX11_run_104 : decode cX11_run 104 = .ok (.pop, 1) := by decide +kernel
theorem dX11_run_105 : decode cX11_run 105 = .ok (.iinc 7 1, 3) := by decide +kernel
theorem dX11_run_108 : decode cX11_run 108 = .ok (.goto (-19), 3) := by decide +kernel
theorem dX11_run_111 : decode cX11_run 111 = .ok (.iinc 5 1, 3) := by decide +kernel
theorem dX11_run_114 : decode cX11_run 114 = .ok (.goto (-61), 3) := by decide +kernel
theorem dX11_run_117 : decode cX11_run 117 = .ok (.iinc 4 1, 3) := by decide +kernel
theorem dX11_run_120 : decode cX11_run 120 = .ok (.goto (-82), 3) := by decide +kernel
theorem dX11_run_123 : decode cX11_run 123 = .ok (.aload_n 0, 1) := by decide +kernel
theorem dX11_run_124 : decode cX11_run 124 = .ok (.invokevirtual 175, 3) := by decide +kernel
theorem dX11_run_127 : decode cX11_run 127 = .ok (.iinc 3 1, 3) := by decide +kernel
theorem dX11_run_130 : decode cX11_run 130 = .ok (.goto (-100), 3) := by decide +kernel
theorem dX11_run_133 : decode cX11_run 133 = .ok (.aload_n 0, 1) := by decide +kernel
theorem dX11_run_134 : decode cX11_run 134 = .ok (.getfield 12, 3) := by decide +kernel
theorem dX11_run_137 : decode cX11_run 137 = .ok (.getfield 183, 3) := by decide +kernel
theorem dX11_run_140 : decode cX11_run 140 = .ok (.iload_n 2, 1) := by decide +kernel
theorem dX11_run_141 : decode cX11_run 141 = .ok (.isub, 1) := by decide +kernel
theorem dX11_run_142 : decode cX11_run 142 = .ok (.ireturn, 1) := by decide +kernel
theorem dX11_up_0 : decode cX11_up 0 = .ok (.aload_n 0, 1) := by decide +kernel
theorem dX11_up_1 : decode cX11_up 1 = .ok (.iload_n 1, 1) := by decide +kernel
theorem dX11_up_2 : decode cX11_up 2 = .ok (.invokevirtual 188, 3) := by decide +kernel
theorem dX11_up_5 : decode cX11_up 5 = .ok (.aload_n 0, 1) := by decide +kernel
theorem dX11_up_6 : decode cX11_up 6 = .ok (.getfield 18, 3) := by decide +kernel
theorem dX11_up_9 : decode cX11_up 9 = .ok (.iload_n 1, 1) := by decide +kernel
theorem dX11_up_10 : decode cX11_up 10 = .ok (.aaload, 1) := by decide +kernel
theorem dX11_up_11 : decode cX11_up 11 = .ok (.getfield 191, 3) := by decide +kernel
theorem dX11_up_14 : decode cX11_up 14 = .ok (.ireturn, 1) := by decide +kernel
theorem dX11_down_0 : decode cX11_down 0 = .ok (.aload_n 0, 1) := by decide +kernel
theorem dX11_down_1 : decode cX11_down 1 = .ok (.iload_n 1, 1) := by decide +kernel
theorem dX11_down_2 : decode cX11_down 2 = .ok (.invokevirtual 188, 3) := by decide +kernel
theorem dX11_down_5 : decode cX11_down 5 = .ok (.aload_n 0, 1) := by decide +kernel
theorem dX11_down_6 : decode cX11_down 6 = .ok (.iload_n 1, 1) := by decide +kernel
theorem dX11_down_7 : decode cX11_down 7 = .ok (.invokevirtual 195, 3) := by decide +kernel
theorem dX11_down_10 : decode cX11_down 10 = .ok (.ireturn, 1) := by decide +kernel
theorem dX11_start_0 : decode cX11_start 0 = .ok (.aload_n 0, 1) := by decide +kernel
theorem dX11_start_1 : decode cX11_start 1 = .ok (.iload_n 1, 1) := by decide +kernel
theorem dX11_start_2 : decode cX11_start 2 = .ok (.invokevirtual 188, 3) := by decide +kernel
theorem dX11_start_5 : decode cX11_start 5 = .ok (.aload_n 0, 1) := by decide +kernel
theorem dX11_start_6 : decode cX11_start 6 = .ok (.getfield 18, 3) := by decide +kernel
theorem dX11_start_9 : decode cX11_start 9 = .ok (.iload_n 1, 1) := by decide +kernel
theorem dX11_start_10 : decode cX11_start 10 = .ok (.aaload, 1) := by decide +kernel
theorem dX11_start_11 : decode cX11_start 11 = .ok (.getfield 191, 3) := by decide +kernel
theorem dX11_start_14 : decode cX11_start 14 = .ok (.ifCond .eq 13, 3) := by decide +kernel
theorem dX11_start_17 : decode cX11_start 17 = .ok (.new 199, 3) := by decide +kernel
theorem dX11_start_20 : decode cX11_start 20 = .ok (.dup, 1) := by decide +kernel
theorem dX11_start_21 : decode cX11_start 21 = .ok (.ldc 201, 2) := by decide +kernel
theorem dX11_start_23 : decode cX11_start 23 = .ok (.invokespecial 203, 3) := by decide +kernel
theorem dX11_start_26 : decode cX11_start 26 = .ok (.athrow, 1) := by decide +kernel
theorem dX11_start_27 : decode cX11_start 27 = .ok (.aload_n 0, 1) := by decide +kernel
theorem dX11_start_28 : decode cX11_start 28 = .ok (.getfield 18, 3) := by decide +kernel
theorem dX11_start_31 : decode cX11_start 31 = .ok (.iload_n 1, 1) := by decide +kernel
theorem dX11_start_32 : decode cX11_start 32 = .ok (.aaload, 1) := by decide +kernel
theorem dX11_start_33 : decode cX11_start 33 = .ok (.iconst 1, 1) := by decide +kernel
theorem dX11_start_34 : decode cX11_start 34 = .ok (.putfield 191, 3) := by decide +kernel
theorem dX11_start_37 : decode cX11_start 37 = .ok (.aload_n 0, 1) := by decide +kernel
theorem dX11_start_38 : decode cX11_start 38 = .ok (.iload_n 1, 1) := by decide +kernel
theorem dX11_start_39 : decode cX11_start 39 = .ok (.invokevirtual 204, 3) := by decide +kernel
theorem dX11_start_42 : decode cX11_start 42 = .ok (.aload_n 0, 1) := by decide +kernel
theorem dX11_start_43 : decode cX11_start 43 = .ok (.getfield 18, 3) := by decide +kernel
theorem dX11_start_46 : decode cX11_start 46 = .ok (.iload_n 1, 1) := by decide +kernel
theorem dX11_start_47 : decode cX11_start 47 = .ok (.aaload, 1) := by decide +kernel
theorem dX11_start_48 : decode cX11_start 48 = .ok (.getfield 191, 3) := by decide +kernel
theorem dX11_start_51 : decode cX11_start 51 = .ok (.ireturn, 1) := by decide +kernel
theorem dX11_fail_0 : decode cX11_fail 0 = .ok (.aload_n 0, 1) := by decide +kernel
theorem dX11_fail_1 : decode cX11_fail 1 = .ok (.iload_n 1, 1) := by decide +kernel
theorem dX11_fail_2 : decode cX11_fail 2 = .ok (.invokevirtual 188, 3) := by decide +kernel
theorem dX11_fail_5 : decode cX11_fail 5 = .ok (.iload_n 2, 1) := by decide +kernel
theorem dX11_fail_6 : decode cX11_fail 6 = .ok (.ifCond .lt 20, 3) := by decide +kernel
theorem dX11_fail_9 : decode cX11_fail 9 = .ok (.iload_n 2, 1) := by decide +kernel
theorem dX11_fail_10 : decode cX11_fail 10 = .ok (.sipush 1000, 3) := by decide +kernel
theorem dX11_fail_13 : decode cX11_fail 13 = .ok (.if_icmp .gt 13, 3) := by decide +kernel
theorem dX11_fail_16 : decode cX11_fail 16 = .ok (.iload_n 3, 1) := by decide +kernel
theorem dX11_fail_17 : decode cX11_fail 17 = .ok (.ifCond .lt 9, 3) := by decide +kernel
theorem dX11_fail_20 : decode cX11_fail 20 = .ok (.iload_n 3, 1) := by decide +kernel
theorem dX11_fail_21 : decode cX11_fail 21 = .ok (.bipush 64, 2) := by decide +kernel
theorem dX11_fail_23 : decode cX11_fail 23 = .ok (.if_icmp .lt 13, 3) := by decide +kernel
theorem dX11_fail_26 : decode cX11_fail 26 = .ok (.new 60, 3) := by decide +kernel
theorem dX11_fail_29 : decode cX11_fail 29 = .ok (.dup, 1) := by decide +kernel
theorem dX11_fail_30 : decode cX11_fail 30 = .ok (.ldc 207, 2) := by decide +kernel
theorem dX11_fail_32 : decode cX11_fail 32 = .ok (.invokespecial 64, 3) := by decide +kernel
theorem dX11_fail_35 : decode cX11_fail 35 = .ok (.athrow, 1) := by decide +kernel
theorem dX11_fail_36 : decode cX11_fail 36 = .ok (.aload_n 0, 1) := by decide +kernel
theorem dX11_fail_37 : decode cX11_fail 37 = .ok (.getfield 18, 3) := by decide +kernel
theorem dX11_fail_40 : decode cX11_fail 40 = .ok (.iload_n 1, 1) := by decide +kernel
theorem dX11_fail_41 : decode cX11_fail 41 = .ok (.aaload, 1) := by decide +kernel
theorem dX11_fail_42 : decode cX11_fail 42 = .ok (.iload_n 2, 1) := by decide +kernel
theorem dX11_fail_43 : decode cX11_fail 43 = .ok (.putfield 209, 3) := by decide +kernel
theorem dX11_fail_46 : decode cX11_fail 46 = .ok (.aload_n 0, 1) := by decide +kernel
theorem dX11_fail_47 : decode cX11_fail 47 = .ok (.getfield 18, 3) := by decide +kernel
theorem dX11_fail_50 : decode cX11_fail 50 = .ok (.iload_n 1, 1) := by decide +kernel
theorem dX11_fail_51 : decode cX11_fail 51 = .ok (.aaload, 1) := by decide +kernel
theorem dX11_fail_52 : decode cX11_fail 52 = .ok (.iload_n 3, 1) := by decide +kernel
theorem dX11_fail_53 : decode cX11_fail 53 = .ok (.putfield 212, 3) := by decide +kernel
theorem dX11_fail_56 : decode cX11_fail 56 = .ok (.return_, 1) := by decide +kernel
theorem dX11_copy_0 : decode cX11_copy 0 = .ok (.aload_n 0, 1) := by decide +kernel
theorem dX11_copy_1 : decode cX11_copy 1 = .ok (.iload_n 1, 1) := by decide +kernel
theorem dX11_copy_2 : decode cX11_copy 2 = .ok (.iload_n 2, 1) := by decide +kernel
theorem dX11_copy_3 : decode cX11_copy 3 = .ok (.invokevirtual 215, 3) := by decide +kernel
theorem dX11_copy_6 : decode cX11_copy 6 = .ok (.astore 4, 2) := by decide +kernel
theorem dX11_copy_8 : decode cX11_copy 8 = .ok (.iload_n 3, 1) := by decide +kernel
theorem dX11_copy_9 : decode cX11_copy 9 = .ok (.ifCond .lt 9, 3) := by decide +kernel
theorem dX11_copy_12 : decode cX11_copy 12 = .ok (.iload_n 3, 1) := by decide +kernel
theorem dX11_copy_13 : decode cX11_copy 13 = .ok (.bipush 8, 2) := by decide +kernel
theorem dX11_copy_15 : decode cX11_copy 15 = .ok (.if_icmp .le 13, 3) := by decide +kernel
theorem dX11_copy_18 : decode cX11_copy 18 = .ok (.new 114, 3) := by decide +kernel
theorem dX11_copy_21 : decode cX11_copy 21 = .ok (.dup, 1) := by decide +kernel
theorem dX11_copy_22 : decode cX11_copy 22 = .ok (.ldc 219, 2) := by decide +kernel
theorem dX11_copy_24 : decode cX11_copy 24 = .ok (.invokespecial 118, 3) := by decide +kernel
theorem dX11_copy_27 : decode cX11_copy 27 = .ok (.athrow, 1) := by decide +kernel
theorem dX11_copy_28 : decode cX11_copy 28 = .ok (.aload_n 0, 1) := by decide +kernel
theorem dX11_copy_29 : decode cX11_copy 29 = .ok (.getfield 18, 3) := by decide +kernel
theorem dX11_copy_32 : decode cX11_copy 32 = .ok (.iload_n 1, 1) := by decide +kernel
theorem dX11_copy_33 : decode cX11_copy 33 = .ok (.aaload, 1) := by decide +kernel
theorem dX11_copy_34 : decode cX11_copy 34 = .ok (.getfield 191, 3) := by decide +kernel
theorem dX11_copy_37 : decode cX11_copy 37 = .ok (.ifCond .ne 5, 3) := by decide +kernel
theorem dX11_copy_40 : decode cX11_copy 40 = .ok (.iconst (-1), 1) := by decide +kernel
theorem dX11_copy_41 : decode cX11_copy 41 = .ok (.ireturn, 1) := by decide +kernel
theorem dX11_copy_42 : decode cX11_copy 42 = .ok (.iload_n 3, 1) := by decide +kernel
theorem dX11_copy_43 : decode cX11_copy 43 = .ok (.iconst 5, 1) := by decide +kernel
theorem dX11_copy_44 : decode cX11_copy 44 = .ok (.if_icmp .ne 11, 3) := by decide +kernel
theorem dX11_copy_47 : decode cX11_copy 47 = .ok (.aload 4, 2) := by decide +kernel
theorem dX11_copy_49 : decode cX11_copy 49 = .ok (.getfield 221, 3) := by decide +kernel
theorem dX11_copy_52 : decode cX11_copy 52 = .ok (.goto 12, 3) := by decide +kernel
theorem dX11_copy_55 : decode cX11_copy 55 = .ok (.aload 4, 2) := by decide +kernel
theorem dX11_copy_57 : decode cX11_copy 57 = .ok (.getfield 224, 3) := by decide +kernel
theorem dX11_copy_60 : decode cX11_copy 60 = .ok (.iload_n 3, 1) := by decide +kernel
theorem dX11_copy_61 : decode cX11_copy 61 = .ok (.invokevirtual 228, 3) := by decide +kernel
theorem dX11_copy_64 : decode cX11_copy 64 = .ok (.ireturn, 1) := by decide +kernel
theorem dX11_other_0 : decode cX11_other 0 = .ok (.aload_n 0, 1) := by decide +kernel
theorem dX11_other_1 : decode cX11_other 1 = .ok (.iload_n 1, 1) := by decide +kernel
theorem dX11_other_2 : decode cX11_other 2 = .ok (.iload_n 2, 1) := by decide +kernel
theorem dX11_other_3 : decode cX11_other 3 = .ok (.invokevirtual 215, 3) := by decide +kernel
theorem dX11_other_6 : decode cX11_other 6 = .ok (.astore 5, 2) := by decide +kernel
theorem dX11_other_8 : decode cX11_other 8 = .ok (.aload 5, 2) := by decide +kernel
theorem dX11_other_10 : decode cX11_other 10 = .ok (.iload_n 3, 1) := by decide +kernel
theorem dX11_other_11 : decode cX11_other 11 = .ok (.invokevirtual 233, 3) := by decide +kernel
theorem dX11_other_14 : decode cX11_other 14 = .ok (.ifCond .eq 14, 3) := by decide +kernel
theorem dX11_other_17 : decode cX11_other 17 = .ok (.iload 4, 2) := by decide +kernel
theorem dX11_other_19 : decode cX11_other 19 = .ok (.ifCond .lt 9, 3) := by decide +kernel
theorem dX11_other_22 : decode cX11_other 22 = .ok (.iload 4, 2) := by decide +kernel
theorem dX11_other_24 : decode cX11_other 24 = .ok (.iconst 3, 1) := by decide +kernel
theorem dX11_other_25 : decode cX11_other 25 = .ok (.if_icmp .le 13, 3) := by decide +kernel
theorem dX11_other_28 : decode cX11_other 28 = .ok (.new 114, 3) := by decide +kernel
theorem dX11_other_31 : decode cX11_other 31 = .ok (.dup, 1) := by decide +kernel
theorem dX11_other_32 : decode cX11_other 32 = .ok (.ldc 237, 2) := by decide +kernel
theorem dX11_other_34 : decode cX11_other 34 = .ok (.invokespecial 118, 3) := by decide +kernel
theorem dX11_other_37 : decode cX11_other 37 = .ok (.athrow, 1) := by decide +kernel
theorem dX11_other_38 : decode cX11_other 38 = .ok (.aload_n 0, 1) := by decide +kernel
theorem dX11_other_39 : decode cX11_other 39 = .ok (.getfield 18, 3) := by decide +kernel
theorem dX11_other_42 : decode cX11_other 42 = .ok (.iload_n 1, 1) := by decide +kernel
theorem dX11_other_43 : decode cX11_other 43 = .ok (.aaload, 1) := by decide +kernel
theorem dX11_other_44 : decode cX11_other 44 = .ok (.getfield 191, 3) := by decide +kernel
theorem dX11_other_47 : decode cX11_other 47 = .ok (.ifCond .eq 12, 3) := by decide +kernel
theorem dX11_other_50 : decode cX11_other 50 = .ok (.aload 5, 2) := by decide +kernel
theorem dX11_other_52 : decode cX11_other 52 = .ok (.getfield 221, 3) := by decide +kernel
theorem dX11_other_55 : decode cX11_other 55 = .ok (.iconst 2, 1) := by decide +kernel
theorem dX11_other_56 : decode cX11_other 56 = .ok (.if_icmp .eq 5, 3) := by decide +kernel
theorem dX11_other_59 : decode cX11_other 59 = .ok (.iconst (-1), 1) := by decide +kernel
theorem dX11_other_60 : decode cX11_other 60 = .ok (.ireturn, 1) := by decide +kernel
theorem dX11_other_61 : decode cX11_other 61 = .ok (.iload 4, 2) := by decide +kernel
theorem dX11_other_63 : decode cX11_other 63 = .ok (.tableswitch 49 0 2 #[25, 33, 41], 25) := by decide +kernel
theorem dX11_other_88 : decode cX11_other 88 = .ok (.aload 5, 2) := by decide +kernel
theorem dX11_other_90 : decode cX11_other 90 = .ok (.getfield 239, 3) := by decide +kernel
theorem dX11_other_93 : decode cX11_other 93 = .ok (.iload_n 3, 1) := by decide +kernel
theorem dX11_other_94 : decode cX11_other 94 = .ok (.iaload, 1) := by decide +kernel
theorem dX11_other_95 : decode cX11_other 95 = .ok (.ireturn, 1) := by decide +kernel
theorem dX11_other_96 : decode cX11_other 96 = .ok (.aload 5, 2) := by decide +kernel
theorem dX11_other_98 : decode cX11_other 98 = .ok (.getfield 241, 3) := by decide +kernel
theorem dX11_other_101 : decode cX11_other 101 = .ok (.iload_n 3, 1) := by decide +kernel
theorem dX11_other_102 : decode cX11_other 102 = .ok (.iaload, 1) := by decide +kernel
theorem dX11_other_103 : decode cX11_other 103 = .ok (.ireturn, 1) := by decide +kernel
theorem dX11_other_104 : decode cX11_other 104 = .ok (.aload 5, 2) := by decide +kernel
theorem dX11_other_106 : decode cX11_other 106 = .ok (.getfield 244, 3) := by decide +kernel
theorem dX11_other_109 : decode cX11_other 109 = .ok (.iload_n 3, 1) := by decide +kernel
theorem dX11_other_110 : decode cX11_other 110 = .ok (.iaload, 1) := by decide +kernel
theorem dX11_other_111 : decode cX11_other 111 = .ok (.ireturn, 1) := by decide +kernel
theorem dX11_other_112 : decode cX11_other 112 = .ok (.aload 5, 2) := by decide +kernel
theorem dX11_other_114 : decode cX11_other 114 = .ok (.getfield 247, 3) := by decide +kernel
theorem dX11_other_117 : decode cX11_other 117 = .ok (.iload_n 3, 1) := by decide +kernel
theorem dX11_other_118 : decode cX11_other 118 = .ok (.iaload, 1) := by decide +kernel
theorem dX11_other_119 : decode cX11_other 119 = .ok (.ireturn, 1) := by decide +kernel
theorem dX11_view_0 : decode cX11_view 0 = .ok (.iload_n 1, 1) := by decide +kernel
theorem dX11_view_1 : decode cX11_view 1 = .ok (.aload_n 0, 1) := by decide +kernel
theorem dX11_view_2 : decode cX11_view 2 = .ok (.getfield 12, 3) := by decide +kernel
theorem dX11_view_5 : decode cX11_view 5 = .ok (.getfield 186, 3) := by decide +kernel
theorem dX11_view_8 : decode cX11_view 8 = .ok (.if_icmp .ne 22, 3) := by decide +kernel
theorem dX11_view_11 : decode cX11_view 11 = .ok (.aload_n 0, 1) := by decide +kernel
theorem dX11_view_12 : decode cX11_view 12 = .ok (.iload_n 2, 1) := by decide +kernel
theorem dX11_view_13 : decode cX11_view 13 = .ok (.invokevirtual 98, 3) := by decide +kernel
theorem dX11_view_16 : decode cX11_view 16 = .ok (.aload_n 0, 1) := by decide +kernel
theorem dX11_view_17 : decode cX11_view 17 = .ok (.getfield 37, 3) := by decide +kernel
theorem dX11_view_20 : decode cX11_view 20 = .ok (.getfield 250, 3) := by decide +kernel
theorem dX11_view_23 : decode cX11_view 23 = .ok (.iload_n 2, 1) := by decide +kernel
theorem dX11_view_24 : decode cX11_view 24 = .ok (.aaload, 1) := by decide +kernel
theorem dX11_view_25 : decode cX11_view 25 = .ok (.astore 4, 2) := by decide +kernel
theorem dX11_view_27 : decode cX11_view 27 = .ok (.goto 14, 3) := by decide +kernel
theorem dX11_view_30 : decode cX11_view 30 = .ok (.aload_n 0, 1) := by decide +kernel
theorem dX11_view_31 : decode cX11_view 31 = .ok (.iload_n 1, 1) := by decide +kernel
theorem dX11_view_32 : decode cX11_view 32 = .ok (.iload_n 2, 1) := by decide +kernel
theorem dX11_view_33 : decode cX11_view 33 = .ok (.invokevirtual 215, 3) := by decide +kernel
theorem dX11_view_36 : decode cX11_view 36 = .ok (.getfield 254, 3) := by decide +kernel
theorem dX11_view_39 : decode cX11_view 39 = .ok (.astore 4, 2) := by decide +kernel
theorem dX11_view_41 : decode cX11_view 41 = .ok (.iload_n 3, 1) := by decide +kernel
theorem dX11_view_42 : decode cX11_view 42 = .ok (.ifCond .lt 8, 3) := by decide +kernel
theorem dX11_view_45 : decode cX11_view 45 = .ok (.iload_n 3, 1) := by decide +kernel
theorem dX11_view_46 : decode cX11_view 46 = .ok (.iconst 4, 1) := by decide +kernel
theorem dX11_view_47 : decode cX11_view 47 = .ok (.if_icmp .lt 14, 3) := by decide +kernel
theorem dX11_view_50 : decode cX11_view 50 = .ok (.new 114, 3) := by decide +kernel
theorem dX11_view_53 : decode cX11_view 53 = .ok (.dup, 1) := by decide +kernel
theorem dX11_view_54 : decode cX11_view 54 = .ok (.ldc_w 257, 3) := by decide +kernel
theorem dX11_view_57 : decode cX11_view 57 = .ok (.invokespecial 118, 3) := by decide +kernel
theorem dX11_view_60 : decode cX11_view 60 = .ok (.athrow, 1) := by decide +kernel
theorem dX11_view_61 : decode cX11_view 61 = .ok (.aload_n 0, 1) := by decide +kernel
theorem dX11_view_62 : decode cX11_view 62 = .ok (.getfield 18, 3) := by decide +kernel
theorem dX11_view_65 : decode cX11_view 65 = .ok (.iload_n 1, 1) := by decide +kernel
theorem dX11_view_66 : decode cX11_view 66 = .ok (.aaload, 1) := by decide +kernel
theorem dX11_view_67 : decode cX11_view 67 = .ok (.getfield 191, 3) := by decide +kernel
theorem dX11_view_70 : decode cX11_view 70 = .ok (.ifCond .eq 10, 3) := by decide +kernel
theorem dX11_view_73 : decode cX11_view 73 = .ok (.aload 4, 2) := by decide +kernel
theorem dX11_view_75 : decode cX11_view 75 = .ok (.iload_n 3, 1) := by decide +kernel
theorem dX11_view_76 : decode cX11_view 76 = .ok (.iaload, 1) := by decide +kernel
theorem dX11_view_77 : decode cX11_view 77 = .ok (.goto 4, 3) := by decide +kernel
theorem dX11_view_80 : decode cX11_view 80 = .ok (.iconst (-1), 1) := by decide +kernel
theorem dX11_view_81 : decode cX11_view 81 = .ok (.ireturn, 1) := by decide +kernel
theorem dX11_document_0 : decode cX11_document 0 = .ok (.aload_n 0, 1) := by decide +kernel
theorem dX11_document_1 : decode cX11_document 1 = .ok (.iload_n 2, 1) := by decide +kernel
theorem dX11_document_2 : decode cX11_document 2 = .ok (.invokevirtual 73, 3) := by decide +kernel
theorem dX11_document_5 : decode cX11_document 5 = .ok (.aload_n 0, 1) := by decide +kernel
theorem dX11_document_6 : decode cX11_document 6 = .ok (.iload_n 1, 1) := by decide +kernel
theorem dX11_document_7 : decode cX11_document 7 = .ok (.aload_n 0, 1) := by decide +kernel
theorem dX11_document_8 : decode cX11_document 8 = .ok (.getfield 12, 3) := by decide +kernel
theorem dX11_document_11 : decode cX11_document 11 = .ok (.iload_n 2, 1) := by decide +kernel
theorem dX11_document_12 : decode cX11_document 12 = .ok (.invokevirtual 259, 3) := by decide +kernel
theorem dX11_document_15 : decode cX11_document 15 = .ok (.invokevirtual 215, 3) := by decide +kernel
theorem dX11_document_18 : decode cX11_document 18 = .ok (.getfield 224, 3) := by decide +kernel
theorem dX11_document_21 : decode cX11_document 21 = .ok (.astore 4, 2) := by decide +kernel
theorem dX11_document_23 : decode cX11_document 23 = .ok (.iload_n 3, 1) := by decide +kernel
theorem dX11_document_24 : decode cX11_document 24 = .ok (.ifCond .lt 8, 3) := by decide +kernel
theorem dX11_document_27 : decode cX11_document 27 = .ok (.iload_n 3, 1) := by decide +kernel
theorem dX11_document_28 : decode cX11_document 28 = .ok (.iconst 2, 1) := by decide +kernel
theorem dX11_document_29 : decode cX11_document 29 = .ok (.if_icmp .le 14, 3) := by decide +kernel
theorem dX11_document_32 : decode cX11_document 32 = .ok (.new 114, 3) := by decide +kernel
theorem dX11_document_35 : decode cX11_document 35 = .ok (.dup, 1) := by decide +kernel
theorem dX11_document_36 : decode cX11_document 36 = .ok (.ldc_w 262, 3) := by decide +kernel
theorem dX11_document_39 : decode cX11_document 39 = .ok (.invokespecial 118, 3) := by decide +kernel
theorem dX11_document_42 : decode cX11_document 42 = .ok (.athrow, 1) := by decide +kernel
theorem dX11_document_43 : decode cX11_document 43 = .ok (.aload_n 0, 1) := by decide +kernel
theorem dX11_document_44 : decode cX11_document 44 = .ok (.getfield 18, 3) := by decide +kernel
theorem dX11_document_47 : decode cX11_document 47 = .ok (.iload_n 1, 1) := by decide +kernel
theorem dX11_document_48 : decode cX11_document 48 = .ok (.aaload, 1) := by decide +kernel
theorem dX11_document_49 : decode cX11_document 49 = .ok (.getfield 191, 3) := by decide +kernel
theorem dX11_document_52 : decode cX11_document 52 = .ok (.ifCond .ne 5, 3) := by decide +kernel
theorem dX11_document_55 : decode cX11_document 55 = .ok (.iconst (-1), 1) := by decide +kernel
theorem dX11_document_56 : decode cX11_document 56 = .ok (.ireturn, 1) := by decide +kernel
theorem dX11_document_57 : decode cX11_document 57 = .ok (.iload_n 3, 1) := by decide +kernel
theorem dX11_document_58 : decode cX11_document 58 = .ok (.iconst 2, 1) := by decide +kernel
theorem dX11_document_59 : decode cX11_document 59 = .ok (.if_icmp .ne 14, 3) := by decide +kernel
theorem dX11_document_62 : decode cX11_document 62 = .ok (.aload 4, 2) := by decide +kernel
theorem dX11_document_64 : decode cX11_document 64 = .ok (.getfield 264, 3) := by decide +kernel
theorem dX11_document_67 : decode cX11_document 67 = .ok (.getfield 268, 3) := by decide +kernel
theorem dX11_document_70 : decode cX11_document 70 = .ok (.iload_n 2, 1) := by decide +kernel
theorem dX11_document_71 : decode cX11_document 71 = .ok (.iaload, 1) := by decide +kernel
theorem dX11_document_72 : decode cX11_document 72 = .ok (.ireturn, 1) := by decide +kernel
theorem dX11_document_73 : decode cX11_document 73 = .ok (.aload 4, 2) := by decide +kernel
theorem dX11_document_75 : decode cX11_document 75 = .ok (.iload_n 2, 1) := by decide +kernel
theorem dX11_document_76 : decode cX11_document 76 = .ok (.iload_n 3, 1) := by decide +kernel
theorem dX11_document_77 : decode cX11_document 77 = .ok (.ifCond .ne 11, 3) := by decide +kernel
theorem dX11_document_80 : decode cX11_document 80 = .ok (.aload 4, 2) := by decide +kernel
theorem dX11_document_82 : decode cX11_document 82 = .ok (.getfield 273, 3) := by decide +kernel
theorem dX11_document_85 : decode cX11_document 85 = .ok (.goto 8, 3) := by decide +kernel
theorem dX11_document_88 : decode cX11_document 88 = .ok (.aload 4, 2) := by decide +kernel
theorem dX11_document_90 : decode cX11_document 90 = .ok (.getfield 276, 3) := by decide +kernel
theorem dX11_document_93 : decode cX11_document 93 = .ok (.invokevirtual 279, 3) := by decide +kernel
theorem dX11_document_96 : decode cX11_document 96 = .ok (.ireturn, 1) := by decide +kernel
theorem dX11_act_0 : decode cX11_act 0 = .ok (.aload_n 0, 1) := by decide +kernel
theorem dX11_act_1 : decode cX11_act 1 = .ok (.iload_n 1, 1) := by decide +kernel
theorem dX11_act_2 : decode cX11_act 2 = .ok (.iload_n 2, 1) := by decide +kernel
theorem dX11_act_3 : decode cX11_act 3 = .ok (.invokevirtual 215, 3) := by decide +kernel
theorem dX11_act_6 : decode cX11_act 6 = .ok (.getfield 224, 3) := by decide +kernel
theorem dX11_act_9 : decode cX11_act 9 = .ok (.astore 4, 2) := by decide +kernel
theorem dX11_act_11 : decode cX11_act 11 = .ok (.aload_n 0, 1) := by decide +kernel
theorem dX11_act_12 : decode cX11_act 12 = .ok (.getfield 18, 3) := by decide +kernel
theorem dX11_act_15 : decode cX11_act 15 = .ok (.iload_n 1, 1) := by decide +kernel
theorem dX11_act_16 : decode cX11_act 16 = .ok (.aaload, 1) := by decide +kernel
theorem dX11_act_17 : decode cX11_act 17 = .ok (.getfield 191, 3) := by decide +kernel
theorem dX11_act_20 : decode cX11_act 20 = .ok (.ifCond .eq 12, 3) := by decide +kernel
theorem dX11_act_23 : decode cX11_act 23 = .ok (.aload 4, 2) := by decide +kernel
theorem dX11_act_25 : decode cX11_act 25 = .ok (.iload_n 3, 1) := by decide +kernel
theorem dX11_act_26 : decode cX11_act 26 = .ok (.invokevirtual 282, 3) := by decide +kernel
theorem dX11_act_29 : decode cX11_act 29 = .ok (.goto 4, 3) := by decide +kernel
theorem dX11_act_32 : decode cX11_act 32 = .ok (.iconst (-1), 1) := by decide +kernel
theorem dX11_act_33 : decode cX11_act 33 = .ok (.ireturn, 1) := by decide +kernel
theorem dX11_disk_0 : decode cX11_disk 0 = .ok (.iload_n 1, 1) := by decide +kernel
theorem dX11_disk_1 : decode cX11_disk 1 = .ok (.aload_n 0, 1) := by decide +kernel
theorem dX11_disk_2 : decode cX11_disk 2 = .ok (.getfield 12, 3) := by decide +kernel
theorem dX11_disk_5 : decode cX11_disk 5 = .ok (.getfield 186, 3) := by decide +kernel
theorem dX11_disk_8 : decode cX11_disk 8 = .ok (.if_icmp .ne 19, 3) := by decide +kernel
theorem dX11_disk_11 : decode cX11_disk 11 = .ok (.iload_n 2, 1) := by decide +kernel
theorem dX11_disk_12 : decode cX11_disk 12 = .ok (.ifCond .ne 15, 3) := by decide +kernel
theorem dX11_disk_15 : decode cX11_disk 15 = .ok (.aload_n 0, 1) := by decide +kernel
theorem dX11_disk_16 : decode cX11_disk 16 = .ok (.getfield 37, 3) := by decide +kernel
theorem dX11_disk_19 : decode cX11_disk 19 = .ok (.getfield 285, 3) := by decide +kernel
theorem dX11_disk_22 : decode cX11_disk 22 = .ok (.astore 5, 2) := by decide +kernel
theorem dX11_disk_24 : decode cX11_disk 24 = .ok (.goto 17, 3) := by decide +kernel
theorem dX11_disk_27 : decode cX11_disk 27 = .ok (.aload_n 0, 1) := by decide +kernel
theorem dX11_disk_28 : decode cX11_disk 28 = .ok (.iload_n 1, 1) := by decide +kernel
theorem dX11_disk_29 : decode cX11_disk 29 = .ok (.iload_n 2, 1) := by decide +kernel
theorem dX11_disk_30 : decode cX11_disk 30 = .ok (.invokevirtual 215, 3) := by decide +kernel
theorem dX11_disk_33 : decode cX11_disk 33 = .ok (.getfield 224, 3) := by decide +kernel
theorem dX11_disk_36 : decode cX11_disk 36 = .ok (.getfield 289, 3) := by decide +kernel
theorem dX11_disk_39 : decode cX11_disk 39 = .ok (.astore 5, 2) := by decide +kernel
theorem dX11_disk_41 : decode cX11_disk 41 = .ok (.iload_n 3, 1) := by decide +kernel
theorem dX11_disk_42 : decode cX11_disk 42 = .ok (.ifCond .lt 22, 3) := by decide +kernel
theorem dX11_disk_45 : decode cX11_disk 45 = .ok (.iload_n 3, 1) := by decide +kernel
theorem dX11_disk_46 : decode cX11_disk 46 = .ok (.sipush 202, 3) := by decide +kernel
theorem dX11_disk_49 : decode cX11_disk 49 = .ok (.if_icmp .ge 15, 3) := by decide +kernel
theorem dX11_disk_52 : decode cX11_disk 52 = .ok (.iload 4, 2) := by decide +kernel
theorem dX11_disk_54 : decode cX11_disk 54 = .ok (.ifCond .lt 10, 3) := by decide +kernel
theorem dX11_disk_57 : decode cX11_disk 57 = .ok (.iload 4, 2) := by decide +kernel
theorem dX11_disk_59 : decode cX11_disk 59 = .ok (.bipush 64, 2) := by decide +kernel
theorem dX11_disk_61 : decode cX11_disk 61 = .ok (.if_icmp .lt 14, 3) := by decide +kernel
theorem dX11_disk_64 : decode cX11_disk 64 = .ok (.new 114, 3) := by decide +kernel
theorem dX11_disk_67 : decode cX11_disk 67 = .ok (.dup, 1) := by decide +kernel
theorem dX11_disk_68 : decode cX11_disk 68 = .ok (.ldc_w 290, 3) := by decide +kernel
theorem dX11_disk_71 : decode cX11_disk 71 = .ok (.invokespecial 118, 3) := by decide +kernel
theorem dX11_disk_74 : decode cX11_disk 74 = .ok (.athrow, 1) := by decide +kernel
theorem dX11_disk_75 : decode cX11_disk 75 = .ok (.aload 5, 2) := by decide +kernel
theorem dX11_disk_77 : decode cX11_disk 77 = .ok (.getfield 292, 3) := by decide +kernel
theorem dX11_disk_80 : decode cX11_disk 80 = .ok (.iload_n 3, 1) := by decide +kernel
theorem dX11_disk_81 : decode cX11_disk 81 = .ok (.bipush 64, 2) := by decide +kernel
theorem dX11_disk_83 : decode cX11_disk 83 = .ok (.imul, 1) := by decide +kernel
theorem dX11_disk_84 : decode cX11_disk 84 = .ok (.iload 4, 2) := by decide +kernel
theorem dX11_disk_86 : decode cX11_disk 86 = .ok (.iadd, 1) := by decide +kernel
theorem dX11_disk_87 : decode cX11_disk 87 = .ok (.baload, 1) := by decide +kernel
theorem dX11_disk_88 : decode cX11_disk 88 = .ok (.sipush 255, 3) := by decide +kernel
theorem dX11_disk_91 : decode cX11_disk 91 = .ok (.iand, 1) := by decide +kernel
theorem dX11_disk_92 : decode cX11_disk 92 = .ok (.ireturn, 1) := by decide +kernel
theorem dX11_segment_0 : decode cX11_segment 0 = .ok (.aload_n 0, 1) := by decide +kernel
theorem dX11_segment_1 : decode cX11_segment 1 = .ok (.iload_n 1, 1) := by decide +kernel
theorem dX11_segment_2 : decode cX11_segment 2 = .ok (.iload_n 2, 1) := by decide +kernel
theorem dX11_segment_3 : decode cX11_segment 3 = .ok (.iload_n 3, 1) := by decide +kernel
theorem dX11_segment_4 : decode cX11_segment 4 = .ok (.invokevirtual 298, 3) := by decide +kernel
theorem dX11_segment_7 : decode cX11_segment 7 = .ok (.astore 5, 2) := by decide +kernel
theorem dX11_segment_9 : decode cX11_segment 9 = .ok (.iload 4, 2) := by decide +kernel
theorem dX11_segment_11 : decode cX11_segment 11 = .ok (.ifCond .lt 9, 3) := by decide +kernel
theorem dX11_segment_14 : decode cX11_segment 14 = .ok (.iload 4, 2) := by decide +kernel
theorem dX11_segment_16 : decode cX11_segment 16 = .ok (.iconst 2, 1) := by decide +kernel
theorem dX11_segment_17 : decode cX11_segment 17 = .ok (.if_icmp .le 14, 3) := by decide +kernel
theorem dX11_segment_20 : decode cX11_segment 20 = .ok (.new 114, 3) := by decide +kernel
theorem dX11_segment_23 : decode cX11_segment 23 = .ok (.dup, 1) := by decide +kernel
theorem dX11_segment_24 : decode cX11_segment 24 = .ok (.ldc_w 302, 3) := by decide +kernel
theorem dX11_segment_27 : decode cX11_segment 27 = .ok (.invokespecial 118, 3) := by decide +kernel
theorem dX11_segment_30 : decode cX11_segment 30 = .ok (.athrow, 1) := by decide +kernel
theorem dX11_segment_31 : decode cX11_segment 31 = .ok (.iload 4, 2) := by decide +kernel
theorem dX11_segment_33 : decode cX11_segment 33 = .ok (.ifCond .ne 11, 3) := by decide +kernel
theorem dX11_segment_36 : decode cX11_segment 36 = .ok (.aload 5, 2) := by decide +kernel
theorem dX11_segment_38 : decode cX11_segment 38 = .ok (.getfield 304, 3) := by decide +kernel
theorem dX11_segment_41 : decode cX11_segment 41 = .ok (.iload_n 3, 1) := by decide +kernel
theorem dX11_segment_42 : decode cX11_segment 42 = .ok (.iaload, 1) := by decide +kernel
theorem dX11_segment_43 : decode cX11_segment 43 = .ok (.ireturn, 1) := by decide +kernel
theorem dX11_segment_44 : decode cX11_segment 44 = .ok (.iload 4, 2) := by decide +kernel
theorem dX11_segment_46 : decode cX11_segment 46 = .ok (.iconst 1, 1) := by decide +kernel
theorem dX11_segment_47 : decode cX11_segment 47 = .ok (.if_icmp .ne 10, 3) := by decide +kernel
theorem dX11_segment_50 : decode cX11_segment 50 = .ok (.aload 5, 2) := by decide +kernel
theorem dX11_segment_52 : decode cX11_segment 52 = .ok (.iload_n 3, 1) := by decide +kernel
theorem dX11_segment_53 : decode cX11_segment 53 = .ok (.invokevirtual 307, 3) := by decide +kernel
theorem dX11_segment_56 : decode cX11_segment 56 = .ok (.ireturn, 1) := by decide +kernel
theorem dX11_segment_57 : decode cX11_segment 57 = .ok (.aload_n 0, 1) := by decide +kernel
theorem dX11_segment_58 : decode cX11_segment 58 = .ok (.getfield 44, 3) := by decide +kernel
theorem dX11_segment_61 : decode cX11_segment 61 = .ok (.aload_n 0, 1) := by decide +kernel
theorem dX11_segment_62 : decode cX11_segment 62 = .ok (.getfield 12, 3) := by decide +kernel
theorem dX11_segment_65 : decode cX11_segment 65 = .ok (.aload 5, 2) := by decide +kernel
theorem dX11_segment_67 : decode cX11_segment 67 = .ok (.iload_n 3, 1) := by decide +kernel
theorem dX11_segment_68 : decode cX11_segment 68 = .ok (.invokevirtual 310, 3) := by decide +kernel
theorem dX11_segment_71 : decode cX11_segment 71 = .ok (.aload_n 0, 1) := by decide +kernel
theorem dX11_segment_72 : decode cX11_segment 72 = .ok (.getfield 44, 3) := by decide +kernel
theorem dX11_segment_75 : decode cX11_segment 75 = .ok (.getfield 314, 3) := by decide +kernel
theorem dX11_segment_78 : decode cX11_segment 78 = .ok (.ireturn, 1) := by decide +kernel
theorem dX11_octet_0 : decode cX11_octet 0 = .ok (.aload_n 0, 1) := by decide +kernel
theorem dX11_octet_1 : decode cX11_octet 1 = .ok (.iload_n 1, 1) := by decide +kernel
theorem dX11_octet_2 : decode cX11_octet 2 = .ok (.iload_n 2, 1) := by decide +kernel
theorem dX11_octet_3 : decode cX11_octet 3 = .ok (.iload_n 3, 1) := by decide +kernel
theorem dX11_octet_4 : decode cX11_octet 4 = .ok (.invokevirtual 298, 3) := by decide +kernel
theorem dX11_octet_7 : decode cX11_octet 7 = .ok (.astore 5, 2) := by decide +kernel
theorem dX11_octet_9 : decode cX11_octet 9 = .ok (.aload_n 0, 1) := by decide +kernel
theorem dX11_octet_10 : decode cX11_octet 10 = .ok (.getfield 44, 3) := by decide +kernel
theorem dX11_octet_13 : decode cX11_octet 13 = .ok (.aload_n 0, 1) := by decide +kernel
theorem dX11_octet_14 : decode cX11_octet 14 = .ok (.getfield 12, 3) := by decide +kernel
theorem dX11_octet_17 : decode cX11_octet 17 = .ok (.aload 5, 2) := by decide +kernel
theorem dX11_octet_19 : decode cX11_octet 19 = .ok (.iload_n 3, 1) := by decide +kernel
theorem dX11_octet_20 : decode cX11_octet 20 = .ok (.invokevirtual 310, 3) := by decide +kernel
theorem dX11_octet_23 : decode cX11_octet 23 = .ok (.iload 4, 2) := by decide +kernel
theorem dX11_octet_25 : decode cX11_octet 25 = .ok (.ifCond .lt 15, 3) := by decide +kernel
theorem dX11_octet_28 : decode cX11_octet 28 = .ok (.iload 4, 2) := by decide +kernel
theorem dX11_octet_30 : decode cX11_octet 30 = .ok (.aload_n 0, 1) := by decide +kernel
theorem dX11_octet_31 : decode cX11_octet 31 = .ok (.getfield 44, 3) := by decide +kernel
theorem dX11_octet_34 : decode cX11_octet 34 = .ok (.getfield 314, 3) := by decide +kernel
theorem dX11_octet_37 : decode cX11_octet 37 = .ok (.if_icmp .lt 14, 3) := by decide +kernel
theorem dX11_octet_40 : decode cX11_octet 40 = .ok (.new 114, 3) := by decide +kernel
theorem dX11_octet_43 : decode cX11_octet 43 = .ok (.dup, 1) := by decide +kernel
theorem dX11_octet_44 : decode cX11_octet 44 = .ok (.ldc_w 290, 3) := by decide +kernel
theorem dX11_octet_47 : decode cX11_octet 47 = .ok (.invokespecial 118, 3) := by decide +kernel
theorem dX11_octet_50 : decode cX11_octet 50 = .ok (.athrow, 1) := by decide +kernel
theorem dX11_octet_51 : decode cX11_octet 51 = .ok (.aload_n 0, 1) := by decide +kernel
theorem dX11_octet_52 : decode cX11_octet 52 = .ok (.getfield 44, 3) := by decide +kernel
theorem dX11_octet_55 : decode cX11_octet 55 = .ok (.getfield 317, 3) := by decide +kernel
theorem dX11_octet_58 : decode cX11_octet 58 = .ok (.iload 4, 2) := by decide +kernel
theorem dX11_octet_60 : decode cX11_octet 60 = .ok (.baload, 1) := by decide +kernel
theorem dX11_octet_61 : decode cX11_octet 61 = .ok (.sipush 255, 3) := by decide +kernel
theorem dX11_octet_64 : decode cX11_octet 64 = .ok (.iand, 1) := by decide +kernel
theorem dX11_octet_65 : decode cX11_octet 65 = .ok (.ireturn, 1) := by decide +kernel
theorem dX11_told_0 : decode cX11_told 0 = .ok (.iload_n 1, 1) := by decide +kernel
theorem dX11_told_1 : decode cX11_told 1 = .ok (.tableswitch 96 0 6 #[43, 51, 59, 67, 75, 83, 91], 43) := by decide +kernel
theorem dX11_told_44 : decode cX11_told 44 = .ok (.aload_n 0, 1) := by decide +kernel
theorem dX11_told_45 : decode cX11_told 45 = .ok (.getfield 12, 3) := by decide +kernel
theorem dX11_told_48 : decode cX11_told 48 = .ok (.getfield 178, 3) := by decide +kernel
theorem dX11_told_51 : decode cX11_told 51 = .ok (.ireturn, 1) := by decide +kernel
theorem dX11_told_52 : decode cX11_told 52 = .ok (.aload_n 0, 1) := by decide +kernel
theorem dX11_told_53 : decode cX11_told 53 = .ok (.getfield 12, 3) := by decide +kernel
theorem dX11_told_56 : decode cX11_told 56 = .ok (.getfield 318, 3) := by decide +kernel
theorem dX11_told_59 : decode cX11_told 59 = .ok (.ireturn, 1) := by decide +kernel
theorem dX11_told_60 : decode cX11_told 60 = .ok (.aload_n 0, 1) := by decide +kernel
theorem dX11_told_61 : decode cX11_told 61 = .ok (.getfield 12, 3) := by decide +kernel
theorem dX11_told_64 : decode cX11_told 64 = .ok (.invokevirtual 321, 3) := by decide +kernel
theorem dX11_told_67 : decode cX11_told 67 = .ok (.ireturn, 1) := by decide +kernel
theorem dX11_told_68 : decode cX11_told 68 = .ok (.aload_n 0, 1) := by decide +kernel
theorem dX11_told_69 : decode cX11_told 69 = .ok (.getfield 12, 3) := by decide +kernel
theorem dX11_told_72 : decode cX11_told 72 = .ok (.getfield 183, 3) := by decide +kernel
theorem dX11_told_75 : decode cX11_told 75 = .ok (.ireturn, 1) := by decide +kernel
theorem dX11_told_76 : decode cX11_told 76 = .ok (.aload_n 0, 1) := by decide +kernel
theorem dX11_told_77 : decode cX11_told 77 = .ok (.getfield 12, 3) := by decide +kernel
theorem dX11_told_80 : decode cX11_told 80 = .ok (.getfield 324, 3) := by decide +kernel
theorem dX11_told_83 : decode cX11_told 83 = .ok (.ireturn, 1) := by decide +kernel
theorem dX11_told_84 : decode cX11_told 84 = .ok (.aload_n 0, 1) := by decide +kernel
theorem dX11_told_85 : decode cX11_told 85 = .ok (.getfield 12, 3) := by decide +kernel
theorem dX11_told_88 : decode cX11_told 88 = .ok (.getfield 327, 3) := by decide +kernel
theorem dX11_told_91 : decode cX11_told 91 = .ok (.ireturn, 1) := by decide +kernel
theorem dX11_told_92 : decode cX11_told 92 = .ok (.aload_n 0, 1) := by decide +kernel
theorem dX11_told_93 : decode cX11_told 93 = .ok (.invokevirtual 330, 3) := by decide +kernel
theorem dX11_told_96 : decode cX11_told 96 = .ok (.ireturn, 1) := by decide +kernel
theorem dX11_told_97 : decode cX11_told 97 = .ok (.new 114, 3) := by decide +kernel
theorem dX11_told_100 : decode cX11_told 100 = .ok (.dup, 1) := by decide +kernel
theorem dX11_told_101 : decode cX11_told 101 = .ok (.ldc_w 333, 3) := by decide +kernel
theorem dX11_told_104 : decode cX11_told 104 = .ok (.invokespecial 118, 3) := by decide +kernel
theorem dX11_told_107 : decode cX11_told 107 = .ok (.athrow, 1) := by decide +kernel
theorem dX11_requireNode_0 : decode cX11_requireNode 0 = .ok (.iload_n 1, 1) := by decide +kernel
theorem dX11_requireNode_1 : decode cX11_requireNode 1 = .ok (.ifCond .lt 14, 3) := by decide +kernel
theorem dX11_requireNode_4 : decode cX11_requireNode 4 = .ok (.iload_n 1, 1) := by decide +kernel
theorem dX11_requireNode_5 : decode cX11_requireNode 5 = .ok (.aload_n 0, 1) := by decide +kernel
theorem dX11_requireNode_6 : decode cX11_requireNode 6 = .ok (.getfield 12, 3) := by decide +kernel
theorem dX11_requireNode_9 : decode cX11_requireNode 9 = .ok (.getfield 186, 3) := by decide +kernel
theorem dX11_requireNode_12 : decode cX11_requireNode 12 = .ok (.if_icmp .le 14, 3) := by decide +kernel
theorem dX11_requireNode_15 : decode cX11_requireNode 15 = .ok (.new 114, 3) := by decide +kernel
theorem dX11_requireNode_18 : decode cX11_requireNode 18 = .ok (.dup, 1) := by decide +kernel
theorem dX11_requireNode_19 : decode cX11_requireNode 19 = .ok (.ldc_w 335, 3) := by decide +kernel
theorem dX11_requireNode_22 : decode cX11_requireNode 22 = .ok (.invokespecial 118, 3) := by decide +kernel
theorem dX11_requireNode_25 : decode cX11_requireNode 25 = .ok (.athrow, 1) := by decide +kernel
theorem dX11_requireNode_26 : decode cX11_requireNode 26 = .ok (.return_, 1) := by decide +kernel
theorem dX11_requireHost_0 : decode cX11_requireHost 0 = .ok (.iload_n 1, 1) := by decide +kernel
theorem dX11_requireHost_1 : decode cX11_requireHost 1 = .ok (.ifCond .lt 14, 3) := by decide +kernel
theorem dX11_requireHost_4 : decode cX11_requireHost 4 = .ok (.iload_n 1, 1) := by decide +kernel
theorem dX11_requireHost_5 : decode cX11_requireHost 5 = .ok (.aload_n 0, 1) := by decide +kernel
theorem dX11_requireHost_6 : decode cX11_requireHost 6 = .ok (.getfield 12, 3) := by decide +kernel
theorem dX11_requireHost_9 : decode cX11_requireHost 9 = .ok (.getfield 186, 3) := by decide +kernel
theorem dX11_requireHost_12 : decode cX11_requireHost 12 = .ok (.if_icmp .lt 14, 3) := by decide +kernel
theorem dX11_requireHost_15 : decode cX11_requireHost 15 = .ok (.new 114, 3) := by decide +kernel
theorem dX11_requireHost_18 : decode cX11_requireHost 18 = .ok (.dup, 1) := by decide +kernel
theorem dX11_requireHost_19 : decode cX11_requireHost 19 = .ok (.ldc_w 335, 3) := by decide +kernel
theorem dX11_requireHost_22 : decode cX11_requireHost 22 = .ok (.invokespecial 118, 3) := by decide +kernel
theorem dX11_requireHost_25 : decode cX11_requireHost 25 = .ok (.athrow, 1) := by decide +kernel
theorem dX11_requireHost_26 : decode cX11_requireHost 26 = .ok (.return_, 1) := by decide +kernel
theorem dX11_requireShard_0 : decode cX11_requireShard 0 = .ok (.iload_n 1, 1) := by decide +kernel
theorem dX11_requireShard_1 : decode cX11_requireShard 1 = .ok (.ifCond .lt 14, 3) := by decide +kernel
theorem dX11_requireShard_4 : decode cX11_requireShard 4 = .ok (.iload_n 1, 1) := by decide +kernel
theorem dX11_requireShard_5 : decode cX11_requireShard 5 = .ok (.aload_n 0, 1) := by decide +kernel
theorem dX11_requireShard_6 : decode cX11_requireShard 6 = .ok (.getfield 12, 3) := by decide +kernel
theorem dX11_requireShard_9 : decode cX11_requireShard 9 = .ok (.getfield 337, 3) := by decide +kernel
theorem dX11_requireShard_12 : decode cX11_requireShard 12 = .ok (.if_icmp .lt 14, 3) := by decide +kernel
theorem dX11_requireShard_15 : decode cX11_requireShard 15 = .ok (.new 114, 3) := by decide +kernel
theorem dX11_requireShard_18 : decode cX11_requireShard 18 = .ok (.dup, 1) := by decide +kernel
theorem dX11_requireShard_19 : decode cX11_requireShard 19 = .ok (.ldc_w 340, 3) := by decide +kernel
theorem dX11_requireShard_22 : decode cX11_requireShard 22 = .ok (.invokespecial 118, 3) := by decide +kernel
theorem dX11_requireShard_25 : decode cX11_requireShard 25 = .ok (.athrow, 1) := by decide +kernel
theorem dX11_requireShard_26 : decode cX11_requireShard 26 = .ok (.return_, 1) := by decide +kernel
theorem dX11_requireDocument_0 : decode cX11_requireDocument 0 = .ok (.iload_n 1, 1) := by decide +kernel
theorem dX11_requireDocument_1 : decode cX11_requireDocument 1 = .ok (.ifCond .lt 9, 3) := by decide +kernel
theorem dX11_requireDocument_4 : decode cX11_requireDocument 4 = .ok (.iload_n 1, 1) := by decide +kernel
theorem dX11_requireDocument_5 : decode cX11_requireDocument 5 = .ok (.bipush 100, 2) := by decide +kernel
theorem dX11_requireDocument_7 : decode cX11_requireDocument 7 = .ok (.if_icmp .lt 14, 3) := by decide +kernel
theorem dX11_requireDocument_10 : decode cX11_requireDocument 10 = .ok (.new 114, 3) := by decide +kernel
theorem dX11_requireDocument_13 : decode cX11_requireDocument 13 = .ok (.dup, 1) := by decide +kernel
theorem dX11_requireDocument_14 : decode cX11_requireDocument 14 = .ok (.ldc_w 342, 3) := by decide +kernel
theorem dX11_requireDocument_17 : decode cX11_requireDocument 17 = .ok (.invokespecial 118, 3) := by decide +kernel
theorem dX11_requireDocument_20 : decode cX11_requireDocument 20 = .ok (.athrow, 1) := by decide +kernel
theorem dX11_requireDocument_21 : decode cX11_requireDocument 21 = .ok (.return_, 1) := by decide +kernel
theorem dX11_requireLink_0 : decode cX11_requireLink 0 = .ok (.aload_n 0, 1) := by decide +kernel
theorem dX11_requireLink_1 : decode cX11_requireLink 1 = .ok (.getfield 12, 3) := by decide +kernel
theorem dX11_requireLink_4 : decode cX11_requireLink 4 = .ok (.iload_n 1, 1) := by decide +kernel
theorem dX11_requireLink_5 : decode cX11_requireLink 5 = .ok (.iload_n 2, 1) := by decide +kernel
theorem dX11_requireLink_6 : decode cX11_requireLink 6 = .ok (.invokevirtual 152, 3) := by decide +kernel
theorem dX11_requireLink_9 : decode cX11_requireLink 9 = .ok (.iconst (-1), 1) := by decide +kernel
theorem dX11_requireLink_10 : decode cX11_requireLink 10 = .ok (.if_icmp .ne 14, 3) := by decide +kernel
theorem dX11_requireLink_13 : decode cX11_requireLink 13 = .ok (.new 114, 3) := by decide +kernel
theorem dX11_requireLink_16 : decode cX11_requireLink 16 = .ok (.dup, 1) := by decide +kernel
theorem dX11_requireLink_17 : decode cX11_requireLink 17 = .ok (.ldc_w 344, 3) := by decide +kernel
theorem dX11_requireLink_20 : decode cX11_requireLink 20 = .ok (.invokespecial 118, 3) := by decide +kernel
theorem dX11_requireLink_23 : decode cX11_requireLink 23 = .ok (.athrow, 1) := by decide +kernel
theorem dX11_requireLink_24 : decode cX11_requireLink 24 = .ok (.return_, 1) := by decide +kernel
theorem dX11_requireReady_0 : decode cX11_requireReady 0 = .ok (.aload_n 0, 1) := by decide +kernel
theorem dX11_requireReady_1 : decode cX11_requireReady 1 = .ok (.getfield 18, 3) := by decide +kernel
theorem dX11_requireReady_4 : decode cX11_requireReady 4 = .ok (.iload_n 1, 1) := by decide +kernel
theorem dX11_requireReady_5 : decode cX11_requireReady 5 = .ok (.aaload, 1) := by decide +kernel
theorem dX11_requireReady_6 : decode cX11_requireReady 6 = .ok (.getfield 191, 3) := by decide +kernel
theorem dX11_requireReady_9 : decode cX11_requireReady 9 = .ok (.ifCond .eq 16, 3) := by decide +kernel
theorem dX11_requireReady_12 : decode cX11_requireReady 12 = .ok (.aload_n 0, 1) := by decide +kernel
theorem dX11_requireReady_13 : decode cX11_requireReady 13 = .ok (.getfield 12, 3) := by decide +kernel
theorem dX11_requireReady_16 : decode cX11_requireReady 16 = .ok (.getfield 318, 3) := by decide +kernel
theorem dX11_requireReady_19 : decode cX11_requireReady 19 = .ok (.sipush 500, 3) := by decide +kernel
theorem dX11_requireReady_22 : decode cX11_requireReady 22 = .ok (.if_icmp .lt 14, 3) := by decide +kernel
theorem dX11_requireReady_25 : decode cX11_requireReady 25 = .ok (.new 199, 3) := by decide +kernel
theorem dX11_requireReady_28 : decode cX11_requireReady 28 = .ok (.dup, 1) := by decide +kernel
theorem dX11_requireReady_29 : decode cX11_requireReady 29 = .ok (.ldc_w 346, 3) := by decide +kernel
theorem dX11_requireReady_32 : decode cX11_requireReady 32 = .ok (.invokespecial 203, 3) := by decide +kernel
theorem dX11_requireReady_35 : decode cX11_requireReady 35 = .ok (.athrow, 1) := by decide +kernel
theorem dX11_requireReady_36 : decode cX11_requireReady 36 = .ok (.return_, 1) := by decide +kernel
theorem dX11_requireReplica_0 : decode cX11_requireReplica 0 = .ok (.iload_n 1, 1) := by decide +kernel
theorem dX11_requireReplica_1 : decode cX11_requireReplica 1 = .ok (.ifCond .lt 14, 3) := by decide +kernel
theorem dX11_requireReplica_4 : decode cX11_requireReplica 4 = .ok (.iload_n 1, 1) := by decide +kernel
theorem dX11_requireReplica_5 : decode cX11_requireReplica 5 = .ok (.aload_n 0, 1) := by decide +kernel
theorem dX11_requireReplica_6 : decode cX11_requireReplica 6 = .ok (.getfield 12, 3) := by decide +kernel
theorem dX11_requireReplica_9 : decode cX11_requireReplica 9 = .ok (.getfield 186, 3) := by decide +kernel
theorem dX11_requireReplica_12 : decode cX11_requireReplica 12 = .ok (.if_icmp .lt 7, 3) := by decide +kernel
theorem dX11_requireReplica_15 : decode cX11_requireReplica 15 = .ok (.aconst_null, 1) := by decide +kernel
theorem dX11_requireReplica_16 : decode cX11_requireReplica 16 = .ok (.goto 13, 3) := by decide +kernel
theorem dX11_requireReplica_19 : decode cX11_requireReplica 19 = .ok (.aload_n 0, 1) := by decide +kernel
theorem dX11_requireReplica_20 : decode cX11_requireReplica 20 = .ok (.getfield 18, 3) := by decide +kernel
theorem dX11_requireReplica_23 : decode cX11_requireReplica 23 = .ok (.iload_n 1, 1) := by decide +kernel
theorem dX11_requireReplica_24 : decode cX11_requireReplica 24 = .ok (.aaload, 1) := by decide +kernel
theorem dX11_requireReplica_25 : decode cX11_requireReplica 25 = .ok (.iload_n 2, 1) := by decide +kernel
theorem dX11_requireReplica_26 : decode cX11_requireReplica 26 = .ok (.invokevirtual 348, 3) := by decide +kernel
theorem dX11_requireReplica_29 : decode cX11_requireReplica 29 = .ok (.astore_n 3, 1) := by decide +kernel
theorem dX11_requireReplica_30 : decode cX11_requireReplica 30 = .ok (.aload_n 3, 1) := by decide +kernel
theorem dX11_requireReplica_31 : decode cX11_requireReplica 31 = .ok (.ifnonnull 14, 3) := by decide +kernel
theorem dX11_requireReplica_34 : decode cX11_requireReplica 34 = .ok (.new 114, 3) := by decide +kernel
theorem dX11_requireReplica_37 : decode cX11_requireReplica 37 = .ok (.dup, 1) := by decide +kernel
theorem dX11_requireReplica_38 : decode cX11_requireReplica 38 = .ok (.ldc_w 352, 3) := by decide +kernel
theorem dX11_requireReplica_41 : decode cX11_requireReplica 41 = .ok (.invokespecial 118, 3) := by decide +kernel
theorem dX11_requireReplica_44 : decode cX11_requireReplica 44 = .ok (.athrow, 1) := by decide +kernel
theorem dX11_requireReplica_45 : decode cX11_requireReplica 45 = .ok (.aload_n 3, 1) := by decide +kernel
theorem dX11_requireReplica_46 : decode cX11_requireReplica 46 = .ok (.areturn, 1) := by decide +kernel
theorem dX11_requireSegment_0 : decode cX11_requireSegment 0 = .ok (.aload_n 0, 1) := by decide +kernel
theorem dX11_requireSegment_1 : decode cX11_requireSegment 1 = .ok (.iload_n 1, 1) := by decide +kernel
theorem dX11_requireSegment_2 : decode cX11_requireSegment 2 = .ok (.iload_n 2, 1) := by decide +kernel
theorem dX11_requireSegment_3 : decode cX11_requireSegment 3 = .ok (.invokevirtual 215, 3) := by decide +kernel
theorem dX11_requireSegment_6 : decode cX11_requireSegment 6 = .ok (.getfield 224, 3) := by decide +kernel
theorem dX11_requireSegment_9 : decode cX11_requireSegment 9 = .ok (.getfield 264, 3) := by decide +kernel
theorem dX11_requireSegment_12 : decode cX11_requireSegment 12 = .ok (.astore 4, 2) := by decide +kernel
theorem dX11_requireSegment_14 : decode cX11_requireSegment 14 = .ok (.aload_n 0, 1) := by decide +kernel
theorem dX11_requireSegment_15 : decode cX11_requireSegment 15 = .ok (.getfield 18, 3) := by decide +kernel
theorem dX11_requireSegment_18 : decode cX11_requireSegment 18 = .ok (.iload_n 1, 1) := by decide +kernel
theorem dX11_requireSegment_19 : decode cX11_requireSegment 19 = .ok (.aaload, 1) := by decide +kernel
theorem dX11_requireSegment_20 : decode cX11_requireSegment 20 = .ok (.getfield 191, 3) := by decide +kernel
theorem dX11_requireSegment_23 : decode cX11_requireSegment 23 = .ok (.ifCond .eq 16, 3) := by decide +kernel
theorem dX11_requireSegment_26 : decode cX11_requireSegment 26 = .ok (.iload_n 3, 1) := by decide +kernel
theorem dX11_requireSegment_27 : decode cX11_requireSegment 27 = .ok (.ifCond .lt 12, 3) := by decide +kernel
theorem dX11_requireSegment_30 : decode cX11_requireSegment 30 = .ok (.iload_n 3, 1) := by decide +kernel
theorem dX11_requireSegment_31 : decode cX11_requireSegment 31 = .ok (.aload 4, 2) := by decide +kernel
theorem dX11_requireSegment_33 : decode cX11_requireSegment 33 = .ok (.getfield 354, 3) := by decide +kernel
theorem dX11_requireSegment_36 : decode cX11_requireSegment 36 = .ok (.if_icmp .lt 14, 3) := by decide +kernel
theorem dX11_requireSegment_39 : decode cX11_requireSegment 39 = .ok (.new 114, 3) := by decide +kernel
theorem dX11_requireSegment_42 : decode cX11_requireSegment 42 = .ok (.dup, 1) := by decide +kernel
theorem dX11_requireSegment_43 : decode cX11_requireSegment 43 = .ok (.ldc_w 357, 3) := by decide +kernel
theorem dX11_requireSegment_46 : decode cX11_requireSegment 46 = .ok (.invokespecial 118, 3) := by decide +kernel
theorem dX11_requireSegment_49 : decode cX11_requireSegment 49 = .ok (.athrow, 1) := by decide +kernel
theorem dX11_requireSegment_50 : decode cX11_requireSegment 50 = .ok (.aload 4, 2) := by decide +kernel
theorem dX11_requireSegment_52 : decode cX11_requireSegment 52 = .ok (.areturn, 1) := by decide +kernel
theorem dX11_draftIsText_0 : decode cX11_draftIsText 0 = .ok (.aload_n 0, 1) := by decide +kernel
theorem dX11_draftIsText_1 : decode cX11_draftIsText 1 = .ok (.getfield 52, 3) := by decide +kernel
theorem dX11_draftIsText_4 : decode cX11_draftIsText 4 = .ok (.bipush 40, 2) := by decide +kernel
theorem dX11_draftIsText_6 : decode cX11_draftIsText 6 = .ok (.if_icmp .le 5, 3) := by decide +kernel
theorem dX11_draftIsText_9 : decode cX11_draftIsText 9 = .ok (.iconst 0, 1) := by decide +kernel
theorem dX11_draftIsText_10 : decode cX11_draftIsText 10 = .ok (.ireturn, 1) := by decide +kernel
theorem dX11_draftIsText_11 : decode cX11_draftIsText 11 = .ok (.iconst 0, 1) := by decide +kernel
theorem dX11_draftIsText_12 : decode cX11_draftIsText 12 = .ok (.istore_n 1, 1) := by decide +kernel
theorem dX11_draftIsText_13 : decode cX11_draftIsText 13 = .ok (.iload_n 1, 1) := by decide +kernel
theorem dX11_draftIsText_14 : decode cX11_draftIsText 14 = .ok (.aload_n 0, 1) := by decide +kernel
theorem dX11_draftIsText_15 : decode cX11_draftIsText 15 = .ok (.getfield 52, 3) := by decide +kernel
theorem dX11_draftIsText_18 : decode cX11_draftIsText 18 = .ok (.if_icmp .ge 33, 3) := by decide +kernel
theorem dX11_draftIsText_21 : decode cX11_draftIsText 21 = .ok (.aload_n 0, 1) := by decide +kernel
theorem dX11_draftIsText_22 : decode cX11_draftIsText 22 = .ok (.getfield 48, 3) := by decide +kernel
theorem dX11_draftIsText_25 : decode cX11_draftIsText 25 = .ok (.iload_n 1, 1) := by decide +kernel
theorem dX11_draftIsText_26 : decode cX11_draftIsText 26 = .ok (.iaload, 1) := by decide +kernel
theorem dX11_draftIsText_27 : decode cX11_draftIsText 27 = .ok (.bipush 32, 2) := by decide +kernel
theorem dX11_draftIsText_29 : decode cX11_draftIsText 29 = .ok (.if_icmp .lt 14, 3) := by decide +kernel
theorem dX11_draftIsText_32 : decode cX11_draftIsText 32 = .ok (.aload_n 0, 1) := by decide +kernel
theorem dX11_draftIsText_33 : decode cX11_draftIsText 33 = .ok (.getfield 48, 3) := by decide +kernel
theorem dX11_draftIsText_36 : decode cX11_draftIsText 36 = .ok (.iload_n 1, 1) := by decide +kernel
theorem dX11_draftIsText_37 : decode cX11_draftIsText 37 = .ok (.iaload, 1) := by decide +kernel
theorem dX11_draftIsText_38 : decode cX11_draftIsText 38 = .ok (.bipush 126, 2) := by decide +kernel
theorem dX11_draftIsText_40 : decode cX11_draftIsText 40 = .ok (.if_icmp .le 5, 3) := by decide +kernel
theorem dX11_draftIsText_43 : decode cX11_draftIsText 43 = .ok (.iconst 0, 1) := by decide +kernel
theorem dX11_draftIsText_44 : decode cX11_draftIsText 44 = .ok (.ireturn, 1) := by decide +kernel
theorem dX11_draftIsText_45 : decode cX11_draftIsText 45 = .ok (.iinc 1 1, 3) := by decide +kernel
theorem dX11_draftIsText_48 : decode cX11_draftIsText 48 = .ok (.goto (-35), 3) := by decide +kernel
theorem dX11_draftIsText_51 : decode cX11_draftIsText 51 = .ok (.iconst 1, 1) := by decide +kernel
theorem dX11_draftIsText_52 : decode cX11_draftIsText 52 = .ok (.ireturn, 1) := by decide +kernel
theorem dX11_begin_0 : decode cX11_begin 0 = .ok (.aload_n 0, 1) := by decide +kernel
theorem dX11_begin_1 : decode cX11_begin 1 = .ok (.getfield 12, 3) := by decide +kernel
theorem dX11_begin_4 : decode cX11_begin 4 = .ok (.iload_n 1, 1) := by decide +kernel
theorem dX11_begin_5 : decode cX11_begin 5 = .ok (.iload_n 2, 1) := by decide +kernel
theorem dX11_begin_6 : decode cX11_begin 6 = .ok (.iload_n 3, 1) := by decide +kernel
theorem dX11_begin_7 : decode cX11_begin 7 = .ok (.invokevirtual 359, 3) := by decide +kernel
theorem dX11_begin_10 : decode cX11_begin 10 = .ok (.iconst 0, 1) := by decide +kernel
theorem dX11_begin_11 : decode cX11_begin 11 = .ok (.istore 4, 2) := by decide +kernel
theorem dX11_begin_13 : decode cX11_begin 13 = .ok (.iload 4, 2) := by decide +kernel
theorem dX11_begin_15 : decode cX11_begin 15 = .ok (.bipush 6, 2) := by decide +kernel
theorem dX11_begin_17 : decode cX11_begin 17 = .ok (.if_icmp .ge 19, 3) := by decide +kernel
theorem dX11_begin_20 : decode cX11_begin 20 = .ok (.aload_n 0, 1) := by decide +kernel
theorem dX11_begin_21 : decode cX11_begin 21 = .ok (.getfield 18, 3) := by decide +kernel
theorem dX11_begin_24 : decode cX11_begin 24 = .ok (.iload 4, 2) := by decide +kernel
theorem dX11_begin_26 : decode cX11_begin 26 = .ok (.aaload, 1) := by decide +kernel
theorem dX11_begin_27 : decode cX11_begin 27 = .ok (.invokevirtual 360, 3) := by decide +kernel
theorem dX11_begin_30 : decode cX11_begin 30 = .ok (.iinc 4 1, 3) := by decide +kernel
theorem dX11_begin_33 : decode cX11_begin 33 = .ok (.goto (-20), 3) := by decide +kernel
theorem dX11_begin_36 : decode cX11_begin 36 = .ok (.iconst 0, 1) := by decide +kernel
theorem dX11_begin_37 : decode cX11_begin 37 = .ok (.istore 4, 2) := by decide +kernel
theorem dX11_begin_39 : decode cX11_begin 39 = .ok (.iload 4, 2) := by decide +kernel
theorem dX11_begin_41 : decode cX11_begin 41 = .ok (.iload_n 2, 1) := by decide +kernel
theorem dX11_begin_42 : decode cX11_begin 42 = .ok (.if_icmp .ge 71, 3) := by decide +kernel
theorem dX11_begin_45 : decode cX11_begin 45 = .ok (.iconst 0, 1) := by decide +kernel
theorem dX11_begin_46 : decode cX11_begin 46 = .ok (.istore 5, 2) := by decide +kernel
theorem dX11_begin_48 : decode cX11_begin 48 = .ok (.iload 5, 2) := by decide +kernel
theorem dX11_begin_50 : decode cX11_begin 50 = .ok (.iload_n 3, 1) := by decide +kernel
theorem dX11_begin_51 : decode cX11_begin 51 = .ok (.if_icmp .ge 56, 3) := by decide +kernel
theorem dX11_begin_54 : decode cX11_begin 54 = .ok (.aload_n 0, 1) := by decide +kernel
theorem dX11_begin_55 : decode cX11_begin 55 = .ok (.getfield 18, 3) := by decide +kernel
theorem dX11_begin_58 : decode cX11_begin 58 = .ok (.iload 4, 2) := by decide +kernel
theorem dX11_begin_60 : decode cX11_begin 60 = .ok (.iload 5, 2) := by decide +kernel
theorem dX11_begin_62 : decode cX11_begin 62 = .ok (.iadd, 1) := by decide +kernel
theorem dX11_begin_63 : decode cX11_begin 63 = .ok (.iload_n 1, 1) := by decide +kernel
theorem dX11_begin_64 : decode cX11_begin 64 = .ok (.irem, 1) := by decide +kernel
theorem dX11_begin_65 : decode cX11_begin 65 = .ok (.aaload, 1) := by decide +kernel
theorem dX11_begin_66 : decode cX11_begin 66 = .ok (.astore 6, 2) := by decide +kernel
theorem dX11_begin_68 : decode cX11_begin 68 = .ok (.aload_n 0, 1) := by decide +kernel
theorem dX11_begin_69 : decode cX11_begin 69 = .ok (.getfield 27, 3) := by decide +kernel
theorem dX11_begin_72 : decode cX11_begin 72 = .ok (.iload 4, 2) := by decide +kernel
theorem dX11_begin_74 : decode cX11_begin 74 = .ok (.iconst 3, 1) := by decide +kernel
theorem dX11_begin_75 : decode cX11_begin 75 = .ok (.imul, 1) := by decide +kernel
theorem dX11_begin_76 : decode cX11_begin 76 = .ok (.iload 5, 2) := by decide +kernel
theorem dX11_begin_78 : decode cX11_begin 78 = .ok (.iadd, 1) := by decide +kernel
theorem dX11_begin_79 : decode cX11_begin 79 = .ok (.aaload, 1) := by decide +kernel
theorem dX11_begin_80 : decode cX11_begin 80 = .ok (.astore 7, 2) := by decide +kernel
theorem dX11_begin_82 : decode cX11_begin 82 = .ok (.aload 6, 2) := by decide +kernel
theorem dX11_begin_84 : decode cX11_begin 84 = .ok (.getfield 362, 3) := by decide +kernel
theorem dX11_begin_87 : decode cX11_begin 87 = .ok (.iload 4, 2) := by decide +kernel
theorem dX11_begin_89 : decode cX11_begin 89 = .ok (.aload 7, 2) := by decide +kernel
theorem dX11_begin_91 : decode cX11_begin 91 = .ok (.aastore, 1) := by decide +kernel
theorem dX11_begin_92 : decode cX11_begin 92 = .ok (.aload 7, 2) := by decide +kernel
theorem dX11_begin_94 : decode cX11_begin 94 = .ok (.aload 6, 2) := by decide +kernel
theorem dX11_begin_96 : decode cX11_begin 96 = .ok (.iload 4, 2) := by decide +kernel
theorem dX11_begin_98 : decode cX11_begin 98 = .ok (.invokevirtual 363, 3) := by decide +kernel
theorem dX11_begin_101 : decode cX11_begin 101 = .ok (.iinc 5 1, 3) := by decide +kernel
theorem dX11_begin_104 : decode cX11_begin 104 = .ok (.goto (-56), 3) := by decide +kernel
theorem dX11_begin_107 : decode cX11_begin 107 = .ok (.iinc 4 1, 3) := by decide +kernel
theorem dX11_begin_110 : decode cX11_begin 110 = .ok (.goto (-71), 3) := by decide +kernel
theorem dX11_begin_113 : decode cX11_begin 113 = .ok (.aload_n 0, 1) := by decide +kernel
theorem dX11_begin_114 : decode cX11_begin 114 = .ok (.getfield 37, 3) := by decide +kernel
theorem dX11_begin_117 : decode cX11_begin 117 = .ok (.aload_n 0, 1) := by decide +kernel
theorem dX11_begin_118 : decode cX11_begin 118 = .ok (.getfield 18, 3) := by decide +kernel
theorem dX11_begin_121 : decode cX11_begin 121 = .ok (.iload_n 1, 1) := by decide +kernel
theorem dX11_begin_122 : decode cX11_begin 122 = .ok (.aaload, 1) := by decide +kernel
theorem dX11_begin_123 : decode cX11_begin 123 = .ok (.invokevirtual 366, 3) := by decide +kernel
theorem dX11_begin_126 : decode cX11_begin 126 = .ok (.aload_n 0, 1) := by decide +kernel
theorem dX11_begin_127 : decode cX11_begin 127 = .ok (.getfield 12, 3) := by decide +kernel
theorem dX11_begin_130 : decode cX11_begin 130 = .ok (.iconst 0, 1) := by decide +kernel
theorem dX11_begin_131 : decode cX11_begin 131 = .ok (.putfield 327, 3) := by decide +kernel
theorem dX11_begin_134 : decode cX11_begin 134 = .ok (.return_, 1) := by decide +kernel
theorem dX11_come_0 : decode cX11_come 0 = .ok (.aload_n 0, 1) := by decide +kernel
theorem dX11_come_1 : decode cX11_come 1 = .ok (.getfield 12, 3) := by decide +kernel
theorem dX11_come_4 : decode cX11_come 4 = .ok (.getfield 318, 3) := by decide +kernel
theorem dX11_come_7 : decode cX11_come 7 = .ok (.istore 6, 2) := by decide +kernel
theorem dX11_come_9 : decode cX11_come 9 = .ok (.aload_n 0, 1) := by decide +kernel
theorem dX11_come_10 : decode cX11_come 10 = .ok (.getfield 12, 3) := by decide +kernel
theorem dX11_come_13 : decode cX11_come 13 = .ok (.getfield 369, 3) := by decide +kernel
theorem dX11_come_16 : decode cX11_come 16 = .ok (.iload 6, 2) := by decide +kernel
theorem dX11_come_18 : decode cX11_come 18 = .ok (.new 120, 3) := by decide +kernel
theorem dX11_come_21 : decode cX11_come 21 = .ok (.dup, 1) := by decide +kernel
theorem dX11_come_22 : decode cX11_come 22 = .ok (.iload 6, 2) := by decide +kernel
theorem dX11_come_24 : decode cX11_come 24 = .ok (.iload_n 1, 1) := by decide +kernel
theorem dX11_come_25 : decode cX11_come 25 = .ok (.iload_n 2, 1) := by decide +kernel
theorem dX11_come_26 : decode cX11_come 26 = .ok (.iload_n 3, 1) := by decide +kernel
theorem dX11_come_27 : decode cX11_come 27 = .ok (.aload_n 0, 1) := by decide +kernel
theorem dX11_come_28 : decode cX11_come 28 = .ok (.getfield 12, 3) := by decide +kernel
theorem dX11_come_31 : decode cX11_come 31 = .ok (.getfield 178, 3) := by decide +kernel
theorem dX11_come_34 : decode cX11_come 34 = .ok (.aload 4, 2) := by decide +kernel
theorem dX11_come_36 : decode cX11_come 36 = .ok (.aload 5, 2) := by decide +kernel
theorem dX11_come_38 : decode cX11_come 38 = .ok (.invokespecial 373, 3) := by decide +kernel
theorem dX11_come_41 : decode cX11_come 41 = .ok (.aastore, 1) := by decide +kernel
theorem dX11_come_42 : decode cX11_come 42 = .ok (.aload_n 0, 1) := by decide +kernel
theorem dX11_come_43 : decode cX11_come 43 = .ok (.getfield 12, 3) := by decide +kernel
theorem dX11_come_46 : decode cX11_come 46 = .ok (.dup, 1) := by decide +kernel
theorem dX11_come_47 : decode cX11_come 47 = .ok (.getfield 318, 3) := by decide +kernel
theorem dX11_come_50 : decode cX11_come 50 = .ok (.iconst 1, 1) := by decide +kernel
theorem dX11_come_51 : decode cX11_come 51 = .ok (.iadd, 1) := by decide +kernel
theorem dX11_come_52 : decode cX11_come 52 = .ok (.putfield 318, 3) := by decide +kernel
theorem dX11_come_55 : decode cX11_come 55 = .ok (.aload_n 0, 1) := by decide +kernel
theorem dX11_come_56 : decode cX11_come 56 = .ok (.getfield 12, 3) := by decide +kernel
theorem dX11_come_59 : decode cX11_come 59 = .ok (.iload_n 2, 1) := by decide +kernel
theorem dX11_come_60 : decode cX11_come 60 = .ok (.aload_n 0, 1) := by decide +kernel
theorem dX11_come_61 : decode cX11_come 61 = .ok (.getfield 12, 3) := by decide +kernel
theorem dX11_come_64 : decode cX11_come 64 = .ok (.getfield 186, 3) := by decide +kernel
theorem dX11_come_67 : decode cX11_come 67 = .ok (.iconst 1, 1) := by decide +kernel
theorem dX11_come_68 : decode cX11_come 68 = .ok (.invokevirtual 376, 3) := by decide +kernel
theorem dX11_come_71 : decode cX11_come 71 = .ok (.iload 6, 2) := by decide +kernel
theorem dX11_come_73 : decode cX11_come 73 = .ok (.iconst 0, 1) := by decide +kernel
theorem dX11_come_74 : decode cX11_come 74 = .ok (.iconst 0, 1) := by decide +kernel
theorem dX11_come_75 : decode cX11_come 75 = .ok (.iconst 0, 1) := by decide +kernel
theorem dX11_come_76 : decode cX11_come 76 = .ok (.iconst 0, 1) := by decide +kernel
theorem dX11_come_77 : decode cX11_come 77 = .ok (.invokevirtual 379, 3) := by decide +kernel
theorem dX11_come_80 : decode cX11_come 80 = .ok (.pop, 1) := by decide +kernel
theorem dX11_come_81 : decode cX11_come 81 = .ok (.iload 6, 2) := by decide +kernel
theorem dX11_come_83 : decode cX11_come 83 = .ok (.ireturn, 1) := by decide +kernel
theorem dX11_fall_0 : decode cX11_fall 0 = .ok (.aload_n 0, 1) := by decide +kernel
theorem dX11_fall_1 : decode cX11_fall 1 = .ok (.getfield 18, 3) := by decide +kernel
theorem dX11_fall_4 : decode cX11_fall 4 = .ok (.iload_n 1, 1) := by decide +kernel
theorem dX11_fall_5 : decode cX11_fall 5 = .ok (.aaload, 1) := by decide +kernel
theorem dX11_fall_6 : decode cX11_fall 6 = .ok (.iconst 0, 1) := by decide +kernel
theorem dX11_fall_7 : decode cX11_fall 7 = .ok (.putfield 191, 3) := by decide +kernel
theorem dX11_fall_10 : decode cX11_fall 10 = .ok (.aload_n 0, 1) := by decide +kernel
theorem dX11_fall_11 : decode cX11_fall 11 = .ok (.getfield 18, 3) := by decide +kernel
theorem dX11_fall_14 : decode cX11_fall 14 = .ok (.iload_n 1, 1) := by decide +kernel
theorem dX11_fall_15 : decode cX11_fall 15 = .ok (.aaload, 1) := by decide +kernel
theorem dX11_fall_16 : decode cX11_fall 16 = .ok (.invokevirtual 383, 3) := by decide +kernel
theorem dX11_fall_19 : decode cX11_fall 19 = .ok (.iconst 0, 1) := by decide +kernel
theorem dX11_fall_20 : decode cX11_fall 20 = .ok (.istore_n 2, 1) := by decide +kernel
theorem dX11_fall_21 : decode cX11_fall 21 = .ok (.aload_n 0, 1) := by decide +kernel
theorem dX11_fall_22 : decode cX11_fall 22 = .ok (.getfield 12, 3) := by decide +kernel
theorem dX11_fall_25 : decode cX11_fall 25 = .ok (.getfield 386, 3) := by decide +kernel
theorem dX11_fall_28 : decode cX11_fall 28 = .ok (.istore_n 3, 1) := by decide +kernel
theorem dX11_fall_29 : decode cX11_fall 29 = .ok (.iload_n 3, 1) := by decide +kernel
theorem dX11_fall_30 : decode cX11_fall 30 = .ok (.aload_n 0, 1) := by decide +kernel
theorem dX11_fall_31 : decode cX11_fall 31 = .ok (.getfield 12, 3) := by decide +kernel
theorem dX11_fall_34 : decode cX11_fall 34 = .ok (.getfield 318, 3) := by decide +kernel
theorem dX11_fall_37 : decode cX11_fall 37 = .ok (.if_icmp .ge 50, 3) := by decide +kernel
theorem dX11_fall_40 : decode cX11_fall 40 = .ok (.aload_n 0, 1) := by decide +kernel
theorem dX11_fall_41 : decode cX11_fall 41 = .ok (.getfield 12, 3) := by decide +kernel
theorem dX11_fall_44 : decode cX11_fall 44 = .ok (.iload_n 3, 1) := by decide +kernel
theorem dX11_fall_45 : decode cX11_fall 45 = .ok (.invokevirtual 110, 3) := by decide +kernel
theorem dX11_fall_48 : decode cX11_fall 48 = .ok (.astore 4, 2) := by decide +kernel
theorem dX11_fall_50 : decode cX11_fall 50 = .ok (.aload 4, 2) := by decide +kernel
theorem dX11_fall_52 : decode cX11_fall 52 = .ok (.ifnull 29, 3) := by decide +kernel
theorem dX11_fall_55 : decode cX11_fall 55 = .ok (.aload 4, 2) := by decide +kernel
theorem dX11_fall_57 : decode cX11_fall 57 = .ok (.getfield 127, 3) := by decide +kernel
theorem dX11_fall_60 : decode cX11_fall 60 = .ok (.iload_n 1, 1) := by decide +kernel
theorem dX11_fall_61 : decode cX11_fall 61 = .ok (.if_icmp .ne 20, 3) := by decide +kernel
theorem dX11_fall_64 : decode cX11_fall 64 = .ok (.aload 4, 2) := by decide +kernel
theorem dX11_fall_66 : decode cX11_fall 66 = .ok (.getfield 119, 3) := by decide +kernel
theorem dX11_fall_69 : decode cX11_fall 69 = .ok (.ifCond .ne 12, 3) := by decide +kernel
theorem dX11_fall_72 : decode cX11_fall 72 = .ok (.aload 4, 2) := by decide +kernel
theorem dX11_fall_74 : decode cX11_fall 74 = .ok (.iconst 2, 1) := by decide +kernel
theorem dX11_fall_75 : decode cX11_fall 75 = .ok (.putfield 119, 3) := by decide +kernel
theorem dX11_fall_78 : decode cX11_fall 78 = .ok (.iinc 2 1, 3) := by decide +kernel
theorem dX11_fall_81 : decode cX11_fall 81 = .ok (.iinc 3 1, 3) := by decide +kernel
theorem dX11_fall_84 : decode cX11_fall 84 = .ok (.goto (-55), 3) := by decide +kernel
theorem dX11_fall_87 : decode cX11_fall 87 = .ok (.iload_n 2, 1) := by decide +kernel
theorem dX11_fall_88 : decode cX11_fall 88 = .ok (.ireturn, 1) := by decide +kernel
theorem dX11_boot_0 : decode cX11_boot 0 = .ok (.iload_n 1, 1) := by decide +kernel
theorem dX11_boot_1 : decode cX11_boot 1 = .ok (.aload_n 0, 1) := by decide +kernel
theorem dX11_boot_2 : decode cX11_boot 2 = .ok (.getfield 12, 3) := by decide +kernel
theorem dX11_boot_5 : decode cX11_boot 5 = .ok (.getfield 186, 3) := by decide +kernel
theorem dX11_boot_8 : decode cX11_boot 8 = .ok (.if_icmp .ne 11, 3) := by decide +kernel
theorem dX11_boot_11 : decode cX11_boot 11 = .ok (.aload_n 0, 1) := by decide +kernel
theorem dX11_boot_12 : decode cX11_boot 12 = .ok (.getfield 37, 3) := by decide +kernel
theorem dX11_boot_15 : decode cX11_boot 15 = .ok (.invokevirtual 389, 3) := by decide +kernel
theorem dX11_boot_18 : decode cX11_boot 18 = .ok (.return_, 1) := by decide +kernel
theorem dX11_boot_19 : decode cX11_boot 19 = .ok (.iconst 0, 1) := by decide +kernel
theorem dX11_boot_20 : decode cX11_boot 20 = .ok (.istore_n 2, 1) := by decide +kernel
theorem dX11_boot_21 : decode cX11_boot 21 = .ok (.iload_n 2, 1) := by decide +kernel
theorem dX11_boot_22 : decode cX11_boot 22 = .ok (.aload_n 0, 1) := by decide +kernel
theorem dX11_boot_23 : decode cX11_boot 23 = .ok (.getfield 12, 3) := by decide +kernel
theorem dX11_boot_26 : decode cX11_boot 26 = .ok (.getfield 337, 3) := by decide +kernel
theorem dX11_boot_29 : decode cX11_boot 29 = .ok (.if_icmp .ge 28, 3) := by decide +kernel
theorem dX11_boot_32 : decode cX11_boot 32 = .ok (.aload_n 0, 1) := by decide +kernel
theorem dX11_boot_33 : decode cX11_boot 33 = .ok (.getfield 18, 3) := by decide +kernel
theorem dX11_boot_36 : decode cX11_boot 36 = .ok (.iload_n 1, 1) := by decide +kernel
theorem dX11_boot_37 : decode cX11_boot 37 = .ok (.aaload, 1) := by decide +kernel
theorem dX11_boot_38 : decode cX11_boot 38 = .ok (.iload_n 2, 1) := by decide +kernel
theorem dX11_boot_39 : decode cX11_boot 39 = .ok (.invokevirtual 348, 3) := by decide +kernel
theorem dX11_boot_42 : decode cX11_boot 42 = .ok (.astore_n 3, 1) := by decide +kernel
theorem dX11_boot_43 : decode cX11_boot 43 = .ok (.aload_n 3, 1) := by decide +kernel
theorem dX11_boot_44 : decode cX11_boot 44 = .ok (.ifnull 7, 3) := by decide +kernel
theorem dX11_boot_47 : decode cX11_boot 47 = .ok (.aload_n 3, 1) := by decide +kernel
theorem dX11_boot_48 : decode cX11_boot 48 = .ok (.invokevirtual 392, 3) := by decide +kernel
theorem dX11_boot_51 : decode cX11_boot 51 = .ok (.iinc 2 1, 3) := by decide +kernel
theorem dX11_boot_54 : decode cX11_boot 54 = .ok (.goto (-33), 3) := by decide +kernel
theorem dX11_boot_57 : decode cX11_boot 57 = .ok (.aload_n 0, 1) := by decide +kernel
theorem dX11_boot_58 : decode cX11_boot 58 = .ok (.getfield 12, 3) := by decide +kernel
theorem dX11_boot_61 : decode cX11_boot 61 = .ok (.iload_n 1, 1) := by decide +kernel
theorem dX11_boot_62 : decode cX11_boot 62 = .ok (.aload_n 0, 1) := by decide +kernel
theorem dX11_boot_63 : decode cX11_boot 63 = .ok (.getfield 12, 3) := by decide +kernel
theorem dX11_boot_66 : decode cX11_boot 66 = .ok (.getfield 186, 3) := by decide +kernel
theorem dX11_boot_69 : decode cX11_boot 69 = .ok (.bipush 15, 2) := by decide +kernel
theorem dX11_boot_71 : decode cX11_boot 71 = .ok (.invokevirtual 376, 3) := by decide +kernel
theorem dX11_boot_74 : decode cX11_boot 74 = .ok (.pop, 1) := by decide +kernel
theorem dX11_boot_75 : decode cX11_boot 75 = .ok (.goto 10, 3) := by decide +kernel
theorem dX11_boot_78 : decode cX11_boot 78 = .ok (.astore_n 2, 1) := by decide +kernel
theorem dX11_boot_79 : decode cX11_boot 79 = .ok (.aload_n 0, 1) := by decide +kernel
theorem dX11_boot_80 : decode cX11_boot 80 = .ok (.iload_n 1, 1) := by decide +kernel
theorem dX11_boot_81 : decode cX11_boot 81 = .ok (.invokevirtual 195, 3) := by decide +kernel
theorem dX11_boot_84 : decode cX11_boot 84 = .ok (.pop, 1) := by decide +kernel
theorem dX11_boot_85 : decode cX11_boot 85 = .ok (.return_, 1) := by decide +kernel
theorem dX11_pulse_0 : decode cX11_pulse 0 = .ok (.aload_n 0, 1) := by decide +kernel
theorem dX11_pulse_1 : decode cX11_pulse 1 = .ok (.getfield 12, 3) := by decide +kernel
theorem dX11_pulse_4 : decode cX11_pulse 4 = .ok (.dup, 1) := by decide +kernel
theorem dX11_pulse_5 : decode cX11_pulse 5 = .ok (.getfield 178, 3) := by decide +kernel
theorem dX11_pulse_8 : decode cX11_pulse 8 = .ok (.iconst 1, 1) := by decide +kernel
theorem dX11_pulse_9 : decode cX11_pulse 9 = .ok (.iadd, 1) := by decide +kernel
theorem dX11_pulse_10 : decode cX11_pulse 10 = .ok (.putfield 178, 3) := by decide +kernel
theorem dX11_pulse_13 : decode cX11_pulse 13 = .ok (.aload_n 0, 1) := by decide +kernel
theorem dX11_pulse_14 : decode cX11_pulse 14 = .ok (.getfield 12, 3) := by decide +kernel
theorem dX11_pulse_17 : decode cX11_pulse 17 = .ok (.invokevirtual 393, 3) := by decide +kernel
theorem dX11_pulse_20 : decode cX11_pulse 20 = .ok (.iconst 0, 1) := by decide +kernel
theorem dX11_pulse_21 : decode cX11_pulse 21 = .ok (.istore_n 1, 1) := by decide +kernel
theorem dX11_pulse_22 : decode cX11_pulse 22 = .ok (.iload_n 1, 1) := by decide +kernel
theorem dX11_pulse_23 : decode cX11_pulse 23 = .ok (.aload_n 0, 1) := by decide +kernel
theorem dX11_pulse_24 : decode cX11_pulse 24 = .ok (.getfield 12, 3) := by decide +kernel
theorem dX11_pulse_27 : decode cX11_pulse 27 = .ok (.getfield 186, 3) := by decide +kernel
theorem dX11_pulse_30 : decode cX11_pulse 30 = .ok (.if_icmp .ge 85, 3) := by decide +kernel
theorem dX11_pulse_33 : decode cX11_pulse 33 = .ok (.aload_n 0, 1) := by decide +kernel
theorem dX11_pulse_34 : decode cX11_pulse 34 = .ok (.getfield 18, 3) := by decide +kernel
theorem dX11_pulse_37 : decode cX11_pulse 37 = .ok (.iload_n 1, 1) := by decide +kernel
theorem dX11_pulse_38 : decode cX11_pulse 38 = .ok (.aaload, 1) := by decide +kernel
theorem dX11_pulse_39 : decode cX11_pulse 39 = .ok (.getfield 191, 3) := by decide +kernel
theorem dX11_pulse_42 : decode cX11_pulse 42 = .ok (.ifCond .eq 67, 3) := by decide +kernel
theorem dX11_pulse_45 : decode cX11_pulse 45 = .ok (.iconst 0, 1) := by decide +kernel
theorem dX11_pulse_46 : decode cX11_pulse 46 = .ok (.istore_n 2, 1) := by decide +kernel
theorem dX11_pulse_47 : decode cX11_pulse 47 = .ok (.iload_n 2, 1) := by decide +kernel
theorem dX11_pulse_48 : decode cX11_pulse 48 = .ok (.aload_n 0, 1) := by decide +kernel
theorem dX11_pulse_49 : decode cX11_pulse 49 = .ok (.getfield 12, 3) := by decide +kernel
theorem dX11_pulse_52 : decode cX11_pulse 52 = .ok (.getfield 337, 3) := by decide +kernel
theorem dX11_pulse_55 : decode cX11_pulse 55 = .ok (.if_icmp .ge 28, 3) := by decide +kernel
theorem dX11_pulse_58 : decode cX11_pulse 58 = .ok (.aload_n 0, 1) := by decide +kernel
theorem dX11_pulse_59 : decode cX11_pulse 59 = .ok (.getfield 18, 3) := by decide +kernel
theorem dX11_pulse_62 : decode cX11_pulse 62 = .ok (.iload_n 1, 1) := by decide +kernel
theorem dX11_pulse_63 : decode cX11_pulse 63 = .ok (.aaload, 1) := by decide +kernel
theorem dX11_pulse_64 : decode cX11_pulse 64 = .ok (.iload_n 2, 1) := by decide +kernel
theorem dX11_pulse_65 : decode cX11_pulse 65 = .ok (.invokevirtual 348, 3) := by decide +kernel
theorem dX11_pulse_68 : decode cX11_pulse 68 = .ok (.astore_n 3, 1) := by decide +kernel
theorem dX11_pulse_69 : decode cX11_pulse 69 = .ok (.aload_n 3, 1) := by decide +kernel
theorem dX11_pulse_70 : decode cX11_pulse 70 = .ok (.ifnull 7, 3) := by decide +kernel
theorem dX11_pulse_73 : decode cX11_pulse 73 = .ok (.aload_n 3, 1) := by decide +kernel
theorem dX11_pulse_74 : decode cX11_pulse 74 = .ok (.invokevirtual 396, 3) := by decide +kernel
theorem dX11_pulse_77 : decode cX11_pulse 77 = .ok (.iinc 2 1, 3) := by decide +kernel
theorem dX11_pulse_80 : decode cX11_pulse 80 = .ok (.goto (-33), 3) := by decide +kernel
theorem dX11_pulse_83 : decode cX11_pulse 83 = .ok (.aload_n 0, 1) := by decide +kernel
theorem dX11_pulse_84 : decode cX11_pulse 84 = .ok (.getfield 18, 3) := by decide +kernel
theorem dX11_pulse_87 : decode cX11_pulse 87 = .ok (.iload_n 1, 1) := by decide +kernel
theorem dX11_pulse_88 : decode cX11_pulse 88 = .ok (.aaload, 1) := by decide +kernel
theorem dX11_pulse_89 : decode cX11_pulse 89 = .ok (.invokevirtual 397, 3) := by decide +kernel
theorem dX11_pulse_92 : decode cX11_pulse 92 = .ok (.aload_n 0, 1) := by decide +kernel
theorem dX11_pulse_93 : decode cX11_pulse 93 = .ok (.getfield 18, 3) := by decide +kernel
theorem dX11_pulse_96 : decode cX11_pulse 96 = .ok (.iload_n 1, 1) := by decide +kernel
theorem dX11_pulse_97 : decode cX11_pulse 97 = .ok (.aaload, 1) := by decide +kernel
theorem dX11_pulse_98 : decode cX11_pulse 98 = .ok (.invokevirtual 400, 3) := by decide +kernel
theorem dX11_pulse_101 : decode cX11_pulse 101 = .ok (.aload_n 0, 1) := by decide +kernel
theorem dX11_pulse_102 : decode cX11_pulse 102 = .ok (.getfield 12, 3) := by decide +kernel
theorem dX11_pulse_105 : decode cX11_pulse 105 = .ok (.iload_n 1, 1) := by decide +kernel
theorem dX11_pulse_106 : decode cX11_pulse 106 = .ok (.invokevirtual 403, 3) := by decide +kernel
theorem dX11_pulse_109 : decode cX11_pulse 109 = .ok (.iinc 1 1, 3) := by decide +kernel
theorem dX11_pulse_112 : decode cX11_pulse 112 = .ok (.goto (-90), 3) := by decide +kernel
theorem dX11_pulse_115 : decode cX11_pulse 115 = .ok (.aload_n 0, 1) := by decide +kernel
theorem dX11_pulse_116 : decode cX11_pulse 116 = .ok (.getfield 18, 3) := by decide +kernel
theorem dX11_pulse_119 : decode cX11_pulse 119 = .ok (.aload_n 0, 1) := by decide +kernel
theorem dX11_pulse_120 : decode cX11_pulse 120 = .ok (.getfield 12, 3) := by decide +kernel
theorem dX11_pulse_123 : decode cX11_pulse 123 = .ok (.getfield 186, 3) := by decide +kernel
theorem dX11_pulse_126 : decode cX11_pulse 126 = .ok (.aaload, 1) := by decide +kernel
theorem dX11_pulse_127 : decode cX11_pulse 127 = .ok (.getfield 191, 3) := by decide +kernel
theorem dX11_pulse_130 : decode cX11_pulse 130 = .ok (.ifCond .eq 26, 3) := by decide +kernel
theorem dX11_pulse_133 : decode cX11_pulse 133 = .ok (.aload_n 0, 1) := by decide +kernel
theorem dX11_pulse_134 : decode cX11_pulse 134 = .ok (.getfield 37, 3) := by decide +kernel
theorem dX11_pulse_137 : decode cX11_pulse 137 = .ok (.invokevirtual 406, 3) := by decide +kernel
theorem dX11_pulse_140 : decode cX11_pulse 140 = .ok (.goto 16, 3) := by decide +kernel
theorem dX11_pulse_143 : decode cX11_pulse 143 = .ok (.astore_n 1, 1) := by decide +kernel
theorem dX11_pulse_144 : decode cX11_pulse 144 = .ok (.aload_n 0, 1) := by decide +kernel
theorem dX11_pulse_145 : decode cX11_pulse 145 = .ok (.aload_n 0, 1) := by decide +kernel
theorem dX11_pulse_146 : decode cX11_pulse 146 = .ok (.getfield 12, 3) := by decide +kernel
theorem dX11_pulse_149 : decode cX11_pulse 149 = .ok (.getfield 186, 3) := by decide +kernel
theorem dX11_pulse_152 : decode cX11_pulse 152 = .ok (.invokevirtual 195, 3) := by decide +kernel
theorem dX11_pulse_155 : decode cX11_pulse 155 = .ok (.pop, 1) := by decide +kernel
theorem dX11_pulse_156 : decode cX11_pulse 156 = .ok (.return_, 1) := by decide +kernel
theorem dX11_contextsInUse_0 : decode cX11_contextsInUse 0 = .ok (.iconst 0, 1) := by decide +kernel
theorem dX11_contextsInUse_1 : decode cX11_contextsInUse 1 = .ok (.istore_n 1, 1) := by decide +kernel
theorem dX11_contextsInUse_2 : decode cX11_contextsInUse 2 = .ok (.iconst 0, 1) := by decide +kernel
theorem dX11_contextsInUse_3 : decode cX11_contextsInUse 3 = .ok (.istore_n 2, 1) := by decide +kernel
theorem dX11_contextsInUse_4 : decode cX11_contextsInUse 4 = .ok (.iload_n 2, 1) := by decide +kernel
theorem dX11_contextsInUse_5 : decode cX11_contextsInUse 5 = .ok (.aload_n 0, 1) := by decide +kernel
theorem dX11_contextsInUse_6 : decode cX11_contextsInUse 6 = .ok (.getfield 12, 3) := by decide +kernel
theorem dX11_contextsInUse_9 : decode cX11_contextsInUse 9 = .ok (.getfield 186, 3) := by decide +kernel
theorem dX11_contextsInUse_12 : decode cX11_contextsInUse 12 = .ok (.if_icmp .ge 21, 3) := by decide +kernel
theorem dX11_contextsInUse_15 : decode cX11_contextsInUse 15 = .ok (.iload_n 1, 1) := by decide +kernel
theorem dX11_contextsInUse_16 : decode cX11_contextsInUse 16 = .ok (.aload_n 0, 1) := by decide +kernel
theorem dX11_contextsInUse_17 : decode cX11_contextsInUse 17 = .ok (.getfield 18, 3) := by decide +kernel
theorem dX11_contextsInUse_20 : decode cX11_contextsInUse 20 = .ok (.iload_n 2, 1) := by decide +kernel
theorem dX11_contextsInUse_21 : decode cX11_contextsInUse 21 = .ok (.aaload, 1) := by decide +kernel
theorem dX11_contextsInUse_22 : decode cX11_contextsInUse 22 = .ok (.invokevirtual 409, 3) := by decide +kernel
theorem dX11_contextsInUse_25 : decode cX11_contextsInUse 25 = .ok (.iadd, 1) := by decide +kernel
theorem dX11_contextsInUse_26 : decode cX11_contextsInUse 26 = .ok (.istore_n 1, 1) := by decide +kernel
theorem dX11_contextsInUse_27 : decode cX11_contextsInUse 27 = .ok (.iinc 2 1, 3) := by decide +kernel
theorem dX11_contextsInUse_30 : decode cX11_contextsInUse 30 = .ok (.goto (-26), 3) := by decide +kernel
theorem dX11_contextsInUse_33 : decode cX11_contextsInUse 33 = .ok (.iload_n 1, 1) := by decide +kernel
theorem dX11_contextsInUse_34 : decode cX11_contextsInUse 34 = .ok (.ireturn, 1) := by decide +kernel
theorem dX11_pass_0 : decode cX11_pass 0 = .ok (.aload_n 0, 1) := by decide +kernel
theorem dX11_pass_1 : decode cX11_pass 1 = .ok (.getfield 12, 3) := by decide +kernel
theorem dX11_pass_4 : decode cX11_pass 4 = .ok (.iload_n 1, 1) := by decide +kernel
theorem dX11_pass_5 : decode cX11_pass 5 = .ok (.iload_n 2, 1) := by decide +kernel
theorem dX11_pass_6 : decode cX11_pass 6 = .ok (.invokevirtual 171, 3) := by decide +kernel
theorem dX11_pass_9 : decode cX11_pass 9 = .ok (.astore_n 3, 1) := by decide +kernel
theorem dX11_pass_10 : decode cX11_pass 10 = .ok (.aload_n 3, 1) := by decide +kernel
theorem dX11_pass_11 : decode cX11_pass 11 = .ok (.ifnonnull 5, 3) := by decide +kernel
theorem dX11_pass_14 : decode cX11_pass 14 = .ok (.iconst 0, 1) := by decide +kernel
theorem dX11_pass_15 : decode cX11_pass 15 = .ok (.ireturn, 1) := by decide +kernel
theorem dX11_pass_16 : decode cX11_pass 16 = .ok (.aload_n 0, 1) := by decide +kernel
theorem dX11_pass_17 : decode cX11_pass 17 = .ok (.getfield 12, 3) := by decide +kernel
theorem dX11_pass_20 : decode cX11_pass 20 = .ok (.dup, 1) := by decide +kernel
theorem dX11_pass_21 : decode cX11_pass 21 = .ok (.getfield 183, 3) := by decide +kernel
theorem dX11_pass_24 : decode cX11_pass 24 = .ok (.iconst 1, 1) := by decide +kernel
theorem dX11_pass_25 : decode cX11_pass 25 = .ok (.iadd, 1) := by decide +kernel
theorem dX11_pass_26 : decode cX11_pass 26 = .ok (.putfield 183, 3) := by decide +kernel
theorem dX11_pass_29 : decode cX11_pass 29 = .ok (.aload_n 0, 1) := by decide +kernel
theorem dX11_pass_30 : decode cX11_pass 30 = .ok (.getfield 18, 3) := by decide +kernel
theorem dX11_pass_33 : decode cX11_pass 33 = .ok (.iload_n 2, 1) := by decide +kernel
theorem dX11_pass_34 : decode cX11_pass 34 = .ok (.aaload, 1) := by decide +kernel
theorem dX11_pass_35 : decode cX11_pass 35 = .ok (.getfield 191, 3) := by decide +kernel
theorem dX11_pass_38 : decode cX11_pass 38 = .ok (.ifCond .ne 8, 3) := by decide +kernel
theorem dX11_pass_41 : decode cX11_pass 41 = .ok (.aload_n 3, 1) := by decide +kernel
theorem dX11_pass_42 : decode cX11_pass 42 = .ok (.getfield 162, 3) := by decide +kernel
theorem dX11_pass_45 : decode cX11_pass 45 = .ok (.ireturn, 1) := by decide +kernel
theorem dX11_pass_46 : decode cX11_pass 46 = .ok (.aload_n 0, 1) := by decide +kernel
theorem dX11_pass_47 : decode cX11_pass 47 = .ok (.aload_n 3, 1) := by decide +kernel
theorem dX11_pass_48 : decode cX11_pass 48 = .ok (.iload_n 2, 1) := by decide +kernel
theorem dX11_pass_49 : decode cX11_pass 49 = .ok (.invokevirtual 412, 3) := by decide +kernel
theorem dX11_pass_52 : decode cX11_pass 52 = .ok (.astore 4, 2) := by decide +kernel
theorem dX11_pass_54 : decode cX11_pass 54 = .ok (.aload 4, 2) := by decide +kernel
theorem dX11_pass_56 : decode cX11_pass 56 = .ok (.ifnull 184, 3) := by decide +kernel
theorem dX11_pass_59 : decode cX11_pass 59 = .ok (.aload_n 3, 1) := by decide +kernel
theorem dX11_pass_60 : decode cX11_pass 60 = .ok (.getfield 162, 3) := by decide +kernel
theorem dX11_pass_63 : decode cX11_pass 63 = .ok (.tableswitch 174 3 18 #[77, 174, 174, 87, 97, 107, 117, 127, 174, 174, 136, 145, 174, 174, 154, 164], 77) := by decide +kernel
theorem dX11_pass_140 : decode cX11_pass 140 = .ok (.aload 4, 2) := by decide +kernel
theorem dX11_pass_142 : decode cX11_pass 142 = .ok (.iload_n 1, 1) := by decide +kernel
theorem dX11_pass_143 : decode cX11_pass 143 = .ok (.aload_n 3, 1) := by decide +kernel
theorem dX11_pass_144 : decode cX11_pass 144 = .ok (.invokevirtual 416, 3) := by decide +kernel
theorem dX11_pass_147 : decode cX11_pass 147 = .ok (.goto 289, 3) := by decide +kernel
theorem dX11_pass_150 : decode cX11_pass 150 = .ok (.aload 4, 2) := by decide +kernel
theorem dX11_pass_152 : decode cX11_pass 152 = .ok (.iload_n 1, 1) := by decide +kernel
theorem dX11_pass_153 : decode cX11_pass 153 = .ok (.aload_n 3, 1) := by decide +kernel
theorem dX11_pass_154 : decode cX11_pass 154 = .ok (.invokevirtual 420, 3) := by decide +kernel
theorem dX11_pass_157 : decode cX11_pass 157 = .ok (.goto 279, 3) := by decide +kernel
theorem dX11_pass_160 : decode cX11_pass 160 = .ok (.aload 4, 2) := by decide +kernel
theorem dX11_pass_162 : decode cX11_pass 162 = .ok (.iload_n 1, 1) := by decide +kernel
theorem dX11_pass_163 : decode cX11_pass 163 = .ok (.aload_n 3, 1) := by decide +kernel
theorem dX11_pass_164 : decode cX11_pass 164 = .ok (.invokevirtual 423, 3) := by decide +kernel
theorem dX11_pass_167 : decode cX11_pass 167 = .ok (.goto 269, 3) := by decide +kernel
theorem dX11_pass_170 : decode cX11_pass 170 = .ok (.aload 4, 2) := by decide +kernel
theorem dX11_pass_172 : decode cX11_pass 172 = .ok (.iload_n 1, 1) := by decide +kernel
theorem dX11_pass_173 : decode cX11_pass 173 = .ok (.aload_n 3, 1) := by decide +kernel
theorem dX11_pass_174 : decode cX11_pass 174 = .ok (.invokevirtual 426, 3) := by decide +kernel
theorem dX11_pass_177 : decode cX11_pass 177 = .ok (.goto 259, 3) := by decide +kernel
theorem dX11_pass_180 : decode cX11_pass 180 = .ok (.aload 4, 2) := by decide +kernel
theorem dX11_pass_182 : decode cX11_pass 182 = .ok (.iload_n 1, 1) := by decide +kernel
theorem dX11_pass_183 : decode cX11_pass 183 = .ok (.aload_n 3, 1) := by decide +kernel
theorem dX11_pass_184 : decode cX11_pass 184 = .ok (.invokevirtual 429, 3) := by decide +kernel
theorem dX11_pass_187 : decode cX11_pass 187 = .ok (.goto 249, 3) := by decide +kernel
theorem dX11_pass_190 : decode cX11_pass 190 = .ok (.aload 4, 2) := by decide +kernel
theorem dX11_pass_192 : decode cX11_pass 192 = .ok (.iload_n 1, 1) := by decide +kernel
theorem dX11_pass_193 : decode cX11_pass 193 = .ok (.invokevirtual 432, 3) := by decide +kernel
theorem dX11_pass_196 : decode cX11_pass 196 = .ok (.goto 240, 3) := by decide +kernel
theorem dX11_pass_199 : decode cX11_pass 199 = .ok (.aload 4, 2) := by decide +kernel
theorem dX11_pass_201 : decode cX11_pass 201 = .ok (.aload_n 3, 1) := by decide +kernel
theorem dX11_pass_202 : decode cX11_pass 202 = .ok (.invokevirtual 435, 3) := by decide +kernel
theorem dX11_pass_205 : decode cX11_pass 205 = .ok (.goto 231, 3) := by decide +kernel
theorem dX11_pass_208 : decode cX11_pass 208 = .ok (.aload 4, 2) := by decide +kernel
theorem dX11_pass_210 : decode cX11_pass 210 = .ok (.aload_n 3, 1) := by decide +kernel
theorem dX11_pass_211 : decode cX11_pass 211 = .ok (.invokevirtual 439, 3) := by decide +kernel
theorem dX11_pass_214 : decode cX11_pass 214 = .ok (.goto 222, 3) := by decide +kernel
theorem dX11_pass_217 : decode cX11_pass 217 = .ok (.aload 4, 2) := by decide +kernel
theorem dX11_pass_219 : decode cX11_pass 219 = .ok (.iload_n 1, 1) := by decide +kernel
theorem dX11_pass_220 : decode cX11_pass 220 = .ok (.aload_n 3, 1) := by decide +kernel
theorem dX11_pass_221 : decode cX11_pass 221 = .ok (.invokevirtual 442, 3) := by decide +kernel
theorem dX11_pass_224 : decode cX11_pass 224 = .ok (.goto 212, 3) := by decide +kernel
theorem dX11_pass_227 : decode cX11_pass 227 = .ok (.aload 4, 2) := by decide +kernel
theorem dX11_pass_229 : decode cX11_pass 229 = .ok (.iload_n 1, 1) := by decide +kernel
theorem dX11_pass_230 : decode cX11_pass 230 = .ok (.aload_n 3, 1) := by decide +kernel
theorem dX11_pass_231 : decode cX11_pass 231 = .ok (.invokevirtual 445, 3) := by decide +kernel
theorem dX11_pass_234 : decode cX11_pass 234 = .ok (.goto 202, 3) := by decide +kernel
theorem dX11_pass_237 : decode cX11_pass 237 = .ok (.goto 199, 3) := by decide +kernel
theorem dX11_pass_240 : decode cX11_pass 240 = .ok (.aload_n 3, 1) := by decide +kernel
theorem dX11_pass_241 : decode cX11_pass 241 = .ok (.getfield 162, 3) := by decide +kernel
theorem dX11_pass_244 : decode cX11_pass 244 = .ok (.tableswitch 192 1 22 #[104, 180, 192, 180, 180, 192, 192, 192, 192, 192, 116, 128, 192, 192, 140, 140, 192, 192, 152, 180, 166, 180], 104) := by decide +kernel
theorem dX11_pass_348 : decode cX11_pass 348 = .ok (.aload_n 0, 1) := by decide +kernel
theorem dX11_pass_349 : decode cX11_pass 349 = .ok (.getfield 37, 3) := by decide +kernel
theorem dX11_pass_352 : decode cX11_pass 352 = .ok (.iload_n 1, 1) := by decide +kernel
theorem dX11_pass_353 : decode cX11_pass 353 = .ok (.aload_n 3, 1) := by decide +kernel
theorem dX11_pass_354 : decode cX11_pass 354 = .ok (.invokevirtual 448, 3) := by decide +kernel
theorem dX11_pass_357 : decode cX11_pass 357 = .ok (.goto 79, 3) := by decide +kernel
theorem dX11_pass_360 : decode cX11_pass 360 = .ok (.aload_n 0, 1) := by decide +kernel
theorem dX11_pass_361 : decode cX11_pass 361 = .ok (.getfield 37, 3) := by decide +kernel
theorem dX11_pass_364 : decode cX11_pass 364 = .ok (.iload_n 1, 1) := by decide +kernel
theorem dX11_pass_365 : decode cX11_pass 365 = .ok (.aload_n 3, 1) := by decide +kernel
theorem dX11_pass_366 : decode cX11_pass 366 = .ok (.invokevirtual 451, 3) := by decide +kernel
theorem dX11_pass_369 : decode cX11_pass 369 = .ok (.goto 67, 3) := by decide +kernel
theorem dX11_pass_372 : decode cX11_pass 372 = .ok (.aload_n 0, 1) := by decide +kernel
theorem dX11_pass_373 : decode cX11_pass 373 = .ok (.getfield 37, 3) := by decide +kernel
theorem dX11_pass_376 : decode cX11_pass 376 = .ok (.iload_n 1, 1) := by decide +kernel
theorem dX11_pass_377 : decode cX11_pass 377 = .ok (.aload_n 3, 1) := by decide +kernel
theorem dX11_pass_378 : decode cX11_pass 378 = .ok (.invokevirtual 454, 3) := by decide +kernel
theorem dX11_pass_381 : decode cX11_pass 381 = .ok (.goto 55, 3) := by decide +kernel
theorem dX11_pass_384 : decode cX11_pass 384 = .ok (.aload_n 0, 1) := by decide +kernel
theorem dX11_pass_385 : decode cX11_pass 385 = .ok (.getfield 37, 3) := by decide +kernel
theorem dX11_pass_388 : decode cX11_pass 388 = .ok (.iload_n 1, 1) := by decide +kernel
theorem dX11_pass_389 : decode cX11_pass 389 = .ok (.aload_n 3, 1) := by decide +kernel
theorem dX11_pass_390 : decode cX11_pass 390 = .ok (.invokevirtual 457, 3) := by decide +kernel
theorem dX11_pass_393 : decode cX11_pass 393 = .ok (.goto 43, 3) := by decide +kernel
theorem dX11_pass_396 : decode cX11_pass 396 = .ok (.aload_n 0, 1) := by decide +kernel
theorem dX11_pass_397 : decode cX11_pass 397 = .ok (.getfield 18, 3) := by decide +kernel
theorem dX11_pass_400 : decode cX11_pass 400 = .ok (.iload_n 2, 1) := by decide +kernel
theorem dX11_pass_401 : decode cX11_pass 401 = .ok (.aaload, 1) := by decide +kernel
theorem dX11_pass_402 : decode cX11_pass 402 = .ok (.iload_n 1, 1) := by decide +kernel
theorem dX11_pass_403 : decode cX11_pass 403 = .ok (.aload_n 3, 1) := by decide +kernel
theorem dX11_pass_404 : decode cX11_pass 404 = .ok (.invokevirtual 460, 3) := by decide +kernel
theorem dX11_pass_407 : decode cX11_pass 407 = .ok (.goto 29, 3) := by decide +kernel
theorem dX11_pass_410 : decode cX11_pass 410 = .ok (.aload_n 0, 1) := by decide +kernel
theorem dX11_pass_411 : decode cX11_pass 411 = .ok (.getfield 18, 3) := by decide +kernel
theorem dX11_pass_414 : decode cX11_pass 414 = .ok (.iload_n 2, 1) := by decide +kernel
theorem dX11_pass_415 : decode cX11_pass 415 = .ok (.aaload, 1) := by decide +kernel
theorem dX11_pass_416 : decode cX11_pass 416 = .ok (.iload_n 1, 1) := by decide +kernel
theorem dX11_pass_417 : decode cX11_pass 417 = .ok (.aload_n 3, 1) := by decide +kernel
theorem dX11_pass_418 : decode cX11_pass 418 = .ok (.invokevirtual 463, 3) := by decide +kernel
theorem dX11_pass_421 : decode cX11_pass 421 = .ok (.goto 15, 3) := by decide +kernel
theorem dX11_pass_424 : decode cX11_pass 424 = .ok (.aload_n 0, 1) := by decide +kernel
theorem dX11_pass_425 : decode cX11_pass 425 = .ok (.getfield 12, 3) := by decide +kernel
theorem dX11_pass_428 : decode cX11_pass 428 = .ok (.iload_n 1, 1) := by decide +kernel
theorem dX11_pass_429 : decode cX11_pass 429 = .ok (.aload_n 3, 1) := by decide +kernel
theorem dX11_pass_430 : decode cX11_pass 430 = .ok (.invokevirtual 466, 3) := by decide +kernel
theorem dX11_pass_433 : decode cX11_pass 433 = .ok (.goto 3, 3) := by decide +kernel
theorem dX11_pass_436 : decode cX11_pass 436 = .ok (.goto 11, 3) := by decide +kernel
theorem dX11_pass_439 : decode cX11_pass 439 = .ok (.astore 5, 2) := by decide +kernel
theorem dX11_pass_441 : decode cX11_pass 441 = .ok (.aload_n 0, 1) := by decide +kernel
theorem dX11_pass_442 : decode cX11_pass 442 = .ok (.iload_n 2, 1) := by decide +kernel
theorem dX11_pass_443 : decode cX11_pass 443 = .ok (.invokevirtual 195, 3) := by decide +kernel
theorem dX11_pass_446 : decode cX11_pass 446 = .ok (.pop, 1) := by decide +kernel
theorem dX11_pass_447 : decode cX11_pass 447 = .ok (.aload_n 3, 1) := by decide +kernel
theorem dX11_pass_448 : decode cX11_pass 448 = .ok (.getfield 162, 3) := by decide +kernel
theorem dX11_pass_451 : decode cX11_pass 451 = .ok (.ireturn, 1) := by decide +kernel
theorem dX11_replicaFor_0 : decode cX11_replicaFor 0 = .ok (.aload_n 1, 1) := by decide +kernel
theorem dX11_replicaFor_1 : decode cX11_replicaFor 1 = .ok (.getfield 162, 3) := by decide +kernel
theorem dX11_replicaFor_4 : decode cX11_replicaFor 4 = .ok (.tableswitch 136 3 18 #[96, 136, 136, 80, 80, 80, 80, 80, 136, 136, 80, 80, 136, 136, 96, 80], 80) := by decide +kernel
theorem dX11_replicaFor_84 : decode cX11_replicaFor 84 = .ok (.aload_n 0, 1) := by decide +kernel
theorem dX11_replicaFor_85 : decode cX11_replicaFor 85 = .ok (.getfield 18, 3) := by decide +kernel
theorem dX11_replicaFor_88 : decode cX11_replicaFor 88 = .ok (.iload_n 2, 1) := by decide +kernel
theorem dX11_replicaFor_89 : decode cX11_replicaFor 89 = .ok (.aaload, 1) := by decide +kernel
theorem dX11_replicaFor_90 : decode cX11_replicaFor 90 = .ok (.aload_n 1, 1) := by decide +kernel
theorem dX11_replicaFor_91 : decode cX11_replicaFor 91 = .ok (.getfield 165, 3) := by decide +kernel
theorem dX11_replicaFor_94 : decode cX11_replicaFor 94 = .ok (.iconst 0, 1) := by decide +kernel
theorem dX11_replicaFor_95 : decode cX11_replicaFor 95 = .ok (.iaload, 1) := by decide +kernel
theorem dX11_replicaFor_96 : decode cX11_replicaFor 96 = .ok (.invokevirtual 348, 3) := by decide +kernel
theorem dX11_replicaFor_99 : decode cX11_replicaFor 99 = .ok (.areturn, 1) := by decide +kernel
theorem dX11_replicaFor_100 : decode cX11_replicaFor 100 = .ok (.aload_n 0, 1) := by decide +kernel
theorem dX11_replicaFor_101 : decode cX11_replicaFor 101 = .ok (.getfield 12, 3) := by decide +kernel
theorem dX11_replicaFor_104 : decode cX11_replicaFor 104 = .ok (.aload_n 1, 1) := by decide +kernel
theorem dX11_replicaFor_105 : decode cX11_replicaFor 105 = .ok (.getfield 165, 3) := by decide +kernel
theorem dX11_replicaFor_108 : decode cX11_replicaFor 108 = .ok (.iconst 0, 1) := by decide +kernel
theorem dX11_replicaFor_109 : decode cX11_replicaFor 109 = .ok (.iaload, 1) := by decide +kernel
theorem dX11_replicaFor_110 : decode cX11_replicaFor 110 = .ok (.invokevirtual 110, 3) := by decide +kernel
theorem dX11_replicaFor_113 : decode cX11_replicaFor 113 = .ok (.astore_n 3, 1) := by decide +kernel
theorem dX11_replicaFor_114 : decode cX11_replicaFor 114 = .ok (.aload_n 3, 1) := by decide +kernel
theorem dX11_replicaFor_115 : decode cX11_replicaFor 115 = .ok (.ifnonnull 7, 3) := by decide +kernel
theorem dX11_replicaFor_118 : decode cX11_replicaFor 118 = .ok (.aconst_null, 1) := by decide +kernel
theorem dX11_replicaFor_119 : decode cX11_replicaFor 119 = .ok (.goto 20, 3) := by decide +kernel
theorem dX11_replicaFor_122 : decode cX11_replicaFor 122 = .ok (.aload_n 0, 1) := by decide +kernel
theorem dX11_replicaFor_123 : decode cX11_replicaFor 123 = .ok (.getfield 18, 3) := by decide +kernel
theorem dX11_replicaFor_126 : decode cX11_replicaFor 126 = .ok (.iload_n 2, 1) := by decide +kernel
theorem dX11_replicaFor_127 : decode cX11_replicaFor 127 = .ok (.aaload, 1) := by decide +kernel
theorem dX11_replicaFor_128 : decode cX11_replicaFor 128 = .ok (.aload_n 3, 1) := by decide +kernel
theorem dX11_replicaFor_129 : decode cX11_replicaFor 129 = .ok (.aload_n 0, 1) := by decide +kernel
theorem dX11_replicaFor_130 : decode cX11_replicaFor 130 = .ok (.getfield 12, 3) := by decide +kernel
theorem dX11_replicaFor_133 : decode cX11_replicaFor 133 = .ok (.invokevirtual 469, 3) := by decide +kernel
theorem dX11_replicaFor_136 : decode cX11_replicaFor 136 = .ok (.invokevirtual 348, 3) := by decide +kernel
theorem dX11_replicaFor_139 : decode cX11_replicaFor 139 = .ok (.areturn, 1) := by decide +kernel
theorem dX11_replicaFor_140 : decode cX11_replicaFor 140 = .ok (.aconst_null, 1) := by decide +kernel
theorem dX11_replicaFor_141 : decode cX11_replicaFor 141 = .ok (.areturn, 1) := by decide +kernel
theorem dX11_isRowOctet_0 : decode cX11_isRowOctet 0 = .ok (.iload_n 0, 1) := by decide +kernel
theorem dX11_isRowOctet_1 : decode cX11_isRowOctet 1 = .ok (.bipush 48, 2) := by decide +kernel
theorem dX11_isRowOctet_3 : decode cX11_isRowOctet 3 = .ok (.if_icmp .lt 9, 3) := by decide +kernel
theorem dX11_isRowOctet_6 : decode cX11_isRowOctet 6 = .ok (.iload_n 0, 1) := by decide +kernel
theorem dX11_isRowOctet_7 : decode cX11_isRowOctet 7 = .ok (.bipush 57, 2) := by decide +kernel
theorem dX11_isRowOctet_9 : decode cX11_isRowOctet 9 = .ok (.if_icmp .le 27, 3) := by decide +kernel
theorem dX11_isRowOctet_12 : decode cX11_isRowOctet 12 = .ok (.iload_n 0, 1) := by decide +kernel
theorem dX11_isRowOctet_13 : decode cX11_isRowOctet 13 = .ok (.bipush 65, 2) := by decide +kernel
theorem dX11_isRowOctet_15 : decode cX11_isRowOctet 15 = .ok (.if_icmp .lt 9, 3) := by decide +kernel
theorem dX11_isRowOctet_18 : decode cX11_isRowOctet 18 = .ok (.iload_n 0, 1) := by decide +kernel
theorem dX11_isRowOctet_19 : decode cX11_isRowOctet 19 = .ok (.bipush 90, 2) := by decide +kernel
theorem dX11_isRowOctet_21 : decode cX11_isRowOctet 21 = .ok (.if_icmp .le 15, 3) := by decide +kernel
theorem dX11_isRowOctet_24 : decode cX11_isRowOctet 24 = .ok (.iload_n 0, 1) := by decide +kernel
theorem dX11_isRowOctet_25 : decode cX11_isRowOctet 25 = .ok (.bipush 97, 2) := by decide +kernel
theorem dX11_isRowOctet_27 : decode cX11_isRowOctet 27 = .ok (.if_icmp .lt 13, 3) := by decide +kernel
theorem dX11_isRowOctet_30 : decode cX11_isRowOctet 30 = .ok (.iload_n 0, 1) := by decide +kernel
theorem dX11_isRowOctet_31 : decode cX11_isRowOctet 31 = .ok (.bipush 122, 2) := by decide +kernel
theorem dX11_isRowOctet_33 : decode cX11_isRowOctet 33 = .ok (.if_icmp .gt 7, 3) := by decide +kernel
theorem dX11_isRowOctet_36 : decode cX11_isRowOctet 36 = .ok (.iconst 1, 1) := by decide +kernel
theorem dX11_isRowOctet_37 : decode cX11_isRowOctet 37 = .ok (.goto 4, 3) := by decide +kernel
theorem dX11_isRowOctet_40 : decode cX11_isRowOctet 40 = .ok (.iconst 0, 1) := by decide +kernel
theorem dX11_isRowOctet_41 : decode cX11_isRowOctet 41 = .ok (.ireturn, 1) := by decide +kernel
theorem dX11_small_0 : decode cX11_small 0 = .ok (.iload_n 0, 1) := by decide +kernel
theorem dX11_small_1 : decode cX11_small 1 = .ok (.bipush 65, 2) := by decide +kernel
theorem dX11_small_3 : decode cX11_small 3 = .ok (.if_icmp .lt 16, 3) := by decide +kernel
theorem dX11_small_6 : decode cX11_small 6 = .ok (.iload_n 0, 1) := by decide +kernel
theorem dX11_small_7 : decode cX11_small 7 = .ok (.bipush 90, 2) := by decide +kernel
theorem dX11_small_9 : decode cX11_small 9 = .ok (.if_icmp .gt 10, 3) := by decide +kernel
theorem dX11_small_12 : decode cX11_small 12 = .ok (.iload_n 0, 1) := by decide +kernel
theorem dX11_small_13 : decode cX11_small 13 = .ok (.bipush 32, 2) := by decide +kernel
theorem dX11_small_15 : decode cX11_small 15 = .ok (.iadd, 1) := by decide +kernel
theorem dX11_small_16 : decode cX11_small 16 = .ok (.goto 4, 3) := by decide +kernel
theorem dX11_small_19 : decode cX11_small 19 = .ok (.iload_n 0, 1) := by decide +kernel
theorem dX11_small_20 : decode cX11_small 20 = .ok (.ireturn, 1) := by decide +kernel
theorem dX11_rowEnd_0 : decode cX11_rowEnd 0 = .ok (.iload_n 2, 1) := by decide +kernel
theorem dX11_rowEnd_1 : decode cX11_rowEnd 1 = .ok (.istore_n 3, 1) := by decide +kernel
theorem dX11_rowEnd_2 : decode cX11_rowEnd 2 = .ok (.iload_n 3, 1) := by decide +kernel
theorem dX11_rowEnd_3 : decode cX11_rowEnd 3 = .ok (.iload_n 1, 1) := by decide +kernel
theorem dX11_rowEnd_4 : decode cX11_rowEnd 4 = .ok (.if_icmp .ge 18, 3) := by decide +kernel
theorem dX11_rowEnd_7 : decode cX11_rowEnd 7 = .ok (.aload_n 0, 1) := by decide +kernel
theorem dX11_rowEnd_8 : decode cX11_rowEnd 8 = .ok (.iload_n 3, 1) := by decide +kernel
theorem dX11_rowEnd_9 : decode cX11_rowEnd 9 = .ok (.iaload, 1) := by decide +kernel
theorem dX11_rowEnd_10 : decode cX11_rowEnd 10 = .ok (.invokestatic 473, 3) := by decide +kernel
theorem dX11_rowEnd_13 : decode cX11_rowEnd 13 = .ok (.ifCond .eq 9, 3) := by decide +kernel
theorem dX11_rowEnd_16 : decode cX11_rowEnd 16 = .ok (.iinc 3 1, 3) := by decide +kernel
theorem dX11_rowEnd_19 : decode cX11_rowEnd 19 = .ok (.goto (-17), 3) := by decide +kernel
theorem dX11_rowEnd_22 : decode cX11_rowEnd 22 = .ok (.iload_n 3, 1) := by decide +kernel
theorem dX11_rowEnd_23 : decode cX11_rowEnd 23 = .ok (.ireturn, 1) := by decide +kernel
theorem dX11_beginsRow_0 : decode cX11_beginsRow 0 = .ok (.aload_n 0, 1) := by decide +kernel
theorem dX11_beginsRow_1 : decode cX11_beginsRow 1 = .ok (.iload_n 1, 1) := by decide +kernel
theorem dX11_beginsRow_2 : decode cX11_beginsRow 2 = .ok (.iaload, 1) := by decide +kernel
theorem dX11_beginsRow_3 : decode cX11_beginsRow 3 = .ok (.invokestatic 473, 3) := by decide +kernel
theorem dX11_beginsRow_6 : decode cX11_beginsRow 6 = .ok (.ifCond .eq 22, 3) := by decide +kernel
theorem dX11_beginsRow_9 : decode cX11_beginsRow 9 = .ok (.iload_n 1, 1) := by decide +kernel
theorem dX11_beginsRow_10 : decode cX11_beginsRow 10 = .ok (.ifCond .eq 14, 3) := by decide +kernel
theorem dX11_beginsRow_13 : decode cX11_beginsRow 13 = .ok (.aload_n 0, 1) := by decide +kernel
theorem dX11_beginsRow_14 : decode cX11_beginsRow 14 = .ok (.iload_n 1, 1) := by decide +kernel
theorem dX11_beginsRow_15 : decode cX11_beginsRow 15 = .ok (.iconst 1, 1) := by decide +kernel
theorem dX11_beginsRow_16 : decode cX11_beginsRow 16 = .ok (.isub, 1) := by decide +kernel
theorem dX11_beginsRow_17 : decode cX11_beginsRow 17 = .ok (.iaload, 1) := by decide +kernel
theorem dX11_beginsRow_18 : decode cX11_beginsRow 18 = .ok (.invokestatic 473, 3) := by decide +kernel
theorem dX11_beginsRow_21 : decode cX11_beginsRow 21 = .ok (.ifCond .ne 7, 3) := by decide +kernel
theorem dX11_beginsRow_24 : decode cX11_beginsRow 24 = .ok (.iconst 1, 1) := by decide +kernel
theorem dX11_beginsRow_25 : decode cX11_beginsRow 25 = .ok (.goto 4, 3) := by decide +kernel
theorem dX11_beginsRow_28 : decode cX11_beginsRow 28 = .ok (.iconst 0, 1) := by decide +kernel
theorem dX11_beginsRow_29 : decode cX11_beginsRow 29 = .ok (.ireturn, 1) := by decide +kernel
theorem dX11_countRows_0 : decode cX11_countRows 0 = .ok (.iconst 0, 1) := by decide +kernel
theorem dX11_countRows_1 : decode cX11_countRows 1 = .ok (.istore_n 1, 1) := by decide +kernel
theorem dX11_countRows_2 : decode cX11_countRows 2 = .ok (.iconst 0, 1) := by decide +kernel
theorem dX11_countRows_3 : decode cX11_countRows 3 = .ok (.istore_n 2, 1) := by decide +kernel
theorem dX11_countRows_4 : decode cX11_countRows 4 = .ok (.iload_n 2, 1) := by decide +kernel
theorem dX11_countRows_5 : decode cX11_countRows 5 = .ok (.aload_n 0, 1) := by decide +kernel
theorem dX11_countRows_6 : decode cX11_countRows 6 = .ok (.arraylength, 1) := by decide +kernel
theorem dX11_countRows_7 : decode cX11_countRows 7 = .ok (.if_icmp .ge 20, 3) := by decide +kernel
theorem dX11_countRows_10 : decode cX11_countRows 10 = .ok (.aload_n 0, 1) := by decide +kernel
theorem dX11_countRows_11 : decode cX11_countRows 11 = .ok (.iload_n 2, 1) := by decide +kernel
theorem dX11_countRows_12 : decode cX11_countRows 12 = .ok (.invokestatic 476, 3) := by decide +kernel
theorem dX11_countRows_15 : decode cX11_countRows 15 = .ok (.ifCond .eq 6, 3) := by decide +kernel
theorem dX11_countRows_18 : decode cX11_countRows 18 = .ok (.iinc 1 1, 3) := by decide +kernel
theorem dX11_countRows_21 : decode cX11_countRows 21 = .ok (.iinc 2 1, 3) := by decide +kernel
theorem dX11_countRows_24 : decode cX11_countRows 24 = .ok (.goto (-20), 3) := by decide +kernel
theorem dX11_countRows_27 : decode cX11_countRows 27 = .ok (.iload_n 1, 1) := by decide +kernel
theorem dX11_countRows_28 : decode cX11_countRows 28 = .ok (.ireturn, 1) := by decide +kernel
theorem dX11_rowsOf_0 : decode cX11_rowsOf 0 = .ok (.aload_n 0, 1) := by decide +kernel
theorem dX11_rowsOf_1 : decode cX11_rowsOf 1 = .ok (.invokestatic 480, 3) := by decide +kernel
theorem dX11_rowsOf_4 : decode cX11_rowsOf 4 = .ok (.istore_n 1, 1) := by decide +kernel
theorem dX11_rowsOf_5 : decode cX11_rowsOf 5 = .ok (.iload_n 1, 1) := by decide +kernel
theorem dX11_rowsOf_6 : decode cX11_rowsOf 6 = .ok (.ifCond .ne 7, 3) := by decide +kernel
theorem dX11_rowsOf_9 : decode cX11_rowsOf 9 = .ok (.getstatic 484, 3) := by decide +kernel
theorem dX11_rowsOf_12 : decode cX11_rowsOf 12 = .ok (.areturn, 1) := by decide +kernel
theorem dX11_rowsOf_13 : decode cX11_rowsOf 13 = .ok (.iload_n 1, 1) := by decide +kernel
theorem dX11_rowsOf_14 : decode cX11_rowsOf 14 = .ok (.newarray .long, 2) := by decide +kernel
theorem dX11_rowsOf_16 : decode cX11_rowsOf 16 = .ok (.astore_n 2, 1) := by decide +kernel
theorem dX11_rowsOf_17 : decode cX11_rowsOf 17 = .ok (.iconst 0, 1) := by decide +kernel
theorem dX11_rowsOf_18 : decode cX11_rowsOf 18 = .ok (.istore_n 3, 1) := by decide +kernel
theorem dX11_rowsOf_19 : decode cX11_rowsOf 19 = .ok (.iconst 0, 1) := by decide +kernel
theorem dX11_rowsOf_20 : decode cX11_rowsOf 20 = .ok (.istore 4, 2) := by decide +kernel
theorem dX11_rowsOf_22 : decode cX11_rowsOf 22 = .ok (.iload 4, 2) := by decide +kernel
theorem dX11_rowsOf_24 : decode cX11_rowsOf 24 = .ok (.aload_n 0, 1) := by decide +kernel
theorem dX11_rowsOf_25 : decode cX11_rowsOf 25 = .ok (.arraylength, 1) := by decide +kernel
theorem dX11_rowsOf_26 : decode cX11_rowsOf 26 = .ok (.if_icmp .ge 43, 3) := by decide +kernel
theorem dX11_rowsOf_29 : decode cX11_rowsOf 29 = .ok (.iload_n 3, 1) := by decide +kernel
theorem dX11_rowsOf_30 : decode cX11_rowsOf 30 = .ok (.iload_n 1, 1) := by decide +kernel
theorem dX11_rowsOf_31 : decode cX11_rowsOf 31 = .ok (.if_icmp .ge 38, 3) := by decide +kernel
theorem dX11_rowsOf_34 : decode cX11_rowsOf 34 = .ok (.aload_n 0, 1) := by decide +kernel
theorem dX11_rowsOf_35 : decode cX11_rowsOf 35 = .ok (.iload 4, 2) := by decide +kernel
theorem dX11_rowsOf_37 : decode cX11_rowsOf 37 = .ok (.invokestatic 476, 3) := by decide +kernel
theorem dX11_rowsOf_40 : decode cX11_rowsOf 40 = .ok (.ifCond .eq 23, 3) := by decide +kernel
theorem dX11_rowsOf_43 : decode cX11_rowsOf 43 = .ok (.aload_n 2, 1) := by decide +kernel
theorem dX11_rowsOf_44 : decode cX11_rowsOf 44 = .ok (.iload_n 3, 1) := by decide +kernel
theorem dX11_rowsOf_45 : decode cX11_rowsOf 45 = .ok (.aload_n 0, 1) := by decide +kernel
theorem dX11_rowsOf_46 : decode cX11_rowsOf 46 = .ok (.iload 4, 2) := by decide +kernel
theorem dX11_rowsOf_48 : decode cX11_rowsOf 48 = .ok (.aload_n 0, 1) := by decide +kernel
theorem dX11_rowsOf_49 : decode cX11_rowsOf 49 = .ok (.aload_n 0, 1) := by decide +kernel
theorem dX11_rowsOf_50 : decode cX11_rowsOf 50 = .ok (.arraylength, 1) := by decide +kernel
theorem dX11_rowsOf_51 : decode cX11_rowsOf 51 = .ok (.iload 4, 2) := by decide +kernel
theorem dX11_rowsOf_53 : decode cX11_rowsOf 53 = .ok (.invokestatic 488, 3) := by decide +kernel
theorem dX11_rowsOf_56 : decode cX11_rowsOf 56 = .ok (.invokestatic 492, 3) := by decide +kernel
theorem dX11_rowsOf_59 : decode cX11_rowsOf 59 = .ok (.lastore, 1) := by decide +kernel
theorem dX11_rowsOf_60 : decode cX11_rowsOf 60 = .ok (.iinc 3 1, 3) := by decide +kernel
theorem dX11_rowsOf_63 : decode cX11_rowsOf 63 = .ok (.iinc 4 1, 3) := by decide +kernel
theorem dX11_rowsOf_66 : decode cX11_rowsOf 66 = .ok (.goto (-44), 3) := by decide +kernel
theorem dX11_rowsOf_69 : decode cX11_rowsOf 69 = .ok (.aload_n 2, 1) := by decide +kernel
theorem dX11_rowsOf_70 : decode cX11_rowsOf 70 = .ok (.areturn, 1) := by decide +kernel
theorem dX11_wordOf_0 : decode cX11_wordOf 0 = .ok (.iload_n 2, 1) := by decide +kernel
theorem dX11_wordOf_1 : decode cX11_wordOf 1 = .ok (.iload_n 1, 1) := by decide +kernel
theorem dX11_wordOf_2 : decode cX11_wordOf 2 = .ok (.isub, 1) := by decide +kernel
theorem dX11_wordOf_3 : decode cX11_wordOf 3 = .ok (.bipush 12, 2) := by decide +kernel
theorem dX11_wordOf_5 : decode cX11_wordOf 5 = .ok (.invokestatic 496, 3) := by decide +kernel
theorem dX11_wordOf_8 : decode cX11_wordOf 8 = .ok (.istore_n 3, 1) := by decide +kernel
theorem dX11_wordOf_9 : decode cX11_wordOf 9 = .ok (.aload_n 0, 1) := by decide +kernel
theorem dX11_wordOf_10 : decode cX11_wordOf 10 = .ok (.iload_n 1, 1) := by decide +kernel
theorem dX11_wordOf_11 : decode cX11_wordOf 11 = .ok (.iload_n 3, 1) := by decide +kernel
theorem dX11_wordOf_12 : decode cX11_wordOf 12 = .ok (.invokestatic 501, 3) := by decide +kernel
theorem dX11_wordOf_15 : decode cX11_wordOf 15 = .ok (.ifCond .ne 11, 3) := by decide +kernel
theorem dX11_wordOf_18 : decode cX11_wordOf 18 = .ok (.aload_n 0, 1) := by decide +kernel
theorem dX11_wordOf_19 : decode cX11_wordOf 19 = .ok (.iload_n 1, 1) := by decide +kernel
theorem dX11_wordOf_20 : decode cX11_wordOf 20 = .ok (.iload_n 3, 1) := by decide +kernel
theorem dX11_wordOf_21 : decode cX11_wordOf 21 = .ok (.iconst 0, 1) := by decide +kernel
theorem dX11_wordOf_22 : decode cX11_wordOf 22 = .ok (.invokestatic 505, 3) := by decide +kernel
theorem dX11_wordOf_25 : decode cX11_wordOf 25 = .ok (.lreturn, 1) := by decide +kernel
theorem dX11_wordOf_26 : decode cX11_wordOf 26 = .ok (.iload_n 3, 1) := by decide +kernel
theorem dX11_wordOf_27 : decode cX11_wordOf 27 = .ok (.iconst 5, 1) := by decide +kernel
theorem dX11_wordOf_28 : decode cX11_wordOf 28 = .ok (.if_icmp .lt 29, 3) := by decide +kernel
theorem dX11_wordOf_31 : decode cX11_wordOf 31 = .ok (.aload_n 0, 1) := by decide +kernel
theorem dX11_wordOf_32 : decode cX11_wordOf 32 = .ok (.iload_n 1, 1) := by decide +kernel
theorem dX11_wordOf_33 : decode cX11_wordOf 33 = .ok (.iload_n 3, 1) := by decide +kernel
theorem dX11_wordOf_34 : decode cX11_wordOf 34 = .ok (.iadd, 1) := by decide +kernel
theorem dX11_wordOf_35 : decode cX11_wordOf 35 = .ok (.bipush 105, 2) := by decide +kernel
theorem dX11_wordOf_37 : decode cX11_wordOf 37 = .ok (.bipush 101, 2) := by decide +kernel
theorem dX11_wordOf_39 : decode cX11_wordOf 39 = .ok (.bipush 115, 2) := by decide +kernel
theorem dX11_wordOf_41 : decode cX11_wordOf 41 = .ok (.invokestatic 509, 3) := by decide +kernel
theorem dX11_wordOf_44 : decode cX11_wordOf 44 = .ok (.ifCond .eq 13, 3) := by decide +kernel
theorem dX11_wordOf_47 : decode cX11_wordOf 47 = .ok (.aload_n 0, 1) := by decide +kernel
theorem dX11_wordOf_48 : decode cX11_wordOf 48 = .ok (.iload_n 1, 1) := by decide +kernel
theorem dX11_wordOf_49 : decode cX11_wordOf 49 = .ok (.iload_n 3, 1) := by decide +kernel
theorem dX11_wordOf_50 : decode cX11_wordOf 50 = .ok (.iconst 3, 1) := by decide +kernel
theorem dX11_wordOf_51 : decode cX11_wordOf 51 = .ok (.isub, 1) := by decide +kernel
theorem dX11_wordOf_52 : decode cX11_wordOf 52 = .ok (.iconst 1, 1) := by decide +kernel
theorem dX11_wordOf_53 : decode cX11_wordOf 53 = .ok (.invokestatic 505, 3) := by decide +kernel
theorem dX11_wordOf_56 : decode cX11_wordOf 56 = .ok (.lreturn, 1) := by decide +kernel
theorem dX11_wordOf_57 : decode cX11_wordOf 57 = .ok (.iload_n 3, 1) := by decide +kernel
theorem dX11_wordOf_58 : decode cX11_wordOf 58 = .ok (.istore 4, 2) := by decide +kernel
theorem dX11_wordOf_60 : decode cX11_wordOf 60 = .ok (.iload_n 3, 1) := by decide +kernel
theorem dX11_wordOf_61 : decode cX11_wordOf 61 = .ok (.bipush 6, 2) := by decide +kernel
theorem dX11_wordOf_63 : decode cX11_wordOf 63 = .ok (.if_icmp .lt 27, 3) := by decide +kernel
theorem dX11_wordOf_66 : decode cX11_wordOf 66 = .ok (.aload_n 0, 1) := by decide +kernel
theorem dX11_wordOf_67 : decode cX11_wordOf 67 = .ok (.iload_n 1, 1) := by decide +kernel
theorem dX11_wordOf_68 : decode cX11_wordOf 68 = .ok (.iload_n 3, 1) := by decide +kernel
theorem dX11_wordOf_69 : decode cX11_wordOf 69 = .ok (.iadd, 1) := by decide +kernel
theorem dX11_wordOf_70 : decode cX11_wordOf 70 = .ok (.bipush 105, 2) := by decide +kernel
theorem dX11_wordOf_72 : decode cX11_wordOf 72 = .ok (.bipush 110, 2) := by decide +kernel
theorem dX11_wordOf_74 : decode cX11_wordOf 74 = .ok (.bipush 103, 2) := by decide +kernel
theorem dX11_wordOf_76 : decode cX11_wordOf 76 = .ok (.invokestatic 509, 3) := by decide +kernel
theorem dX11_wordOf_79 : decode cX11_wordOf 79 = .ok (.ifCond .eq 11, 3) := by decide +kernel
theorem dX11_wordOf_82 : decode cX11_wordOf 82 = .ok (.iload_n 3, 1) := by decide +kernel
theorem dX11_wordOf_83 : decode cX11_wordOf 83 = .ok (.iconst 3, 1) := by decide +kernel
theorem dX11_wordOf_84 : decode cX11_wordOf 84 = .ok (.isub, 1) := by decide +kernel
theorem dX11_wordOf_85 : decode cX11_wordOf 85 = .ok (.istore 4, 2) := by decide +kernel
theorem dX11_wordOf_87 : decode cX11_wordOf 87 = .ok (.goto 71, 3) := by decide +kernel
theorem dX11_wordOf_90 : decode cX11_wordOf 90 = .ok (.iload_n 3, 1) := by decide +kernel
theorem dX11_wordOf_91 : decode cX11_wordOf 91 = .ok (.iconst 5, 1) := by decide +kernel
theorem dX11_wordOf_92 : decode cX11_wordOf 92 = .ok (.if_icmp .lt 26, 3) := by decide +kernel
theorem dX11_wordOf_95 : decode cX11_wordOf 95 = .ok (.aload_n 0, 1) := by decide +kernel
theorem dX11_wordOf_96 : decode cX11_wordOf 96 = .ok (.iload_n 1, 1) := by decide +kernel
theorem dX11_wordOf_97 : decode cX11_wordOf 97 = .ok (.iload_n 3, 1) := by decide +kernel
theorem dX11_wordOf_98 : decode cX11_wordOf 98 = .ok (.iadd, 1) := by decide +kernel
theorem dX11_wordOf_99 : decode cX11_wordOf 99 = .ok (.iconst 0, 1) := by decide +kernel
theorem dX11_wordOf_100 : decode cX11_wordOf 100 = .ok (.bipush 101, 2) := by decide +kernel
theorem dX11_wordOf_102 : decode cX11_wordOf 102 = .ok (.bipush 100, 2) := by decide +kernel
theorem dX11_wordOf_104 : decode cX11_wordOf 104 = .ok (.invokestatic 509, 3) := by decide +kernel
theorem dX11_wordOf_107 : decode cX11_wordOf 107 = .ok (.ifCond .eq 11, 3) := by decide +kernel
theorem dX11_wordOf_110 : decode cX11_wordOf 110 = .ok (.iload_n 3, 1) := by decide +kernel
theorem dX11_wordOf_111 : decode cX11_wordOf 111 = .ok (.iconst 2, 1) := by decide +kernel
theorem dX11_wordOf_112 : decode cX11_wordOf 112 = .ok (.isub, 1) := by decide +kernel
theorem dX11_wordOf_113 : decode cX11_wordOf 113 = .ok (.istore 4, 2) := by decide +kernel
theorem dX11_wordOf_115 : decode cX11_wordOf 115 = .ok (.goto 43, 3) := by decide +kernel
theorem dX11_wordOf_118 : decode cX11_wordOf 118 = .ok (.iload_n 3, 1) := by decide +kernel
theorem dX11_wordOf_119 : decode cX11_wordOf 119 = .ok (.iconst 4, 1) := by decide +kernel
theorem dX11_wordOf_120 : decode cX11_wordOf 120 = .ok (.if_icmp .lt 38, 3) := by decide +kernel
theorem dX11_wordOf_123 : decode cX11_wordOf 123 = .ok (.aload_n 0, 1) := by decide +kernel
theorem dX11_wordOf_124 : decode cX11_wordOf 124 = .ok (.iload_n 1, 1) := by decide +kernel
theorem dX11_wordOf_125 : decode cX11_wordOf 125 = .ok (.iload_n 3, 1) := by decide +kernel
theorem dX11_wordOf_126 : decode cX11_wordOf 126 = .ok (.iadd, 1) := by decide +kernel
theorem dX11_wordOf_127 : decode cX11_wordOf 127 = .ok (.iconst 1, 1) := by decide +kernel
theorem dX11_wordOf_128 : decode cX11_wordOf 128 = .ok (.isub, 1) := by decide +kernel
theorem dX11_wordOf_129 : decode cX11_wordOf 129 = .ok (.iaload, 1) := by decide +kernel
theorem dX11_wordOf_130 : decode cX11_wordOf 130 = .ok (.invokestatic 513, 3) := by decide +kernel
theorem dX11_wordOf_133 : decode cX11_wordOf 133 = .ok (.bipush 115, 2) := by decide +kernel
theorem dX11_wordOf_135 : decode cX11_wordOf 135 = .ok (.if_icmp .ne 23, 3) := by decide +kernel
theorem dX11_wordOf_138 : decode cX11_wordOf 138 = .ok (.aload_n 0, 1) := by decide +kernel
theorem dX11_wordOf_139 : decode cX11_wordOf 139 = .ok (.iload_n 1, 1) := by decide +kernel
theorem dX11_wordOf_140 : decode cX11_wordOf 140 = .ok (.iload_n 3, 1) := by decide +kernel
theorem dX11_wordOf_141 : decode cX11_wordOf 141 = .ok (.iadd, 1) := by decide +kernel
theorem dX11_wordOf_142 : decode cX11_wordOf 142 = .ok (.iconst 2, 1) := by decide +kernel
theorem dX11_wordOf_143 : decode cX11_wordOf 143 = .ok (.isub, 1) := by decide +kernel
theorem dX11_wordOf_144 : decode cX11_wordOf 144 = .ok (.iaload, 1) := by decide +kernel
theorem dX11_wordOf_145 : decode cX11_wordOf 145 = .ok (.invokestatic 513, 3) := by decide +kernel
theorem dX11_wordOf_148 : decode cX11_wordOf 148 = .ok (.bipush 115, 2) := by decide +kernel
theorem dX11_wordOf_150 : decode cX11_wordOf 150 = .ok (.if_icmp .eq 8, 3) := by decide +kernel
theorem dX11_wordOf_153 : decode cX11_wordOf 153 = .ok (.iload_n 3, 1) := by decide +kernel
theorem dX11_wordOf_154 : decode cX11_wordOf 154 = .ok (.iconst 1, 1) := by decide +kernel
theorem dX11_wordOf_155 : decode cX11_wordOf 155 = .ok (.isub, 1) := by decide +kernel
theorem dX11_wordOf_156 : decode cX11_wordOf 156 = .ok (.istore 4, 2) := by decide +kernel
theorem dX11_wordOf_158 : decode cX11_wordOf 158 = .ok (.aload_n 0, 1) := by decide +kernel
theorem dX11_wordOf_159 : decode cX11_wordOf 159 = .ok (.iload_n 1, 1) := by decide +kernel
theorem dX11_wordOf_160 : decode cX11_wordOf 160 = .ok (.iload 4, 2) := by decide +kernel
theorem dX11_wordOf_162 : decode cX11_wordOf 162 = .ok (.invokestatic 516, 3) := by decide +kernel
theorem dX11_wordOf_165 : decode cX11_wordOf 165 = .ok (.ifCond .eq 7, 3) := by decide +kernel
theorem dX11_wordOf_168 : decode cX11_wordOf 168 = .ok (.lconst 0, 1) := by decide +kernel
theorem dX11_wordOf_169 : decode cX11_wordOf 169 = .ok (.goto 11, 3) := by decide +kernel
theorem dX11_wordOf_172 : decode cX11_wordOf 172 = .ok (.aload_n 0, 1) := by decide +kernel
theorem dX11_wordOf_173 : decode cX11_wordOf 173 = .ok (.iload_n 1, 1) := by decide +kernel
theorem dX11_wordOf_174 : decode cX11_wordOf 174 = .ok (.iload 4, 2) := by decide +kernel
theorem dX11_wordOf_176 : decode cX11_wordOf 176 = .ok (.iconst 0, 1) := by decide +kernel
theorem dX11_wordOf_177 : decode cX11_wordOf 177 = .ok (.invokestatic 505, 3) := by decide +kernel
theorem dX11_wordOf_180 : decode cX11_wordOf 180 = .ok (.lreturn, 1) := by decide +kernel
theorem dX11_lettersAlone_0 : decode cX11_lettersAlone 0 = .ok (.iconst 0, 1) := by decide +kernel
theorem dX11_lettersAlone_1 : decode cX11_lettersAlone 1 = .ok (.istore_n 3, 1) := by decide +kernel
theorem dX11_lettersAlone_2 : decode cX11_lettersAlone 2 = .ok (.iload_n 3, 1) := by decide +kernel
theorem dX11_lettersAlone_3 : decode cX11_lettersAlone 3 = .ok (.iload_n 2, 1) := by decide +kernel
theorem dX11_lettersAlone_4 : decode cX11_lettersAlone 4 = .ok (.if_icmp .ge 21, 3) := by decide +kernel
theorem dX11_lettersAlone_7 : decode cX11_lettersAlone 7 = .ok (.aload_n 0, 1) := by decide +kernel
theorem dX11_lettersAlone_8 : decode cX11_lettersAlone 8 = .ok (.iload_n 1, 1) := by decide +kernel
theorem dX11_lettersAlone_9 : decode cX11_lettersAlone 9 = .ok (.iload_n 3, 1) := by decide +kernel
theorem dX11_lettersAlone_10 : decode cX11_lettersAlone 10 = .ok (.iadd, 1) := by decide +kernel
theorem dX11_lettersAlone_11 : decode cX11_lettersAlone 11 = .ok (.iaload, 1) := by decide +kernel
theorem dX11_lettersAlone_12 : decode cX11_lettersAlone 12 = .ok (.bipush 57, 2) := by decide +kernel
theorem dX11_lettersAlone_14 : decode cX11_lettersAlone 14 = .ok (.if_icmp .gt 5, 3) := by decide +kernel
theorem dX11_lettersAlone_17 : decode cX11_lettersAlone 17 = .ok (.iconst 0, 1) := by decide +kernel
theorem dX11_lettersAlone_18 : decode cX11_lettersAlone 18 = .ok (.ireturn, 1) := by decide +kernel
theorem dX11_lettersAlone_19 : decode cX11_lettersAlone 19 = .ok (.iinc 3 1, 3) := by decide +kernel
theorem dX11_lettersAlone_22 : decode cX11_lettersAlone 22 = .ok (.goto (-20), 3) := by decide +kernel
theorem dX11_lettersAlone_25 : decode cX11_lettersAlone 25 = .ok (.iconst 1, 1) := by decide +kernel
theorem dX11_lettersAlone_26 : decode cX11_lettersAlone 26 = .ok (.ireturn, 1) := by decide +kernel
theorem dX11_endsWith_0 : decode cX11_endsWith 0 = .ok (.iload_n 2, 1) := by decide +kernel
theorem dX11_endsWith_1 : decode cX11_endsWith 1 = .ok (.ifCond .eq 15, 3) := by decide +kernel
theorem dX11_endsWith_4 : decode cX11_endsWith 4 = .ok (.aload_n 0, 1) := by decide +kernel
theorem dX11_endsWith_5 : decode cX11_endsWith 5 = .ok (.iload_n 1, 1) := by decide +kernel
theorem dX11_endsWith_6 : decode cX11_endsWith 6 = .ok (.iconst 3, 1) := by decide +kernel
theorem dX11_endsWith_7 : decode cX11_endsWith 7 = .ok (.isub, 1) := by decide +kernel
theorem dX11_endsWith_8 : decode cX11_endsWith 8 = .ok (.iaload, 1) := by decide +kernel
theorem dX11_endsWith_9 : decode cX11_endsWith 9 = .ok (.invokestatic 513, 3) := by decide +kernel
theorem dX11_endsWith_12 : decode cX11_endsWith 12 = .ok (.iload_n 2, 1) := by decide +kernel
theorem dX11_endsWith_13 : decode cX11_endsWith 13 = .ok (.if_icmp .ne 32, 3) := by decide +kernel
theorem dX11_endsWith_16 : decode cX11_endsWith 16 = .ok (.aload_n 0, 1) := by decide +kernel
theorem dX11_endsWith_17 : decode cX11_endsWith 17 = .ok (.iload_n 1, 1) := by decide +kernel
theorem dX11_endsWith_18 : decode cX11_endsWith 18 = .ok (.iconst 2, 1) := by decide +kernel
theorem dX11_endsWith_19 : decode cX11_endsWith 19 = .ok (.isub, 1) := by decide +kernel
theorem dX11_endsWith_20 : decode cX11_endsWith 20 = .ok (.iaload, 1) := by decide +kernel
theorem dX11_endsWith_21 : decode cX11_endsWith 21 = .ok (.invokestatic 513, 3) := by decide +kernel
theorem dX11_endsWith_24 : decode cX11_endsWith 24 = .ok (.iload_n 3, 1) := by decide +kernel
theorem dX11_endsWith_25 : decode cX11_endsWith 25 = .ok (.if_icmp .ne 20, 3) := by decide +kernel
theorem dX11_endsWith_28 : decode cX11_endsWith 28 = .ok (.aload_n 0, 1) := by decide +kernel
theorem dX11_endsWith_29 : decode cX11_endsWith 29 = .ok (.iload_n 1, 1) := by decide +kernel
theorem dX11_endsWith_30 : decode cX11_endsWith 30 = .ok (.iconst 1, 1) := by decide +kernel
theorem dX11_endsWith_31 : decode cX11_endsWith 31 = .ok (.isub, 1) := by decide +kernel
theorem dX11_endsWith_32 : decode cX11_endsWith 32 = .ok (.iaload, 1) := by decide +kernel
theorem dX11_endsWith_33 : decode cX11_endsWith 33 = .ok (.invokestatic 513, 3) := by decide +kernel
theorem dX11_endsWith_36 : decode cX11_endsWith 36 = .ok (.iload 4, 2) := by decide +kernel
theorem dX11_endsWith_38 : decode cX11_endsWith 38 = .ok (.if_icmp .ne 7, 3) := by decide +kernel
theorem dX11_endsWith_41 : decode cX11_endsWith 41 = .ok (.iconst 1, 1) := by decide +kernel
theorem dX11_endsWith_42 : decode cX11_endsWith 42 = .ok (.goto 4, 3) := by decide +kernel
theorem dX11_endsWith_45 : decode cX11_endsWith 45 = .ok (.iconst 0, 1) := by decide +kernel
theorem dX11_endsWith_46 : decode cX11_endsWith 46 = .ok (.ireturn, 1) := by decide +kernel
theorem dX11_isLittle_0 : decode cX11_isLittle 0 = .ok (.iload_n 2, 1) := by decide +kernel
theorem dX11_isLittle_1 : decode cX11_isLittle 1 = .ok (.iconst 1, 1) := by decide +kernel
theorem dX11_isLittle_2 : decode cX11_isLittle 2 = .ok (.if_icmp .ge 7, 3) := by decide +kernel
theorem dX11_isLittle_5 : decode cX11_isLittle 5 = .ok (.iconst 0, 1) := by decide +kernel
theorem dX11_isLittle_6 : decode cX11_isLittle 6 = .ok (.goto 9, 3) := by decide +kernel
theorem dX11_isLittle_9 : decode cX11_isLittle 9 = .ok (.aload_n 0, 1) := by decide +kernel
theorem dX11_isLittle_10 : decode cX11_isLittle 10 = .ok (.iload_n 1, 1) := by decide +kernel
theorem dX11_isLittle_11 : decode cX11_isLittle 11 = .ok (.iaload, 1) := by decide +kernel
theorem dX11_isLittle_12 : decode cX11_isLittle 12 = .ok (.invokestatic 513, 3) := by decide +kernel
theorem dX11_isLittle_15 : decode cX11_isLittle 15 = .ok (.istore_n 3, 1) := by decide +kernel
theorem dX11_isLittle_16 : decode cX11_isLittle 16 = .ok (.iload_n 2, 1) := by decide +kernel
theorem dX11_isLittle_17 : decode cX11_isLittle 17 = .ok (.iconst 2, 1) := by decide +kernel
theorem dX11_isLittle_18 : decode cX11_isLittle 18 = .ok (.if_icmp .ge 7, 3) := by decide +kernel
theorem dX11_isLittle_21 : decode cX11_isLittle 21 = .ok (.iconst 0, 1) := by decide +kernel
theorem dX11_isLittle_22 : decode cX11_isLittle 22 = .ok (.goto 11, 3) := by decide +kernel
theorem dX11_isLittle_25 : decode cX11_isLittle 25 = .ok (.aload_n 0, 1) := by decide +kernel
theorem dX11_isLittle_26 : decode cX11_isLittle 26 = .ok (.iload_n 1, 1) := by decide +kernel
theorem dX11_isLittle_27 : decode cX11_isLittle 27 = .ok (.iconst 1, 1) := by decide +kernel
theorem dX11_isLittle_28 : decode cX11_isLittle 28 = .ok (.iadd, 1) := by decide +kernel
theorem dX11_isLittle_29 : decode cX11_isLittle 29 = .ok (.iaload, 1) := by decide +kernel
theorem dX11_isLittle_30 : decode cX11_isLittle 30 = .ok (.invokestatic 513, 3) := by decide +kernel
theorem dX11_isLittle_33 : decode cX11_isLittle 33 = .ok (.istore 4, 2) := by decide +kernel
theorem dX11_isLittle_35 : decode cX11_isLittle 35 = .ok (.iload_n 2, 1) := by decide +kernel
theorem dX11_isLittle_36 : decode cX11_isLittle 36 = .ok (.iconst 1, 1) := by decide +kernel
theorem dX11_isLittle_37 : decode cX11_isLittle 37 = .ok (.if_icmp .ne 15, 3) := by decide +kernel
theorem dX11_isLittle_40 : decode cX11_isLittle 40 = .ok (.iload_n 3, 1) := by decide +kernel
theorem dX11_isLittle_41 : decode cX11_isLittle 41 = .ok (.bipush 97, 2) := by decide +kernel
theorem dX11_isLittle_43 : decode cX11_isLittle 43 = .ok (.if_icmp .ne 7, 3) := by decide +kernel
theorem dX11_isLittle_46 : decode cX11_isLittle 46 = .ok (.iconst 1, 1) := by decide +kernel
theorem dX11_isLittle_47 : decode cX11_isLittle 47 = .ok (.goto 4, 3) := by decide +kernel
theorem dX11_isLittle_50 : decode cX11_isLittle 50 = .ok (.iconst 0, 1) := by decide +kernel
theorem dX11_isLittle_51 : decode cX11_isLittle 51 = .ok (.ireturn, 1) := by decide +kernel
theorem dX11_isLittle_52 : decode cX11_isLittle 52 = .ok (.iload_n 2, 1) := by decide +kernel
theorem dX11_isLittle_53 : decode cX11_isLittle 53 = .ok (.iconst 2, 1) := by decide +kernel
theorem dX11_isLittle_54 : decode cX11_isLittle 54 = .ok (.if_icmp .ne 35, 3) := by decide +kernel
theorem dX11_isLittle_57 : decode cX11_isLittle 57 = .ok (.iload_n 3, 1) := by decide +kernel
theorem dX11_isLittle_58 : decode cX11_isLittle 58 = .ok (.bipush 97, 2) := by decide +kernel
theorem dX11_isLittle_60 : decode cX11_isLittle 60 = .ok (.if_icmp .ne 10, 3) := by decide +kernel
theorem dX11_isLittle_63 : decode cX11_isLittle 63 = .ok (.iload 4, 2) := by decide +kernel
theorem dX11_isLittle_65 : decode cX11_isLittle 65 = .ok (.bipush 110, 2) := by decide +kernel
theorem dX11_isLittle_67 : decode cX11_isLittle 67 = .ok (.if_icmp .eq 16, 3) := by decide +kernel
theorem dX11_isLittle_70 : decode cX11_isLittle 70 = .ok (.iload_n 3, 1) := by decide +kernel
theorem dX11_isLittle_71 : decode cX11_isLittle 71 = .ok (.bipush 111, 2) := by decide +kernel
theorem dX11_isLittle_73 : decode cX11_isLittle 73 = .ok (.if_icmp .ne 14, 3) := by decide +kernel
theorem dX11_isLittle_76 : decode cX11_isLittle 76 = .ok (.iload 4, 2) := by decide +kernel
theorem dX11_isLittle_78 : decode cX11_isLittle 78 = .ok (.bipush 102, 2) := by decide +kernel
theorem dX11_isLittle_80 : decode cX11_isLittle 80 = .ok (.if_icmp .ne 7, 3) := by decide +kernel
theorem dX11_isLittle_83 : decode cX11_isLittle 83 = .ok (.iconst 1, 1) := by decide +kernel
theorem dX11_isLittle_84 : decode cX11_isLittle 84 = .ok (.goto 4, 3) := by decide +kernel
theorem dX11_isLittle_87 : decode cX11_isLittle 87 = .ok (.iconst 0, 1) := by decide +kernel
theorem dX11_isLittle_88 : decode cX11_isLittle 88 = .ok (.ireturn, 1) := by decide +kernel
theorem dX11_isLittle_89 : decode cX11_isLittle 89 = .ok (.iload_n 2, 1) := by decide +kernel
theorem dX11_isLittle_90 : decode cX11_isLittle 90 = .ok (.iconst 3, 1) := by decide +kernel
theorem dX11_isLittle_91 : decode cX11_isLittle 91 = .ok (.if_icmp .ne 33, 3) := by decide +kernel
theorem dX11_isLittle_94 : decode cX11_isLittle 94 = .ok (.iload_n 3, 1) := by decide +kernel
theorem dX11_isLittle_95 : decode cX11_isLittle 95 = .ok (.bipush 116, 2) := by decide +kernel
theorem dX11_isLittle_97 : decode cX11_isLittle 97 = .ok (.if_icmp .ne 27, 3) := by decide +kernel
theorem dX11_isLittle_100 : decode cX11_isLittle 100 = .ok (.iload 4, 2) := by decide +kernel
theorem dX11_isLittle_102 : decode cX11_isLittle 102 = .ok (.bipush 104, 2) := by decide +kernel
theorem dX11_isLittle_104 : decode cX11_isLittle 104 = .ok (.if_icmp .ne 20, 3) := by decide +kernel
theorem dX11_isLittle_107 : decode cX11_isLittle 107 = .ok (.aload_n 0, 1) := by decide +kernel
theorem dX11_isLittle_108 : decode cX11_isLittle 108 = .ok (.iload_n 1, 1) := by decide +kernel
theorem dX11_isLittle_109 : decode cX11_isLittle 109 = .ok (.iconst 2, 1) := by decide +kernel
theorem dX11_isLittle_110 : decode cX11_isLittle 110 = .ok (.iadd, 1) := by decide +kernel
theorem dX11_isLittle_111 : decode cX11_isLittle 111 = .ok (.iaload, 1) := by decide +kernel
theorem dX11_isLittle_112 : decode cX11_isLittle 112 = .ok (.invokestatic 513, 3) := by decide +kernel
theorem dX11_isLittle_115 : decode cX11_isLittle 115 = .ok (.bipush 101, 2) := by decide +kernel
theorem dX11_isLittle_117 : decode cX11_isLittle 117 = .ok (.if_icmp .ne 7, 3) := by decide +kernel
theorem dX11_isLittle_120 : decode cX11_isLittle 120 = .ok (.iconst 1, 1) := by decide +kernel
theorem dX11_isLittle_121 : decode cX11_isLittle 121 = .ok (.goto 4, 3) := by decide +kernel
theorem dX11_isLittle_124 : decode cX11_isLittle 124 = .ok (.iconst 0, 1) := by decide +kernel
theorem dX11_isLittle_125 : decode cX11_isLittle 125 = .ok (.ireturn, 1) := by decide +kernel
theorem dX11_packed_0 : decode cX11_packed 0 = .ok (.lconst 0, 1) := by decide +kernel
theorem dX11_packed_1 : decode cX11_packed 1 = .ok (.lstore 4, 2) := by decide +kernel
theorem dX11_packed_3 : decode cX11_packed 3 = .ok (.iconst 0, 1) := by decide +kernel
theorem dX11_packed_4 : decode cX11_packed 4 = .ok (.istore 6, 2) := by decide +kernel
theorem dX11_packed_6 : decode cX11_packed 6 = .ok (.iload 6, 2) := by decide +kernel
theorem dX11_packed_8 : decode cX11_packed 8 = .ok (.bipush 12, 2) := by decide +kernel
theorem dX11_packed_10 : decode cX11_packed 10 = .ok (.if_icmp .ge 60, 3) := by decide +kernel
theorem dX11_packed_13 : decode cX11_packed 13 = .ok (.iload 6, 2) := by decide +kernel
theorem dX11_packed_15 : decode cX11_packed 15 = .ok (.iload_n 2, 1) := by decide +kernel
theorem dX11_packed_16 : decode cX11_packed 16 = .ok (.if_icmp .ge 15, 3) := by decide +kernel
theorem dX11_packed_19 : decode cX11_packed 19 = .ok (.aload_n 0, 1) := by decide +kernel
theorem dX11_packed_20 : decode cX11_packed 20 = .ok (.iload_n 1, 1) := by decide +kernel
theorem dX11_packed_21 : decode cX11_packed 21 = .ok (.iload 6, 2) := by decide +kernel
theorem dX11_packed_23 : decode cX11_packed 23 = .ok (.iadd, 1) := by decide +kernel
theorem dX11_packed_24 : decode cX11_packed 24 = .ok (.iaload, 1) := by decide +kernel
theorem dX11_packed_25 : decode cX11_packed 25 = .ok (.invokestatic 513, 3) := by decide +kernel
theorem dX11_packed_28 : decode cX11_packed 28 = .ok (.goto 19, 3) := by decide +kernel
theorem dX11_packed_31 : decode cX11_packed 31 = .ok (.iload_n 3, 1) := by decide +kernel
theorem dX11_packed_32 : decode cX11_packed 32 = .ok (.ifCond .eq 14, 3) := by decide +kernel
theorem dX11_packed_35 : decode cX11_packed 35 = .ok (.iload 6, 2) := by decide +kernel
theorem dX11_packed_37 : decode cX11_packed 37 = .ok (.iload_n 2, 1) := by decide +kernel
theorem dX11_packed_38 : decode cX11_packed 38 = .ok (.if_icmp .ne 8, 3) := by decide +kernel
theorem dX11_packed_41 : decode cX11_packed 41 = .ok (.bipush 121, 2) := by decide +kernel
theorem dX11_packed_43 : decode cX11_packed 43 = .ok (.goto 4, 3) := by decide +kernel
theorem dX11_packed_46 : decode cX11_packed 46 = .ok (.iconst 0, 1) := by decide +kernel
theorem dX11_packed_47 : decode cX11_packed 47 = .ok (.istore 7, 2) := by decide +kernel
theorem dX11_packed_49 : decode cX11_packed 49 = .ok (.lload 4, 2) := by decide +kernel
theorem dX11_packed_51 : decode cX11_packed 51 = .ok (.ldc2_w 519, 3) := by decide +kernel
theorem dX11_packed_54 : decode cX11_packed 54 = .ok (.lmul, 1) := by decide +kernel
theorem dX11_packed_55 : decode cX11_packed 55 = .ok (.iload 7, 2) := by decide +kernel
theorem dX11_packed_57 : decode cX11_packed 57 = .ok (.invokestatic 521, 3) := by decide +kernel
theorem dX11_packed_60 : decode cX11_packed 60 = .ok (.i2l, 1) := by decide +kernel
theorem dX11_packed_61 : decode cX11_packed 61 = .ok (.ladd, 1) := by decide +kernel
theorem dX11_packed_62 : decode cX11_packed 62 = .ok (.lstore 4, 2) := by decide +kernel
theorem dX11_packed_64 : decode cX11_packed 64 = .ok (.iinc 6 1, 3) := by decide +kernel
theorem dX11_packed_67 : decode cX11_packed 67 = .ok (.goto (-61), 3) := by decide +kernel
theorem dX11_packed_70 : decode cX11_packed 70 = .ok (.lload 4, 2) := by decide +kernel
theorem dX11_packed_72 : decode cX11_packed 72 = .ok (.lreturn, 1) := by decide +kernel
theorem dX11_figureOf_0 : decode cX11_figureOf 0 = .ok (.iload_n 0, 1) := by decide +kernel
theorem dX11_figureOf_1 : decode cX11_figureOf 1 = .ok (.ifCond .ne 5, 3) := by decide +kernel
theorem dX11_figureOf_4 : decode cX11_figureOf 4 = .ok (.iconst 0, 1) := by decide +kernel
theorem dX11_figureOf_5 : decode cX11_figureOf 5 = .ok (.ireturn, 1) := by decide +kernel
theorem dX11_figureOf_6 : decode cX11_figureOf 6 = .ok (.iload_n 0, 1) := by decide +kernel
theorem dX11_figureOf_7 : decode cX11_figureOf 7 = .ok (.bipush 57, 2) := by decide +kernel
theorem dX11_figureOf_9 : decode cX11_figureOf 9 = .ok (.if_icmp .gt 12, 3) := by decide +kernel
theorem dX11_figureOf_12 : decode cX11_figureOf 12 = .ok (.iload_n 0, 1) := by decide +kernel
theorem dX11_figureOf_13 : decode cX11_figureOf 13 = .ok (.bipush 48, 2) := by decide +kernel
theorem dX11_figureOf_15 : decode cX11_figureOf 15 = .ok (.isub, 1) := by decide +kernel
theorem dX11_figureOf_16 : decode cX11_figureOf 16 = .ok (.iconst 1, 1) := by decide +kernel
theorem dX11_figureOf_17 : decode cX11_figureOf 17 = .ok (.iadd, 1) := by decide +kernel
theorem dX11_figureOf_18 : decode cX11_figureOf 18 = .ok (.goto 10, 3) := by decide +kernel
theorem dX11_figureOf_21 : decode cX11_figureOf 21 = .ok (.iload_n 0, 1) := by decide +kernel
theorem dX11_figureOf_22 : decode cX11_figureOf 22 = .ok (.bipush 97, 2) := by decide +kernel
theorem dX11_figureOf_24 : decode cX11_figureOf 24 = .ok (.isub, 1) := by decide +kernel
theorem dX11_figureOf_25 : decode cX11_figureOf 25 = .ok (.bipush 11, 2) := by decide +kernel
theorem dX11_figureOf_27 : decode cX11_figureOf 27 = .ok (.iadd, 1) := by decide +kernel
theorem dX11_figureOf_28 : decode cX11_figureOf 28 = .ok (.ireturn, 1) := by decide +kernel
theorem dX11_rank_0 : decode cX11_rank 0 = .ok (.iload_n 2, 1) := by decide +kernel
theorem dX11_rank_1 : decode cX11_rank 1 = .ok (.istore 6, 2) := by decide +kernel
theorem dX11_rank_3 : decode cX11_rank 3 = .ok (.iload 6, 2) := by decide +kernel
theorem dX11_rank_5 : decode cX11_rank 5 = .ok (.ifCond .le 28, 3) := by decide +kernel
theorem dX11_rank_8 : decode cX11_rank 8 = .ok (.aload_n 0, 1) := by decide +kernel
theorem dX11_rank_9 : decode cX11_rank 9 = .ok (.iload_n 1, 1) := by decide +kernel
theorem dX11_rank_10 : decode cX11_rank 10 = .ok (.iconst 2, 1) := by decide +kernel
theorem dX11_rank_11 : decode cX11_rank 11 = .ok (.iload 6, 2) := by decide +kernel
theorem dX11_rank_13 : decode cX11_rank 13 = .ok (.iconst 1, 1) := by decide +kernel
theorem dX11_rank_14 : decode cX11_rank 14 = .ok (.isub, 1) := by decide +kernel
theorem dX11_rank_15 : decode cX11_rank 15 = .ok (.imul, 1) := by decide +kernel
theorem dX11_rank_16 : decode cX11_rank 16 = .ok (.iadd, 1) := by decide +kernel
theorem dX11_rank_17 : decode cX11_rank 17 = .ok (.iload 4, 2) := by decide +kernel
theorem dX11_rank_19 : decode cX11_rank 19 = .ok (.iload 5, 2) := by decide +kernel
theorem dX11_rank_21 : decode cX11_rank 21 = .ok (.invokestatic 524, 3) := by decide +kernel
theorem dX11_rank_24 : decode cX11_rank 24 = .ok (.ifCond .eq 9, 3) := by decide +kernel
theorem dX11_rank_27 : decode cX11_rank 27 = .ok (.iinc 6 (-1), 3) := by decide +kernel
theorem dX11_rank_30 : decode cX11_rank 30 = .ok (.goto (-27), 3) := by decide +kernel
theorem dX11_rank_33 : decode cX11_rank 33 = .ok (.iload 6, 2) := by decide +kernel
theorem dX11_rank_35 : decode cX11_rank 35 = .ok (.iload_n 3, 1) := by decide +kernel
theorem dX11_rank_36 : decode cX11_rank 36 = .ok (.if_icmp .lt 5, 3) := by decide +kernel
theorem dX11_rank_39 : decode cX11_rank 39 = .ok (.iload_n 2, 1) := by decide +kernel
theorem dX11_rank_40 : decode cX11_rank 40 = .ok (.ireturn, 1) := by decide +kernel
theorem dX11_rank_41 : decode cX11_rank 41 = .ok (.iload_n 2, 1) := by decide +kernel
theorem dX11_rank_42 : decode cX11_rank 42 = .ok (.iload_n 3, 1) := by decide +kernel
theorem dX11_rank_43 : decode cX11_rank 43 = .ok (.iconst 1, 1) := by decide +kernel
theorem dX11_rank_44 : decode cX11_rank 44 = .ok (.isub, 1) := by decide +kernel
theorem dX11_rank_45 : decode cX11_rank 45 = .ok (.invokestatic 496, 3) := by decide +kernel
theorem dX11_rank_48 : decode cX11_rank 48 = .ok (.istore 7, 2) := by decide +kernel
theorem dX11_rank_50 : decode cX11_rank 50 = .ok (.iload 7, 2) := by decide +kernel
theorem dX11_rank_52 : decode cX11_rank 52 = .ok (.istore 8, 2) := by decide +kernel
theorem dX11_rank_54 : decode cX11_rank 54 = .ok (.iload 8, 2) := by decide +kernel
theorem dX11_rank_56 : decode cX11_rank 56 = .ok (.iload 6, 2) := by decide +kernel
theorem dX11_rank_58 : decode cX11_rank 58 = .ok (.if_icmp .le 47, 3) := by decide +kernel
theorem dX11_rank_61 : decode cX11_rank 61 = .ok (.aload_n 0, 1) := by decide +kernel
theorem dX11_rank_62 : decode cX11_rank 62 = .ok (.iload_n 1, 1) := by decide +kernel
theorem dX11_rank_63 : decode cX11_rank 63 = .ok (.iconst 2, 1) := by decide +kernel
theorem dX11_rank_64 : decode cX11_rank 64 = .ok (.iload 8, 2) := by decide +kernel
theorem dX11_rank_66 : decode cX11_rank 66 = .ok (.imul, 1) := by decide +kernel
theorem dX11_rank_67 : decode cX11_rank 67 = .ok (.iadd, 1) := by decide +kernel
theorem dX11_rank_68 : decode cX11_rank 68 = .ok (.aload_n 0, 1) := by decide +kernel
theorem dX11_rank_69 : decode cX11_rank 69 = .ok (.iload_n 1, 1) := by decide +kernel
theorem dX11_rank_70 : decode cX11_rank 70 = .ok (.iconst 2, 1) := by decide +kernel
theorem dX11_rank_71 : decode cX11_rank 71 = .ok (.iload 8, 2) := by decide +kernel
theorem dX11_rank_73 : decode cX11_rank 73 = .ok (.imul, 1) := by decide +kernel
theorem dX11_rank_74 : decode cX11_rank 74 = .ok (.iadd, 1) := by decide +kernel
theorem dX11_rank_75 : decode cX11_rank 75 = .ok (.iconst 2, 1) := by decide +kernel
theorem dX11_rank_76 : decode cX11_rank 76 = .ok (.isub, 1) := by decide +kernel
theorem dX11_rank_77 : decode cX11_rank 77 = .ok (.iaload, 1) := by decide +kernel
theorem dX11_rank_78 : decode cX11_rank 78 = .ok (.iastore, 1) := by decide +kernel
theorem dX11_rank_79 : decode cX11_rank 79 = .ok (.aload_n 0, 1) := by decide +kernel
theorem dX11_rank_80 : decode cX11_rank 80 = .ok (.iload_n 1, 1) := by decide +kernel
theorem dX11_rank_81 : decode cX11_rank 81 = .ok (.iconst 2, 1) := by decide +kernel
theorem dX11_rank_82 : decode cX11_rank 82 = .ok (.iload 8, 2) := by decide +kernel
theorem dX11_rank_84 : decode cX11_rank 84 = .ok (.imul, 1) := by decide +kernel
theorem dX11_rank_85 : decode cX11_rank 85 = .ok (.iadd, 1) := by decide +kernel
theorem dX11_rank_86 : decode cX11_rank 86 = .ok (.iconst 1, 1) := by decide +kernel
theorem dX11_rank_87 : decode cX11_rank 87 = .ok (.iadd, 1) := by decide +kernel
theorem dX11_rank_88 : decode cX11_rank 88 = .ok (.aload_n 0, 1) := by decide +kernel
theorem dX11_rank_89 : decode cX11_rank 89 = .ok (.iload_n 1, 1) := by decide +kernel
theorem dX11_rank_90 : decode cX11_rank 90 = .ok (.iconst 2, 1) := by decide +kernel
theorem dX11_rank_91 : decode cX11_rank 91 = .ok (.iload 8, 2) := by decide +kernel
theorem dX11_rank_93 : decode cX11_rank 93 = .ok (.imul, 1) := by decide +kernel
theorem dX11_rank_94 : decode cX11_rank 94 = .ok (.iadd, 1) := by decide +kernel
theorem dX11_rank_95 : decode cX11_rank 95 = .ok (.iconst 1, 1) := by decide +kernel
theorem dX11_rank_96 : decode cX11_rank 96 = .ok (.isub, 1) := by decide +kernel
theorem dX11_rank_97 : decode cX11_rank 97 = .ok (.iaload, 1) := by decide +kernel
theorem dX11_rank_98 : decode cX11_rank 98 = .ok (.iastore, 1) := by decide +kernel
theorem dX11_rank_99 : decode cX11_rank 99 = .ok (.iinc 8 (-1), 3) := by decide +kernel
theorem dX11_rank_102 : decode cX11_rank 102 = .ok (.goto (-48), 3) := by decide +kernel
theorem dX11_rank_105 : decode cX11_rank 105 = .ok (.aload_n 0, 1) := by decide +kernel
theorem dX11_rank_106 : decode cX11_rank 106 = .ok (.iload_n 1, 1) := by decide +kernel
theorem dX11_rank_107 : decode cX11_rank 107 = .ok (.iconst 2, 1) := by decide +kernel
theorem dX11_rank_108 : decode cX11_rank 108 = .ok (.iload 6, 2) := by decide +kernel
theorem dX11_rank_110 : decode cX11_rank 110 = .ok (.imul, 1) := by decide +kernel
theorem dX11_rank_111 : decode cX11_rank 111 = .ok (.iadd, 1) := by decide +kernel
theorem dX11_rank_112 : decode cX11_rank 112 = .ok (.iload 4, 2) := by decide +kernel
theorem dX11_rank_114 : decode cX11_rank 114 = .ok (.iastore, 1) := by decide +kernel
theorem dX11_rank_115 : decode cX11_rank 115 = .ok (.aload_n 0, 1) := by decide +kernel
theorem dX11_rank_116 : decode cX11_rank 116 = .ok (.iload_n 1, 1) := by decide +kernel
theorem dX11_rank_117 : decode cX11_rank 117 = .ok (.iconst 2, 1) := by decide +kernel
theorem dX11_rank_118 : decode cX11_rank 118 = .ok (.iload 6, 2) := by decide +kernel
theorem dX11_rank_120 : decode cX11_rank 120 = .ok (.imul, 1) := by decide +kernel
theorem dX11_rank_121 : decode cX11_rank 121 = .ok (.iadd, 1) := by decide +kernel
theorem dX11_rank_122 : decode cX11_rank 122 = .ok (.iconst 1, 1) := by decide +kernel
theorem dX11_rank_123 : decode cX11_rank 123 = .ok (.iadd, 1) := by decide +kernel
theorem dX11_rank_124 : decode cX11_rank 124 = .ok (.iload 5, 2) := by decide +kernel
theorem dX11_rank_126 : decode cX11_rank 126 = .ok (.iastore, 1) := by decide +kernel
theorem dX11_rank_127 : decode cX11_rank 127 = .ok (.iload 7, 2) := by decide +kernel
theorem dX11_rank_129 : decode cX11_rank 129 = .ok (.iconst 1, 1) := by decide +kernel
theorem dX11_rank_130 : decode cX11_rank 130 = .ok (.iadd, 1) := by decide +kernel
theorem dX11_rank_131 : decode cX11_rank 131 = .ok (.ireturn, 1) := by decide +kernel
theorem dX11_comesBefore_0 : decode cX11_comesBefore 0 = .ok (.iload_n 3, 1) := by decide +kernel
theorem dX11_comesBefore_1 : decode cX11_comesBefore 1 = .ok (.aload_n 0, 1) := by decide +kernel
theorem dX11_comesBefore_2 : decode cX11_comesBefore 2 = .ok (.iload_n 1, 1) := by decide +kernel
theorem dX11_comesBefore_3 : decode cX11_comesBefore 3 = .ok (.iconst 1, 1) := by decide +kernel
theorem dX11_comesBefore_4 : decode cX11_comesBefore 4 = .ok (.iadd, 1) := by decide +kernel
theorem dX11_comesBefore_5 : decode cX11_comesBefore 5 = .ok (.iaload, 1) := by decide +kernel
theorem dX11_comesBefore_6 : decode cX11_comesBefore 6 = .ok (.if_icmp .gt 19, 3) := by decide +kernel
theorem dX11_comesBefore_9 : decode cX11_comesBefore 9 = .ok (.iload_n 3, 1) := by decide +kernel
theorem dX11_comesBefore_10 : decode cX11_comesBefore 10 = .ok (.aload_n 0, 1) := by decide +kernel
theorem dX11_comesBefore_11 : decode cX11_comesBefore 11 = .ok (.iload_n 1, 1) := by decide +kernel
theorem dX11_comesBefore_12 : decode cX11_comesBefore 12 = .ok (.iconst 1, 1) := by decide +kernel
theorem dX11_comesBefore_13 : decode cX11_comesBefore 13 = .ok (.iadd, 1) := by decide +kernel
theorem dX11_comesBefore_14 : decode cX11_comesBefore 14 = .ok (.iaload, 1) := by decide +kernel
theorem dX11_comesBefore_15 : decode cX11_comesBefore 15 = .ok (.if_icmp .ne 14, 3) := by decide +kernel
theorem dX11_comesBefore_18 : decode cX11_comesBefore 18 = .ok (.iload_n 2, 1) := by decide +kernel
theorem dX11_comesBefore_19 : decode cX11_comesBefore 19 = .ok (.aload_n 0, 1) := by decide +kernel
theorem dX11_comesBefore_20 : decode cX11_comesBefore 20 = .ok (.iload_n 1, 1) := by decide +kernel
theorem dX11_comesBefore_21 : decode cX11_comesBefore 21 = .ok (.iaload, 1) := by decide +kernel
theorem dX11_comesBefore_22 : decode cX11_comesBefore 22 = .ok (.if_icmp .ge 7, 3) := by decide +kernel
theorem dX11_comesBefore_25 : decode cX11_comesBefore 25 = .ok (.iconst 1, 1) := by decide +kernel
theorem dX11_comesBefore_26 : decode cX11_comesBefore 26 = .ok (.goto 4, 3) := by decide +kernel
theorem dX11_comesBefore_29 : decode cX11_comesBefore 29 = .ok (.iconst 0, 1) := by decide +kernel
theorem dX11_comesBefore_30 : decode cX11_comesBefore 30 = .ok (.ireturn, 1) := by decide +kernel
theorem dJ7_rangeCheck_23922_0 : decode cJ7_rangeCheck_23922 0 = .ok (.iload_n 1, 1) := by decide +kernel
theorem dJ7_rangeCheck_23922_1 : decode cJ7_rangeCheck_23922 1 = .ok (.iload_n 2, 1) := by decide +kernel
theorem dJ7_rangeCheck_23922_2 : decode cJ7_rangeCheck_23922 2 = .ok (.if_icmp .le 44, 3) := by decide +kernel
theorem dJ7_rangeCheck_23922_5 : decode cJ7_rangeCheck_23922 5 = .ok (.new 43, 3) := by decide +kernel
theorem dJ7_rangeCheck_23922_8 : decode cJ7_rangeCheck_23922 8 = .ok (.dup, 1) := by decide +kernel
theorem dJ7_rangeCheck_23922_9 : decode cJ7_rangeCheck_23922 9 = .ok (.new 45, 3) := by decide +kernel
theorem dJ7_rangeCheck_23922_12 : decode cJ7_rangeCheck_23922 12 = .ok (.dup, 1) := by decide +kernel
theorem dJ7_rangeCheck_23922_13 : decode cJ7_rangeCheck_23922 13 = .ok (.invokespecial 47, 3) := by decide +kernel
theorem dJ7_rangeCheck_23922_16 : decode cJ7_rangeCheck_23922 16 = .ok (.ldc 48, 2) := by decide +kernel
theorem dJ7_rangeCheck_23922_18 : decode cJ7_rangeCheck_23922 18 = .ok (.invokevirtual 50, 3) := by decide +kernel
theorem dJ7_rangeCheck_23922_21 : decode cJ7_rangeCheck_23922 21 = .ok (.iload_n 1, 1) := by decide +kernel
theorem dJ7_rangeCheck_23922_22 : decode cJ7_rangeCheck_23922 22 = .ok (.invokevirtual 54, 3) := by decide +kernel
theorem dJ7_rangeCheck_23922_25 : decode cJ7_rangeCheck_23922 25 = .ok (.ldc 57, 2) := by decide +kernel
theorem dJ7_rangeCheck_23922_27 : decode cJ7_rangeCheck_23922 27 = .ok (.invokevirtual 50, 3) := by decide +kernel
theorem dJ7_rangeCheck_23922_30 : decode cJ7_rangeCheck_23922 30 = .ok (.iload_n 2, 1) := by decide +kernel
theorem dJ7_rangeCheck_23922_31 : decode cJ7_rangeCheck_23922 31 = .ok (.invokevirtual 54, 3) := by decide +kernel
theorem dJ7_rangeCheck_23922_34 : decode cJ7_rangeCheck_23922 34 = .ok (.ldc 59, 2) := by decide +kernel
theorem dJ7_rangeCheck_23922_36 : decode cJ7_rangeCheck_23922 36 = .ok (.invokevirtual 50, 3) := by decide +kernel
theorem dJ7_rangeCheck_23922_39 : decode cJ7_rangeCheck_23922 39 = .ok (.invokevirtual 61, 3) := by decide +kernel
theorem dJ7_rangeCheck_23922_42 : decode cJ7_rangeCheck_23922 42 = .ok (.invokespecial 65, 3) := by decide +kernel
theorem dJ7_rangeCheck_23922_45 : decode cJ7_rangeCheck_23922 45 = .ok (.athrow, 1) := by decide +kernel
theorem dJ7_rangeCheck_23922_46 : decode cJ7_rangeCheck_23922 46 = .ok (.iload_n 1, 1) := by decide +kernel
theorem dJ7_rangeCheck_23922_47 : decode cJ7_rangeCheck_23922 47 = .ok (.ifCond .ge 12, 3) := by decide +kernel
theorem dJ7_rangeCheck_23922_50 : decode cJ7_rangeCheck_23922 50 = .ok (.new 68, 3) := by decide +kernel
theorem dJ7_rangeCheck_23922_53 : decode cJ7_rangeCheck_23922 53 = .ok (.dup, 1) := by decide +kernel
theorem dJ7_rangeCheck_23922_54 : decode cJ7_rangeCheck_23922 54 = .ok (.iload_n 1, 1) := by decide +kernel
theorem dJ7_rangeCheck_23922_55 : decode cJ7_rangeCheck_23922 55 = .ok (.invokespecial 70, 3) := by decide +kernel
theorem dJ7_rangeCheck_23922_58 : decode cJ7_rangeCheck_23922 58 = .ok (.athrow, 1) := by decide +kernel
theorem dJ7_rangeCheck_23922_59 : decode cJ7_rangeCheck_23922 59 = .ok (.iload_n 2, 1) := by decide +kernel
theorem dJ7_rangeCheck_23922_60 : decode cJ7_rangeCheck_23922 60 = .ok (.iload_n 0, 1) := by decide +kernel
theorem dJ7_rangeCheck_23922_61 : decode cJ7_rangeCheck_23922 61 = .ok (.if_icmp .le 12, 3) := by decide +kernel
theorem dJ7_rangeCheck_23922_64 : decode cJ7_rangeCheck_23922 64 = .ok (.new 68, 3) := by decide +kernel
theorem dJ7_rangeCheck_23922_67 : decode cJ7_rangeCheck_23922 67 = .ok (.dup, 1) := by decide +kernel
theorem dJ7_rangeCheck_23922_68 : decode cJ7_rangeCheck_23922 68 = .ok (.iload_n 2, 1) := by decide +kernel
theorem dJ7_rangeCheck_23922_69 : decode cJ7_rangeCheck_23922 69 = .ok (.invokespecial 70, 3) := by decide +kernel
theorem dJ7_rangeCheck_23922_72 : decode cJ7_rangeCheck_23922 72 = .ok (.athrow, 1) := by decide +kernel
theorem dJ7_rangeCheck_23922_73 : decode cJ7_rangeCheck_23922 73 = .ok (.return_, 1) := by decide +kernel
theorem dJ7_fill_53178_0 : decode cJ7_fill_53178 0 = .ok (.iconst 0, 1) := by decide +kernel
theorem dJ7_fill_53178_1 : decode cJ7_fill_53178 1 = .ok (.istore_n 2, 1) := by decide +kernel
theorem dJ7_fill_53178_2 : decode cJ7_fill_53178 2 = .ok (.aload_n 0, 1) := by decide +kernel
theorem dJ7_fill_53178_3 : decode cJ7_fill_53178 3 = .ok (.arraylength, 1) := by decide +kernel
theorem dJ7_fill_53178_4 : decode cJ7_fill_53178 4 = .ok (.istore_n 3, 1) := by decide +kernel
theorem dJ7_fill_53178_5 : decode cJ7_fill_53178 5 = .ok (.iload_n 2, 1) := by decide +kernel
theorem dJ7_fill_53178_6 : decode cJ7_fill_53178 6 = .ok (.iload_n 3, 1) := by decide +kernel
theorem dJ7_fill_53178_7 : decode cJ7_fill_53178 7 = .ok (.if_icmp .ge 13, 3) := by decide +kernel
theorem dJ7_fill_53178_10 : decode cJ7_fill_53178 10 = .ok (.aload_n 0, 1) := by decide +kernel
theorem dJ7_fill_53178_11 : decode cJ7_fill_53178 11 = .ok (.iload_n 2, 1) := by decide +kernel
theorem dJ7_fill_53178_12 : decode cJ7_fill_53178 12 = .ok (.iload_n 1, 1) := by decide +kernel
theorem dJ7_fill_53178_13 : decode cJ7_fill_53178 13 = .ok (.iastore, 1) := by decide +kernel
theorem dJ7_fill_53178_14 : decode cJ7_fill_53178 14 = .ok (.iinc 2 1, 3) := by decide +kernel
theorem dJ7_fill_53178_17 : decode cJ7_fill_53178 17 = .ok (.goto (-12), 3) := by decide +kernel
theorem dJ7_fill_53178_20 : decode cJ7_fill_53178 20 = .ok (.return_, 1) := by decide +kernel
theorem dJ7_fill_031fb_0 : decode cJ7_fill_031fb 0 = .ok (.iconst 0, 1) := by decide +kernel
theorem dJ7_fill_031fb_1 : decode cJ7_fill_031fb 1 = .ok (.istore_n 2, 1) := by decide +kernel
theorem dJ7_fill_031fb_2 : decode cJ7_fill_031fb 2 = .ok (.aload_n 0, 1) := by decide +kernel
theorem dJ7_fill_031fb_3 : decode cJ7_fill_031fb 3 = .ok (.arraylength, 1) := by decide +kernel
theorem dJ7_fill_031fb_4 : decode cJ7_fill_031fb 4 = .ok (.istore_n 3, 1) := by decide +kernel
theorem dJ7_fill_031fb_5 : decode cJ7_fill_031fb 5 = .ok (.iload_n 2, 1) := by decide +kernel
theorem dJ7_fill_031fb_6 : decode cJ7_fill_031fb 6 = .ok (.iload_n 3, 1) := by decide +kernel
theorem dJ7_fill_031fb_7 : decode cJ7_fill_031fb 7 = .ok (.if_icmp .ge 13, 3) := by decide +kernel
theorem dJ7_fill_031fb_10 : decode cJ7_fill_031fb 10 = .ok (.aload_n 0, 1) := by decide +kernel
theorem dJ7_fill_031fb_11 : decode cJ7_fill_031fb 11 = .ok (.iload_n 2, 1) := by decide +kernel
theorem dJ7_fill_031fb_12 : decode cJ7_fill_031fb 12 = .ok (.iload_n 1, 1) := by decide +kernel
theorem dJ7_fill_031fb_13 : decode cJ7_fill_031fb 13 = .ok (.bastore, 1) := by decide +kernel
theorem dJ7_fill_031fb_14 : decode cJ7_fill_031fb 14 = .ok (.iinc 2 1, 3) := by decide +kernel
theorem dJ7_fill_031fb_17 : decode cJ7_fill_031fb 17 = .ok (.goto (-12), 3) := by decide +kernel
theorem dJ7_fill_031fb_20 : decode cJ7_fill_031fb 20 = .ok (.return_, 1) := by decide +kernel
theorem dJ7_fill_eb02e_0 : decode cJ7_fill_eb02e 0 = .ok (.aload_n 0, 1) := by decide +kernel
theorem dJ7_fill_eb02e_1 : decode cJ7_fill_eb02e 1 = .ok (.arraylength, 1) := by decide +kernel
theorem dJ7_fill_eb02e_2 : decode cJ7_fill_eb02e 2 = .ok (.iload_n 1, 1) := by decide +kernel
theorem dJ7_fill_eb02e_3 : decode cJ7_fill_eb02e 3 = .ok (.iload_n 2, 1) := by decide +kernel
theorem dJ7_fill_eb02e_4 : decode cJ7_fill_eb02e 4 = .ok (.invokestatic 13, 3) := by decide +kernel
theorem dJ7_fill_eb02e_7 : decode cJ7_fill_eb02e 7 = .ok (.iload_n 1, 1) := by decide +kernel
theorem dJ7_fill_eb02e_8 : decode cJ7_fill_eb02e 8 = .ok (.istore 4, 2) := by decide +kernel
theorem dJ7_fill_eb02e_10 : decode cJ7_fill_eb02e 10 = .ok (.iload 4, 2) := by decide +kernel
theorem dJ7_fill_eb02e_12 : decode cJ7_fill_eb02e 12 = .ok (.iload_n 2, 1) := by decide +kernel
theorem dJ7_fill_eb02e_13 : decode cJ7_fill_eb02e 13 = .ok (.if_icmp .ge 14, 3) := by decide +kernel
theorem dJ7_fill_eb02e_16 : decode cJ7_fill_eb02e 16 = .ok (.aload_n 0, 1) := by decide +kernel
theorem dJ7_fill_eb02e_17 : decode cJ7_fill_eb02e 17 = .ok (.iload 4, 2) := by decide +kernel
theorem dJ7_fill_eb02e_19 : decode cJ7_fill_eb02e 19 = .ok (.iload_n 3, 1) := by decide +kernel
theorem dJ7_fill_eb02e_20 : decode cJ7_fill_eb02e 20 = .ok (.bastore, 1) := by decide +kernel
theorem dJ7_fill_eb02e_21 : decode cJ7_fill_eb02e 21 = .ok (.iinc 4 1, 3) := by decide +kernel
theorem dJ7_fill_eb02e_24 : decode cJ7_fill_eb02e 24 = .ok (.goto (-14), 3) := by decide +kernel
theorem dJ7_fill_eb02e_27 : decode cJ7_fill_eb02e 27 = .ok (.return_, 1) := by decide +kernel
theorem dJ7_copyOf_9075b_0 : decode cJ7_copyOf_9075b 0 = .ok (.iload_n 1, 1) := by decide +kernel
theorem dJ7_copyOf_9075b_1 : decode cJ7_copyOf_9075b 1 = .ok (.aload_n 0, 1) := by decide +kernel
theorem dJ7_copyOf_9075b_2 : decode cJ7_copyOf_9075b 2 = .ok (.arraylength, 1) := by decide +kernel
theorem dJ7_copyOf_9075b_3 : decode cJ7_copyOf_9075b 3 = .ok (.if_icmp .ne 11, 3) := by decide +kernel
theorem dJ7_copyOf_9075b_6 : decode cJ7_copyOf_9075b 6 = .ok (.aload_n 0, 1) := by decide +kernel
theorem dJ7_copyOf_9075b_7 : decode cJ7_copyOf_9075b 7 = .ok (.invokevirtual 310, 3) := by decide +kernel
theorem dJ7_copyOf_9075b_10 : decode cJ7_copyOf_9075b 10 = .ok (.checkcast 311, 3) := by decide +kernel
theorem dJ7_copyOf_9075b_13 : decode cJ7_copyOf_9075b 13 = .ok (.areturn, 1) := by decide +kernel
theorem dJ7_copyOf_9075b_14 : decode cJ7_copyOf_9075b 14 = .ok (.iload_n 1, 1) := by decide +kernel
theorem dJ7_copyOf_9075b_15 : decode cJ7_copyOf_9075b 15 = .ok (.newarray .byte, 2) := by decide +kernel
theorem dJ7_copyOf_9075b_17 : decode cJ7_copyOf_9075b 17 = .ok (.astore_n 2, 1) := by decide +kernel
theorem dJ7_copyOf_9075b_18 : decode cJ7_copyOf_9075b 18 = .ok (.aload_n 0, 1) := by decide +kernel
theorem dJ7_copyOf_9075b_19 : decode cJ7_copyOf_9075b 19 = .ok (.iconst 0, 1) := by decide +kernel
theorem dJ7_copyOf_9075b_20 : decode cJ7_copyOf_9075b 20 = .ok (.aload_n 2, 1) := by decide +kernel
theorem dJ7_copyOf_9075b_21 : decode cJ7_copyOf_9075b 21 = .ok (.iconst 0, 1) := by decide +kernel
theorem dJ7_copyOf_9075b_22 : decode cJ7_copyOf_9075b 22 = .ok (.aload_n 0, 1) := by decide +kernel
theorem dJ7_copyOf_9075b_23 : decode cJ7_copyOf_9075b 23 = .ok (.arraylength, 1) := by decide +kernel
theorem dJ7_copyOf_9075b_24 : decode cJ7_copyOf_9075b 24 = .ok (.iload_n 1, 1) := by decide +kernel
theorem dJ7_copyOf_9075b_25 : decode cJ7_copyOf_9075b 25 = .ok (.invokestatic 304, 3) := by decide +kernel
theorem dJ7_copyOf_9075b_28 : decode cJ7_copyOf_9075b 28 = .ok (.invokestatic 150, 3) := by decide +kernel
theorem dJ7_copyOf_9075b_31 : decode cJ7_copyOf_9075b 31 = .ok (.aload_n 2, 1) := by decide +kernel
theorem dJ7_copyOf_9075b_32 : decode cJ7_copyOf_9075b 32 = .ok (.areturn, 1) := by decide +kernel
theorem dJ7_copyOf_59c91_0 : decode cJ7_copyOf_59c91 0 = .ok (.iload_n 1, 1) := by decide +kernel
theorem dJ7_copyOf_59c91_1 : decode cJ7_copyOf_59c91 1 = .ok (.aload_n 0, 1) := by decide +kernel
theorem dJ7_copyOf_59c91_2 : decode cJ7_copyOf_59c91 2 = .ok (.arraylength, 1) := by decide +kernel
theorem dJ7_copyOf_59c91_3 : decode cJ7_copyOf_59c91 3 = .ok (.if_icmp .ne 11, 3) := by decide +kernel
theorem dJ7_copyOf_59c91_6 : decode cJ7_copyOf_59c91 6 = .ok (.aload_n 0, 1) := by decide +kernel
theorem dJ7_copyOf_59c91_7 : decode cJ7_copyOf_59c91 7 = .ok (.invokevirtual 316, 3) := by decide +kernel
theorem dJ7_copyOf_59c91_10 : decode cJ7_copyOf_59c91 10 = .ok (.checkcast 317, 3) := by decide +kernel
theorem dJ7_copyOf_59c91_13 : decode cJ7_copyOf_59c91 13 = .ok (.areturn, 1) := by decide +kernel
theorem dJ7_copyOf_59c91_14 : decode cJ7_copyOf_59c91 14 = .ok (.iload_n 1, 1) := by decide +kernel
theorem dJ7_copyOf_59c91_15 : decode cJ7_copyOf_59c91 15 = .ok (.newarray .int, 2) := by decide +kernel
theorem dJ7_copyOf_59c91_17 : decode cJ7_copyOf_59c91 17 = .ok (.astore_n 2, 1) := by decide +kernel
theorem dJ7_copyOf_59c91_18 : decode cJ7_copyOf_59c91 18 = .ok (.aload_n 0, 1) := by decide +kernel
theorem dJ7_copyOf_59c91_19 : decode cJ7_copyOf_59c91 19 = .ok (.iconst 0, 1) := by decide +kernel
theorem dJ7_copyOf_59c91_20 : decode cJ7_copyOf_59c91 20 = .ok (.aload_n 2, 1) := by decide +kernel
theorem dJ7_copyOf_59c91_21 : decode cJ7_copyOf_59c91 21 = .ok (.iconst 0, 1) := by decide +kernel
theorem dJ7_copyOf_59c91_22 : decode cJ7_copyOf_59c91 22 = .ok (.aload_n 0, 1) := by decide +kernel
theorem dJ7_copyOf_59c91_23 : decode cJ7_copyOf_59c91 23 = .ok (.arraylength, 1) := by decide +kernel
theorem dJ7_copyOf_59c91_24 : decode cJ7_copyOf_59c91 24 = .ok (.iload_n 1, 1) := by decide +kernel
theorem dJ7_copyOf_59c91_25 : decode cJ7_copyOf_59c91 25 = .ok (.invokestatic 304, 3) := by decide +kernel
theorem dJ7_copyOf_59c91_28 : decode cJ7_copyOf_59c91 28 = .ok (.invokestatic 150, 3) := by decide +kernel
theorem dJ7_copyOf_59c91_31 : decode cJ7_copyOf_59c91 31 = .ok (.aload_n 2, 1) := by decide +kernel
theorem dJ7_copyOf_59c91_32 : decode cJ7_copyOf_59c91 32 = .ok (.areturn, 1) := by decide +kernel
theorem dJ7_checkLength_df160_0 : decode cJ7_checkLength_df160 0 = .ok (.iload_n 1, 1) := by decide +kernel
theorem dJ7_checkLength_df160_1 : decode cJ7_checkLength_df160 1 = .ok (.iload_n 0, 1) := by decide +kernel
theorem dJ7_checkLength_df160_2 : decode cJ7_checkLength_df160 2 = .ok (.if_icmp .ge 35, 3) := by decide +kernel
theorem dJ7_checkLength_df160_5 : decode cJ7_checkLength_df160 5 = .ok (.new 43, 3) := by decide +kernel
theorem dJ7_checkLength_df160_8 : decode cJ7_checkLength_df160 8 = .ok (.dup, 1) := by decide +kernel
theorem dJ7_checkLength_df160_9 : decode cJ7_checkLength_df160 9 = .ok (.new 45, 3) := by decide +kernel
theorem dJ7_checkLength_df160_12 : decode cJ7_checkLength_df160 12 = .ok (.dup, 1) := by decide +kernel
theorem dJ7_checkLength_df160_13 : decode cJ7_checkLength_df160 13 = .ok (.invokespecial 47, 3) := by decide +kernel
theorem dJ7_checkLength_df160_16 : decode cJ7_checkLength_df160 16 = .ok (.iload_n 0, 1) := by decide +kernel
theorem dJ7_checkLength_df160_17 : decode cJ7_checkLength_df160 17 = .ok (.invokevirtual 54, 3) := by decide +kernel
theorem dJ7_checkLength_df160_20 : decode cJ7_checkLength_df160 20 = .ok (.ldc_w 337, 3) := by decide +kernel
theorem dJ7_checkLength_df160_23 : decode cJ7_checkLength_df160 23 = .ok (.invokevirtual 50, 3) := by decide +kernel
theorem dJ7_checkLength_df160_26 : decode cJ7_checkLength_df160 26 = .ok (.iload_n 1, 1) := by decide +kernel
theorem dJ7_checkLength_df160_27 : decode cJ7_checkLength_df160 27 = .ok (.invokevirtual 54, 3) := by decide +kernel
theorem dJ7_checkLength_df160_30 : decode cJ7_checkLength_df160 30 = .ok (.invokevirtual 61, 3) := by decide +kernel
theorem dJ7_checkLength_df160_33 : decode cJ7_checkLength_df160 33 = .ok (.invokespecial 65, 3) := by decide +kernel
theorem dJ7_checkLength_df160_36 : decode cJ7_checkLength_df160 36 = .ok (.athrow, 1) := by decide +kernel
theorem dJ7_checkLength_df160_37 : decode cJ7_checkLength_df160 37 = .ok (.return_, 1) := by decide +kernel
theorem dJ7_copyOfRange_39247_0 : decode cJ7_copyOfRange_39247 0 = .ok (.iload_n 1, 1) := by decide +kernel
theorem dJ7_copyOfRange_39247_1 : decode cJ7_copyOfRange_39247 1 = .ok (.ifCond .ne 9, 3) := by decide +kernel
theorem dJ7_copyOfRange_39247_4 : decode cJ7_copyOfRange_39247 4 = .ok (.iload_n 2, 1) := by decide +kernel
theorem dJ7_copyOfRange_39247_5 : decode cJ7_copyOfRange_39247 5 = .ok (.aload_n 0, 1) := by decide +kernel
theorem dJ7_copyOfRange_39247_6 : decode cJ7_copyOfRange_39247 6 = .ok (.arraylength, 1) := by decide +kernel
theorem dJ7_copyOfRange_39247_7 : decode cJ7_copyOfRange_39247 7 = .ok (.if_icmp .eq 10, 3) := by decide +kernel
theorem dJ7_copyOfRange_39247_10 : decode cJ7_copyOfRange_39247 10 = .ok (.aload_n 0, 1) := by decide +kernel
theorem dJ7_copyOfRange_39247_11 : decode cJ7_copyOfRange_39247 11 = .ok (.iload_n 1, 1) := by decide +kernel
theorem dJ7_copyOfRange_39247_12 : decode cJ7_copyOfRange_39247 12 = .ok (.iload_n 2, 1) := by decide +kernel
theorem dJ7_copyOfRange_39247_13 : decode cJ7_copyOfRange_39247 13 = .ok (.invokestatic 339, 3) := by decide +kernel
theorem dJ7_copyOfRange_39247_16 : decode cJ7_copyOfRange_39247 16 = .ok (.areturn, 1) := by decide +kernel
theorem dJ7_copyOfRange_39247_17 : decode cJ7_copyOfRange_39247 17 = .ok (.aload_n 0, 1) := by decide +kernel
theorem dJ7_copyOfRange_39247_18 : decode cJ7_copyOfRange_39247 18 = .ok (.invokevirtual 310, 3) := by decide +kernel
theorem dJ7_copyOfRange_39247_21 : decode cJ7_copyOfRange_39247 21 = .ok (.checkcast 311, 3) := by decide +kernel
theorem dJ7_copyOfRange_39247_24 : decode cJ7_copyOfRange_39247 24 = .ok (.areturn, 1) := by decide +kernel
theorem dJ7_copyOfRangeByte_39247_0 : decode cJ7_copyOfRangeByte_39247 0 = .ok (.iload_n 1, 1) := by decide +kernel
theorem dJ7_copyOfRangeByte_39247_1 : decode cJ7_copyOfRangeByte_39247 1 = .ok (.iload_n 2, 1) := by decide +kernel
theorem dJ7_copyOfRangeByte_39247_2 : decode cJ7_copyOfRangeByte_39247 2 = .ok (.invokestatic 343, 3) := by decide +kernel
theorem dJ7_copyOfRangeByte_39247_5 : decode cJ7_copyOfRangeByte_39247 5 = .ok (.iload_n 2, 1) := by decide +kernel
theorem dJ7_copyOfRangeByte_39247_6 : decode cJ7_copyOfRangeByte_39247 6 = .ok (.iload_n 1, 1) := by decide +kernel
theorem dJ7_copyOfRangeByte_39247_7 : decode cJ7_copyOfRangeByte_39247 7 = .ok (.isub, 1) := by decide +kernel
theorem dJ7_copyOfRangeByte_39247_8 : decode cJ7_copyOfRangeByte_39247 8 = .ok (.istore_n 3, 1) := by decide +kernel
theorem dJ7_copyOfRangeByte_39247_9 : decode cJ7_copyOfRangeByte_39247 9 = .ok (.iload_n 3, 1) := by decide +kernel
theorem dJ7_copyOfRangeByte_39247_10 : decode cJ7_copyOfRangeByte_39247 10 = .ok (.newarray .byte, 2) := by decide +kernel
theorem dJ7_copyOfRangeByte_39247_12 : decode cJ7_copyOfRangeByte_39247 12 = .ok (.astore 4, 2) := by decide +kernel
theorem dJ7_copyOfRangeByte_39247_14 : decode cJ7_copyOfRangeByte_39247 14 = .ok (.aload_n 0, 1) := by decide +kernel
theorem dJ7_copyOfRangeByte_39247_15 : decode cJ7_copyOfRangeByte_39247 15 = .ok (.iload_n 1, 1) := by decide +kernel
theorem dJ7_copyOfRangeByte_39247_16 : decode cJ7_copyOfRangeByte_39247 16 = .ok (.aload 4, 2) := by decide +kernel
theorem dJ7_copyOfRangeByte_39247_18 : decode cJ7_copyOfRangeByte_39247 18 = .ok (.iconst 0, 1) := by decide +kernel
theorem dJ7_copyOfRangeByte_39247_19 : decode cJ7_copyOfRangeByte_39247 19 = .ok (.aload_n 0, 1) := by decide +kernel
theorem dJ7_copyOfRangeByte_39247_20 : decode cJ7_copyOfRangeByte_39247 20 = .ok (.arraylength, 1) := by decide +kernel
theorem dJ7_copyOfRangeByte_39247_21 : decode cJ7_copyOfRangeByte_39247 21 = .ok (.iload_n 1, 1) := by decide +kernel
theorem dJ7_copyOfRangeByte_39247_22 : decode cJ7_copyOfRangeByte_39247 22 = .ok (.isub, 1) := by decide +kernel
theorem dJ7_copyOfRangeByte_39247_23 : decode cJ7_copyOfRangeByte_39247 23 = .ok (.iload_n 3, 1) := by decide +kernel
theorem dJ7_copyOfRangeByte_39247_24 : decode cJ7_copyOfRangeByte_39247 24 = .ok (.invokestatic 304, 3) := by decide +kernel
theorem dJ7_copyOfRangeByte_39247_27 : decode cJ7_copyOfRangeByte_39247 27 = .ok (.invokestatic 150, 3) := by decide +kernel
theorem dJ7_copyOfRangeByte_39247_30 : decode cJ7_copyOfRangeByte_39247 30 = .ok (.aload 4, 2) := by decide +kernel
theorem dJ7_copyOfRangeByte_39247_32 : decode cJ7_copyOfRangeByte_39247 32 = .ok (.areturn, 1) := by decide +kernel
theorem dJ9_floorMod_7cf53_0 : decode cJ9_floorMod_7cf53 0 = .ok (.iload_n 0, 1) := by decide +kernel
theorem dJ9_floorMod_7cf53_1 : decode cJ9_floorMod_7cf53 1 = .ok (.iload_n 1, 1) := by decide +kernel
theorem dJ9_floorMod_7cf53_2 : decode cJ9_floorMod_7cf53 2 = .ok (.irem, 1) := by decide +kernel
theorem dJ9_floorMod_7cf53_3 : decode cJ9_floorMod_7cf53 3 = .ok (.istore_n 2, 1) := by decide +kernel
theorem dJ9_floorMod_7cf53_4 : decode cJ9_floorMod_7cf53 4 = .ok (.iload_n 0, 1) := by decide +kernel
theorem dJ9_floorMod_7cf53_5 : decode cJ9_floorMod_7cf53 5 = .ok (.iload_n 1, 1) := by decide +kernel
theorem dJ9_floorMod_7cf53_6 : decode cJ9_floorMod_7cf53 6 = .ok (.ixor, 1) := by decide +kernel
theorem dJ9_floorMod_7cf53_7 : decode cJ9_floorMod_7cf53 7 = .ok (.ifCond .ge 11, 3) := by decide +kernel
theorem dJ9_floorMod_7cf53_10 : decode cJ9_floorMod_7cf53 10 = .ok (.iload_n 2, 1) := by decide +kernel
theorem dJ9_floorMod_7cf53_11 : decode cJ9_floorMod_7cf53 11 = .ok (.ifCond .eq 7, 3) := by decide +kernel
theorem dJ9_floorMod_7cf53_14 : decode cJ9_floorMod_7cf53 14 = .ok (.iload_n 2, 1) := by decide +kernel
theorem dJ9_floorMod_7cf53_15 : decode cJ9_floorMod_7cf53 15 = .ok (.iload_n 1, 1) := by decide +kernel
theorem dJ9_floorMod_7cf53_16 : decode cJ9_floorMod_7cf53 16 = .ok (.iadd, 1) := by decide +kernel
theorem dJ9_floorMod_7cf53_17 : decode cJ9_floorMod_7cf53 17 = .ok (.ireturn, 1) := by decide +kernel
theorem dJ9_floorMod_7cf53_18 : decode cJ9_floorMod_7cf53 18 = .ok (.iload_n 2, 1) := by decide +kernel
theorem dJ9_floorMod_7cf53_19 : decode cJ9_floorMod_7cf53 19 = .ok (.ireturn, 1) := by decide +kernel
theorem dJ9_max_7cf53_0 : decode cJ9_max_7cf53 0 = .ok (.iload_n 0, 1) := by decide +kernel
theorem dJ9_max_7cf53_1 : decode cJ9_max_7cf53 1 = .ok (.iload_n 1, 1) := by decide +kernel
theorem dJ9_max_7cf53_2 : decode cJ9_max_7cf53 2 = .ok (.if_icmp .lt 7, 3) := by decide +kernel
theorem dJ9_max_7cf53_5 : decode cJ9_max_7cf53 5 = .ok (.iload_n 0, 1) := by decide +kernel
theorem dJ9_max_7cf53_6 : decode cJ9_max_7cf53 6 = .ok (.goto 4, 3) := by decide +kernel
theorem dJ9_max_7cf53_9 : decode cJ9_max_7cf53 9 = .ok (.iload_n 1, 1) := by decide +kernel
theorem dJ9_max_7cf53_10 : decode cJ9_max_7cf53 10 = .ok (.ireturn, 1) := by decide +kernel
theorem dJ9_min_7cf53_0 : decode cJ9_min_7cf53 0 = .ok (.iload_n 0, 1) := by decide +kernel
theorem dJ9_min_7cf53_1 : decode cJ9_min_7cf53 1 = .ok (.iload_n 1, 1) := by decide +kernel
theorem dJ9_min_7cf53_2 : decode cJ9_min_7cf53 2 = .ok (.if_icmp .gt 7, 3) := by decide +kernel
theorem dJ9_min_7cf53_5 : decode cJ9_min_7cf53 5 = .ok (.iload_n 0, 1) := by decide +kernel
theorem dJ9_min_7cf53_6 : decode cJ9_min_7cf53 6 = .ok (.goto 4, 3) := by decide +kernel
theorem dJ9_min_7cf53_9 : decode cJ9_min_7cf53 9 = .ok (.iload_n 1, 1) := by decide +kernel
theorem dJ9_min_7cf53_10 : decode cJ9_min_7cf53 10 = .ok (.ireturn, 1) := by decide +kernel
theorem dJ6_getChars_ba4f3_0 : decode cJ6_getChars_ba4f3 0 = .ok (.iload_n 1, 1) := by decide +kernel
theorem dJ6_getChars_ba4f3_1 : decode cJ6_getChars_ba4f3 1 = .ok (.istore 5, 2) := by decide +kernel
theorem dJ6_getChars_ba4f3_3 : decode cJ6_getChars_ba4f3 3 = .ok (.iload_n 0, 1) := by decide +kernel
theorem dJ6_getChars_ba4f3_4 : decode cJ6_getChars_ba4f3 4 = .ok (.ifCond .ge 7, 3) := by decide +kernel
theorem dJ6_getChars_ba4f3_7 : decode cJ6_getChars_ba4f3 7 = .ok (.iconst 1, 1) := by decide +kernel
theorem dJ6_getChars_ba4f3_8 : decode cJ6_getChars_ba4f3 8 = .ok (.goto 4, 3) := by decide +kernel
theorem dJ6_getChars_ba4f3_11 : decode cJ6_getChars_ba4f3 11 = .ok (.iconst 0, 1) := by decide +kernel
theorem dJ6_getChars_ba4f3_12 : decode cJ6_getChars_ba4f3 12 = .ok (.istore 6, 2) := by decide +kernel
theorem dJ6_getChars_ba4f3_14 : decode cJ6_getChars_ba4f3 14 = .ok (.iload 6, 2) := by decide +kernel
theorem dJ6_getChars_ba4f3_16 : decode cJ6_getChars_ba4f3 16 = .ok (.ifCond .ne 6, 3) := by decide +kernel
theorem dJ6_getChars_ba4f3_19 : decode cJ6_getChars_ba4f3 19 = .ok (.iload_n 0, 1) := by decide +kernel
theorem dJ6_getChars_ba4f3_20 : decode cJ6_getChars_ba4f3 20 = .ok (.ineg, 1) := by decide +kernel
theorem dJ6_getChars_ba4f3_21 : decode cJ6_getChars_ba4f3 21 = .ok (.istore_n 0, 1) := by decide +kernel
theorem dJ6_getChars_ba4f3_22 : decode cJ6_getChars_ba4f3 22 = .ok (.iload_n 0, 1) := by decide +kernel
theorem dJ6_getChars_ba4f3_23 : decode cJ6_getChars_ba4f3 23 = .ok (.bipush (-100), 2) := by decide +kernel
theorem dJ6_getChars_ba4f3_25 : decode cJ6_getChars_ba4f3 25 = .ok (.if_icmp .gt 47, 3) := by decide +kernel
theorem dJ6_getChars_ba4f3_28 : decode cJ6_getChars_ba4f3 28 = .ok (.iload_n 0, 1) := by decide +kernel
theorem dJ6_getChars_ba4f3_29 : decode cJ6_getChars_ba4f3 29 = .ok (.bipush 100, 2) := by decide +kernel
theorem dJ6_getChars_ba4f3_31 : decode cJ6_getChars_ba4f3 31 = .ok (.idiv, 1) := by decide +kernel
theorem dJ6_getChars_ba4f3_32 : decode cJ6_getChars_ba4f3 32 = .ok (.istore_n 3, 1) := by decide +kernel
theorem dJ6_getChars_ba4f3_33 : decode cJ6_getChars_ba4f3 33 = .ok (.iload_n 3, 1) := by decide +kernel
theorem dJ6_getChars_ba4f3_34 : decode cJ6_getChars_ba4f3 34 = .ok (.bipush 100, 2) := by decide +kernel
theorem dJ6_getChars_ba4f3_36 : decode cJ6_getChars_ba4f3 36 = .ok (.imul, 1) := by decide +kernel
theorem dJ6_getChars_ba4f3_37 : decode cJ6_getChars_ba4f3 37 = .ok (.iload_n 0, 1) := by decide +kernel
theorem dJ6_getChars_ba4f3_38 : decode cJ6_getChars_ba4f3 38 = .ok (.isub, 1) := by decide +kernel
theorem dJ6_getChars_ba4f3_39 : decode cJ6_getChars_ba4f3 39 = .ok (.istore 4, 2) := by decide +kernel
theorem dJ6_getChars_ba4f3_41 : decode cJ6_getChars_ba4f3 41 = .ok (.iload_n 3, 1) := by decide +kernel
theorem dJ6_getChars_ba4f3_42 : decode cJ6_getChars_ba4f3 42 = .ok (.istore_n 0, 1) := by decide +kernel
theorem dJ6_getChars_ba4f3_43 : decode cJ6_getChars_ba4f3 43 = .ok (.aload_n 2, 1) := by decide +kernel
theorem dJ6_getChars_ba4f3_44 : decode cJ6_getChars_ba4f3 44 = .ok (.iinc 5 (-1), 3) := by decide +kernel
theorem dJ6_getChars_ba4f3_47 : decode cJ6_getChars_ba4f3 47 = .ok (.iload 5, 2) := by decide +kernel
theorem dJ6_getChars_ba4f3_49 : decode cJ6_getChars_ba4f3 49 = .ok (.getstatic 83, 3) := by decide +kernel
theorem dJ6_getChars_ba4f3_52 : decode cJ6_getChars_ba4f3 52 = .ok (.iload 4, 2) := by decide +kernel
theorem dJ6_getChars_ba4f3_54 : decode cJ6_getChars_ba4f3 54 = .ok (.baload, 1) := by decide +kernel
theorem dJ6_getChars_ba4f3_55 : decode cJ6_getChars_ba4f3 55 = .ok (.bastore, 1) := by decide +kernel
theorem dJ6_getChars_ba4f3_56 : decode cJ6_getChars_ba4f3 56 = .ok (.aload_n 2, 1) := by decide +kernel
theorem dJ6_getChars_ba4f3_57 : decode cJ6_getChars_ba4f3 57 = .ok (.iinc 5 (-1), 3) := by decide +kernel
theorem dJ6_getChars_ba4f3_60 : decode cJ6_getChars_ba4f3 60 = .ok (.iload 5, 2) := by decide +kernel
theorem dJ6_getChars_ba4f3_62 : decode cJ6_getChars_ba4f3 62 = .ok (.getstatic 87, 3) := by decide +kernel
theorem dJ6_getChars_ba4f3_65 : decode cJ6_getChars_ba4f3 65 = .ok (.iload 4, 2) := by decide +kernel
theorem dJ6_getChars_ba4f3_67 : decode cJ6_getChars_ba4f3 67 = .ok (.baload, 1) := by decide +kernel
theorem dJ6_getChars_ba4f3_68 : decode cJ6_getChars_ba4f3 68 = .ok (.bastore, 1) := by decide +kernel
theorem dJ6_getChars_ba4f3_69 : decode cJ6_getChars_ba4f3 69 = .ok (.goto (-47), 3) := by decide +kernel
theorem dJ6_getChars_ba4f3_72 : decode cJ6_getChars_ba4f3 72 = .ok (.aload_n 2, 1) := by decide +kernel
theorem dJ6_getChars_ba4f3_73 : decode cJ6_getChars_ba4f3 73 = .ok (.iinc 5 (-1), 3) := by decide +kernel
theorem dJ6_getChars_ba4f3_76 : decode cJ6_getChars_ba4f3 76 = .ok (.iload 5, 2) := by decide +kernel
theorem dJ6_getChars_ba4f3_78 : decode cJ6_getChars_ba4f3 78 = .ok (.getstatic 83, 3) := by decide +kernel
theorem dJ6_getChars_ba4f3_81 : decode cJ6_getChars_ba4f3 81 = .ok (.iload_n 0, 1) := by decide +kernel
theorem dJ6_getChars_ba4f3_82 : decode cJ6_getChars_ba4f3 82 = .ok (.ineg, 1) := by decide +kernel
theorem dJ6_getChars_ba4f3_83 : decode cJ6_getChars_ba4f3 83 = .ok (.baload, 1) := by decide +kernel
theorem dJ6_getChars_ba4f3_84 : decode cJ6_getChars_ba4f3 84 = .ok (.bastore, 1) := by decide +kernel
theorem dJ6_getChars_ba4f3_85 : decode cJ6_getChars_ba4f3 85 = .ok (.iload_n 0, 1) := by decide +kernel
theorem dJ6_getChars_ba4f3_86 : decode cJ6_getChars_ba4f3 86 = .ok (.bipush (-9), 2) := by decide +kernel
theorem dJ6_getChars_ba4f3_88 : decode cJ6_getChars_ba4f3 88 = .ok (.if_icmp .ge 16, 3) := by decide +kernel
theorem dJ6_getChars_ba4f3_91 : decode cJ6_getChars_ba4f3 91 = .ok (.aload_n 2, 1) := by decide +kernel
theorem dJ6_getChars_ba4f3_92 : decode cJ6_getChars_ba4f3 92 = .ok (.iinc 5 (-1), 3) := by decide +kernel
theorem dJ6_getChars_ba4f3_95 : decode cJ6_getChars_ba4f3 95 = .ok (.iload 5, 2) := by decide +kernel
theorem dJ6_getChars_ba4f3_97 : decode cJ6_getChars_ba4f3 97 = .ok (.getstatic 87, 3) := by decide +kernel
theorem dJ6_getChars_ba4f3_100 : decode cJ6_getChars_ba4f3 100 = .ok (.iload_n 0, 1) := by decide +kernel
theorem dJ6_getChars_ba4f3_101 : decode cJ6_getChars_ba4f3 101 = .ok (.ineg, 1) := by decide +kernel
theorem dJ6_getChars_ba4f3_102 : decode cJ6_getChars_ba4f3 102 = .ok (.baload, 1) := by decide +kernel
theorem dJ6_getChars_ba4f3_103 : decode cJ6_getChars_ba4f3 103 = .ok (.bastore, 1) := by decide +kernel
theorem dJ6_getChars_ba4f3_104 : decode cJ6_getChars_ba4f3 104 = .ok (.iload 6, 2) := by decide +kernel
theorem dJ6_getChars_ba4f3_106 : decode cJ6_getChars_ba4f3 106 = .ok (.ifCond .eq 12, 3) := by decide +kernel
theorem dJ6_getChars_ba4f3_109 : decode cJ6_getChars_ba4f3 109 = .ok (.aload_n 2, 1) := by decide +kernel
theorem dJ6_getChars_ba4f3_110 : decode cJ6_getChars_ba4f3 110 = .ok (.iinc 5 (-1), 3) := by decide +kernel
theorem dJ6_getChars_ba4f3_113 : decode cJ6_getChars_ba4f3 113 = .ok (.iload 5, 2) := by decide +kernel
theorem dJ6_getChars_ba4f3_115 : decode cJ6_getChars_ba4f3 115 = .ok (.bipush 45, 2) := by decide +kernel
theorem dJ6_getChars_ba4f3_117 : decode cJ6_getChars_ba4f3 117 = .ok (.bastore, 1) := by decide +kernel
theorem dJ6_getChars_ba4f3_118 : decode cJ6_getChars_ba4f3 118 = .ok (.iload 5, 2) := by decide +kernel
theorem dJ6_getChars_ba4f3_120 : decode cJ6_getChars_ba4f3 120 = .ok (.ireturn, 1) := by decide +kernel
theorem dJ6_stringSize_0f7a4_0 : decode cJ6_stringSize_0f7a4 0 = .ok (.iconst 1, 1) := by decide +kernel
theorem dJ6_stringSize_0f7a4_1 : decode cJ6_stringSize_0f7a4 1 = .ok (.istore_n 1, 1) := by decide +kernel
theorem dJ6_stringSize_0f7a4_2 : decode cJ6_stringSize_0f7a4 2 = .ok (.iload_n 0, 1) := by decide +kernel
theorem dJ6_stringSize_0f7a4_3 : decode cJ6_stringSize_0f7a4 3 = .ok (.ifCond .lt 8, 3) := by decide +kernel
theorem dJ6_stringSize_0f7a4_6 : decode cJ6_stringSize_0f7a4 6 = .ok (.iconst 0, 1) := by decide +kernel
theorem dJ6_stringSize_0f7a4_7 : decode cJ6_stringSize_0f7a4 7 = .ok (.istore_n 1, 1) := by decide +kernel
theorem dJ6_stringSize_0f7a4_8 : decode cJ6_stringSize_0f7a4 8 = .ok (.iload_n 0, 1) := by decide +kernel
theorem dJ6_stringSize_0f7a4_9 : decode cJ6_stringSize_0f7a4 9 = .ok (.ineg, 1) := by decide +kernel
theorem dJ6_stringSize_0f7a4_10 : decode cJ6_stringSize_0f7a4 10 = .ok (.istore_n 0, 1) := by decide +kernel
theorem dJ6_stringSize_0f7a4_11 : decode cJ6_stringSize_0f7a4 11 = .ok (.bipush (-10), 2) := by decide +kernel
theorem dJ6_stringSize_0f7a4_13 : decode cJ6_stringSize_0f7a4 13 = .ok (.istore_n 2, 1) := by decide +kernel
theorem dJ6_stringSize_0f7a4_14 : decode cJ6_stringSize_0f7a4 14 = .ok (.iconst 1, 1) := by decide +kernel
theorem dJ6_stringSize_0f7a4_15 : decode cJ6_stringSize_0f7a4 15 = .ok (.istore_n 3, 1) := by decide +kernel
theorem dJ6_stringSize_0f7a4_16 : decode cJ6_stringSize_0f7a4 16 = .ok (.iload_n 3, 1) := by decide +kernel
theorem dJ6_stringSize_0f7a4_17 : decode cJ6_stringSize_0f7a4 17 = .ok (.bipush 10, 2) := by decide +kernel
theorem dJ6_stringSize_0f7a4_19 : decode cJ6_stringSize_0f7a4 19 = .ok (.if_icmp .ge 23, 3) := by decide +kernel
theorem dJ6_stringSize_0f7a4_22 : decode cJ6_stringSize_0f7a4 22 = .ok (.iload_n 0, 1) := by decide +kernel
theorem dJ6_stringSize_0f7a4_23 : decode cJ6_stringSize_0f7a4 23 = .ok (.iload_n 2, 1) := by decide +kernel
theorem dJ6_stringSize_0f7a4_24 : decode cJ6_stringSize_0f7a4 24 = .ok (.if_icmp .le 7, 3) := by decide +kernel
theorem dJ6_stringSize_0f7a4_27 : decode cJ6_stringSize_0f7a4 27 = .ok (.iload_n 3, 1) := by decide +kernel
theorem dJ6_stringSize_0f7a4_28 : decode cJ6_stringSize_0f7a4 28 = .ok (.iload_n 1, 1) := by decide +kernel
theorem dJ6_stringSize_0f7a4_29 : decode cJ6_stringSize_0f7a4 29 = .ok (.iadd, 1) := by decide +kernel
theorem dJ6_stringSize_0f7a4_30 : decode cJ6_stringSize_0f7a4 30 = .ok (.ireturn, 1) := by decide +kernel
theorem dJ6_stringSize_0f7a4_31 : decode cJ6_stringSize_0f7a4 31 = .ok (.bipush 10, 2) := by decide +kernel
theorem dJ6_stringSize_0f7a4_33 : decode cJ6_stringSize_0f7a4 33 = .ok (.iload_n 2, 1) := by decide +kernel
theorem dJ6_stringSize_0f7a4_34 : decode cJ6_stringSize_0f7a4 34 = .ok (.imul, 1) := by decide +kernel
theorem dJ6_stringSize_0f7a4_35 : decode cJ6_stringSize_0f7a4 35 = .ok (.istore_n 2, 1) := by decide +kernel
theorem dJ6_stringSize_0f7a4_36 : decode cJ6_stringSize_0f7a4 36 = .ok (.iinc 3 1, 3) := by decide +kernel
theorem dJ6_stringSize_0f7a4_39 : decode cJ6_stringSize_0f7a4 39 = .ok (.goto (-23), 3) := by decide +kernel
theorem dJ6_stringSize_0f7a4_42 : decode cJ6_stringSize_0f7a4 42 = .ok (.bipush 10, 2) := by decide +kernel
theorem dJ6_stringSize_0f7a4_44 : decode cJ6_stringSize_0f7a4 44 = .ok (.iload_n 1, 1) := by decide +kernel
theorem dJ6_stringSize_0f7a4_45 : decode cJ6_stringSize_0f7a4 45 = .ok (.iadd, 1) := by decide +kernel
theorem dJ6_stringSize_0f7a4_46 : decode cJ6_stringSize_0f7a4 46 = .ok (.ireturn, 1) := by decide +kernel
theorem dJ6_bitCount_0f7a4_0 : decode cJ6_bitCount_0f7a4 0 = .ok (.iload_n 0, 1) := by decide +kernel
theorem dJ6_bitCount_0f7a4_1 : decode cJ6_bitCount_0f7a4 1 = .ok (.iload_n 0, 1) := by decide +kernel
theorem dJ6_bitCount_0f7a4_2 : decode cJ6_bitCount_0f7a4 2 = .ok (.iconst 1, 1) := by decide +kernel
theorem dJ6_bitCount_0f7a4_3 : decode cJ6_bitCount_0f7a4 3 = .ok (.iushr, 1) := by decide +kernel
theorem dJ6_bitCount_0f7a4_4 : decode cJ6_bitCount_0f7a4 4 = .ok (.ldc_w 265, 3) := by decide +kernel
theorem dJ6_bitCount_0f7a4_7 : decode cJ6_bitCount_0f7a4 7 = .ok (.iand, 1) := by decide +kernel
theorem dJ6_bitCount_0f7a4_8 : decode cJ6_bitCount_0f7a4 8 = .ok (.isub, 1) := by decide +kernel
theorem dJ6_bitCount_0f7a4_9 : decode cJ6_bitCount_0f7a4 9 = .ok (.istore_n 0, 1) := by decide +kernel
theorem dJ6_bitCount_0f7a4_10 : decode cJ6_bitCount_0f7a4 10 = .ok (.iload_n 0, 1) := by decide +kernel
theorem dJ6_bitCount_0f7a4_11 : decode cJ6_bitCount_0f7a4 11 = .ok (.ldc_w 266, 3) := by decide +kernel
theorem dJ6_bitCount_0f7a4_14 : decode cJ6_bitCount_0f7a4 14 = .ok (.iand, 1) := by decide +kernel
theorem dJ6_bitCount_0f7a4_15 : decode cJ6_bitCount_0f7a4 15 = .ok (.iload_n 0, 1) := by decide +kernel
theorem dJ6_bitCount_0f7a4_16 : decode cJ6_bitCount_0f7a4 16 = .ok (.iconst 2, 1) := by decide +kernel
theorem dJ6_bitCount_0f7a4_17 : decode cJ6_bitCount_0f7a4 17 = .ok (.iushr, 1) := by decide +kernel
theorem dJ6_bitCount_0f7a4_18 : decode cJ6_bitCount_0f7a4 18 = .ok (.ldc_w 266, 3) := by decide +kernel
theorem dJ6_bitCount_0f7a4_21 : decode cJ6_bitCount_0f7a4 21 = .ok (.iand, 1) := by decide +kernel
theorem dJ6_bitCount_0f7a4_22 : decode cJ6_bitCount_0f7a4 22 = .ok (.iadd, 1) := by decide +kernel
theorem dJ6_bitCount_0f7a4_23 : decode cJ6_bitCount_0f7a4 23 = .ok (.istore_n 0, 1) := by decide +kernel
theorem dJ6_bitCount_0f7a4_24 : decode cJ6_bitCount_0f7a4 24 = .ok (.iload_n 0, 1) := by decide +kernel
theorem dJ6_bitCount_0f7a4_25 : decode cJ6_bitCount_0f7a4 25 = .ok (.iload_n 0, 1) := by decide +kernel
theorem dJ6_bitCount_0f7a4_26 : decode cJ6_bitCount_0f7a4 26 = .ok (.iconst 4, 1) := by decide +kernel
theorem dJ6_bitCount_0f7a4_27 : decode cJ6_bitCount_0f7a4 27 = .ok (.iushr, 1) := by decide +kernel
theorem dJ6_bitCount_0f7a4_28 : decode cJ6_bitCount_0f7a4 28 = .ok (.iadd, 1) := by decide +kernel
theorem dJ6_bitCount_0f7a4_29 : decode cJ6_bitCount_0f7a4 29 = .ok (.ldc_w 267, 3) := by decide +kernel
theorem dJ6_bitCount_0f7a4_32 : decode cJ6_bitCount_0f7a4 32 = .ok (.iand, 1) := by decide +kernel
theorem dJ6_bitCount_0f7a4_33 : decode cJ6_bitCount_0f7a4 33 = .ok (.istore_n 0, 1) := by decide +kernel
theorem dJ6_bitCount_0f7a4_34 : decode cJ6_bitCount_0f7a4 34 = .ok (.iload_n 0, 1) := by decide +kernel
theorem dJ6_bitCount_0f7a4_35 : decode cJ6_bitCount_0f7a4 35 = .ok (.iload_n 0, 1) := by decide +kernel
theorem dJ6_bitCount_0f7a4_36 : decode cJ6_bitCount_0f7a4 36 = .ok (.bipush 8, 2) := by decide +kernel
theorem dJ6_bitCount_0f7a4_38 : decode cJ6_bitCount_0f7a4 38 = .ok (.iushr, 1) := by decide +kernel
theorem dJ6_bitCount_0f7a4_39 : decode cJ6_bitCount_0f7a4 39 = .ok (.iadd, 1) := by decide +kernel
theorem dJ6_bitCount_0f7a4_40 : decode cJ6_bitCount_0f7a4 40 = .ok (.istore_n 0, 1) := by decide +kernel
theorem dJ6_bitCount_0f7a4_41 : decode cJ6_bitCount_0f7a4 41 = .ok (.iload_n 0, 1) := by decide +kernel
theorem dJ6_bitCount_0f7a4_42 : decode cJ6_bitCount_0f7a4 42 = .ok (.iload_n 0, 1) := by decide +kernel
theorem dJ6_bitCount_0f7a4_43 : decode cJ6_bitCount_0f7a4 43 = .ok (.bipush 16, 2) := by decide +kernel
theorem dJ6_bitCount_0f7a4_45 : decode cJ6_bitCount_0f7a4 45 = .ok (.iushr, 1) := by decide +kernel
theorem dJ6_bitCount_0f7a4_46 : decode cJ6_bitCount_0f7a4 46 = .ok (.iadd, 1) := by decide +kernel
theorem dJ6_bitCount_0f7a4_47 : decode cJ6_bitCount_0f7a4 47 = .ok (.istore_n 0, 1) := by decide +kernel
theorem dJ6_bitCount_0f7a4_48 : decode cJ6_bitCount_0f7a4 48 = .ok (.iload_n 0, 1) := by decide +kernel
theorem dJ6_bitCount_0f7a4_49 : decode cJ6_bitCount_0f7a4 49 = .ok (.bipush 63, 2) := by decide +kernel
theorem dJ6_bitCount_0f7a4_51 : decode cJ6_bitCount_0f7a4 51 = .ok (.iand, 1) := by decide +kernel
theorem dJ6_bitCount_0f7a4_52 : decode cJ6_bitCount_0f7a4 52 = .ok (.ireturn, 1) := by decide +kernel
