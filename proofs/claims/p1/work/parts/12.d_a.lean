theorem db_X0_init_0 : decode cX0_init 0 = .ok (.aload_n 0, 1) ∧ decode cX0_init 1 = .ok (.invokespecial 3, 3) ∧ decode cX0_init 4 = .ok (.aload_n 0, 1) ∧ decode cX0_init 5 = .ok (.sipush 512, 3) ∧ decode cX0_init 8 = .ok (.newarray .int, 2) ∧ decode cX0_init 10 = .ok (.putfield 9, 3) ∧ decode cX0_init 13 = .ok (.aload_n 0, 1) ∧ decode cX0_init 14 = .ok (.sipush 512, 3) ∧ decode cX0_init 17 = .ok (.newarray .int, 2) ∧ decode cX0_init 19 = .ok (.putfield 15, 3) ∧ decode cX0_init 22 = .ok (.aload_n 0, 1) ∧ decode cX0_init 23 = .ok (.bipush 100, 2) ∧ decode cX0_init 25 = .ok (.newarray .int, 2) ∧ decode cX0_init 27 = .ok (.putfield 18, 3) ∧ decode cX0_init 30 = .ok (.aload_n 0, 1) ∧ decode cX0_init 31 = .ok (.bipush 63, 2) := by decide +kernel
theorem dX0_init_0 : decode cX0_init 0 = .ok (.aload_n 0, 1) := db_X0_init_0.1
theorem dX0_init_1 : decode cX0_init 1 = .ok (.invokespecial 3, 3) := db_X0_init_0.2.1
theorem dX0_init_4 : decode cX0_init 4 = .ok (.aload_n 0, 1) := db_X0_init_0.2.2.1
theorem dX0_init_5 : decode cX0_init 5 = .ok (.sipush 512, 3) := db_X0_init_0.2.2.2.1
theorem dX0_init_8 : decode cX0_init 8 = .ok (.newarray .int, 2) := db_X0_init_0.2.2.2.2.1
theorem dX0_init_10 : decode cX0_init 10 = .ok (.putfield 9, 3) := db_X0_init_0.2.2.2.2.2.1
theorem dX0_init_13 : decode cX0_init 13 = .ok (.aload_n 0, 1) := db_X0_init_0.2.2.2.2.2.2.1
theorem dX0_init_14 : decode cX0_init 14 = .ok (.sipush 512, 3) := db_X0_init_0.2.2.2.2.2.2.2.1
theorem dX0_init_17 : decode cX0_init 17 = .ok (.newarray .int, 2) := db_X0_init_0.2.2.2.2.2.2.2.2.1
theorem dX0_init_19 : decode cX0_init 19 = .ok (.putfield 15, 3) := db_X0_init_0.2.2.2.2.2.2.2.2.2.1
theorem dX0_init_22 : decode cX0_init 22 = .ok (.aload_n 0, 1) := db_X0_init_0.2.2.2.2.2.2.2.2.2.2.1
theorem dX0_init_23 : decode cX0_init 23 = .ok (.bipush 100, 2) := db_X0_init_0.2.2.2.2.2.2.2.2.2.2.2.1
theorem dX0_init_25 : decode cX0_init 25 = .ok (.newarray .int, 2) := db_X0_init_0.2.2.2.2.2.2.2.2.2.2.2.2.1
theorem dX0_init_27 : decode cX0_init 27 = .ok (.putfield 18, 3) := db_X0_init_0.2.2.2.2.2.2.2.2.2.2.2.2.2.1
theorem dX0_init_30 : decode cX0_init 30 = .ok (.aload_n 0, 1) := db_X0_init_0.2.2.2.2.2.2.2.2.2.2.2.2.2.2.1
theorem dX0_init_31 : decode cX0_init 31 = .ok (.bipush 63, 2) := db_X0_init_0.2.2.2.2.2.2.2.2.2.2.2.2.2.2.2
theorem db_X0_init_33 : decode cX0_init 33 = .ok (.newarray .int, 2) ∧ decode cX0_init 35 = .ok (.putfield 21, 3) ∧ decode cX0_init 38 = .ok (.aload_n 0, 1) ∧ decode cX0_init 39 = .ok (.aload_n 1, 1) ∧ decode cX0_init 40 = .ok (.putfield 24, 3) ∧ decode cX0_init 43 = .ok (.aload_n 0, 1) ∧ decode cX0_init 44 = .ok (.new 28, 3) ∧ decode cX0_init 47 = .ok (.dup, 1) ∧ decode cX0_init 48 = .ok (.aload_n 1, 1) ∧ decode cX0_init 49 = .ok (.invokespecial 30, 3) ∧ decode cX0_init 52 = .ok (.putfield 33, 3) ∧ decode cX0_init 55 = .ok (.aload_n 0, 1) ∧ decode cX0_init 56 = .ok (.new 37, 3) ∧ decode cX0_init 59 = .ok (.dup, 1) ∧ decode cX0_init 60 = .ok (.aload_n 1, 1) ∧ decode cX0_init 61 = .ok (.invokespecial 39, 3) := by decide +kernel
theorem dX0_init_33 : decode cX0_init 33 = .ok (.newarray .int, 2) := db_X0_init_33.1
theorem dX0_init_35 : decode cX0_init 35 = .ok (.putfield 21, 3) := db_X0_init_33.2.1
theorem dX0_init_38 : decode cX0_init 38 = .ok (.aload_n 0, 1) := db_X0_init_33.2.2.1
theorem dX0_init_39 : decode cX0_init 39 = .ok (.aload_n 1, 1) := db_X0_init_33.2.2.2.1
theorem dX0_init_40 : decode cX0_init 40 = .ok (.putfield 24, 3) := db_X0_init_33.2.2.2.2.1
theorem dX0_init_43 : decode cX0_init 43 = .ok (.aload_n 0, 1) := db_X0_init_33.2.2.2.2.2.1
theorem dX0_init_44 : decode cX0_init 44 = .ok (.new 28, 3) := db_X0_init_33.2.2.2.2.2.2.1
theorem dX0_init_47 : decode cX0_init 47 = .ok (.dup, 1) := db_X0_init_33.2.2.2.2.2.2.2.1
theorem dX0_init_48 : decode cX0_init 48 = .ok (.aload_n 1, 1) := db_X0_init_33.2.2.2.2.2.2.2.2.1
theorem dX0_init_49 : decode cX0_init 49 = .ok (.invokespecial 30, 3) := db_X0_init_33.2.2.2.2.2.2.2.2.2.1
theorem dX0_init_52 : decode cX0_init 52 = .ok (.putfield 33, 3) := db_X0_init_33.2.2.2.2.2.2.2.2.2.2.1
theorem dX0_init_55 : decode cX0_init 55 = .ok (.aload_n 0, 1) := db_X0_init_33.2.2.2.2.2.2.2.2.2.2.2.1
theorem dX0_init_56 : decode cX0_init 56 = .ok (.new 37, 3) := db_X0_init_33.2.2.2.2.2.2.2.2.2.2.2.2.1
theorem dX0_init_59 : decode cX0_init 59 = .ok (.dup, 1) := db_X0_init_33.2.2.2.2.2.2.2.2.2.2.2.2.2.1
theorem dX0_init_60 : decode cX0_init 60 = .ok (.aload_n 1, 1) := db_X0_init_33.2.2.2.2.2.2.2.2.2.2.2.2.2.2.1
theorem dX0_init_61 : decode cX0_init 61 = .ok (.invokespecial 39, 3) := db_X0_init_33.2.2.2.2.2.2.2.2.2.2.2.2.2.2.2
theorem dX0_init_64 : decode cX0_init 64 = .ok (.putfield 40, 3) := by decide +kernel
theorem dX0_init_67 : decode cX0_init 67 = .ok (.return_, 1) := by decide +kernel
theorem db_X0_begin_0 : decode cX0_begin 0 = .ok (.aload_n 0, 1) ∧ decode cX0_begin 1 = .ok (.iload_n 2, 1) ∧ decode cX0_begin 2 = .ok (.putfield 44, 3) ∧ decode cX0_begin 5 = .ok (.aload_n 0, 1) ∧ decode cX0_begin 6 = .ok (.invokevirtual 48, 3) ∧ decode cX0_begin 9 = .ok (.aload_n 0, 1) ∧ decode cX0_begin 10 = .ok (.iconst 1, 1) ∧ decode cX0_begin 11 = .ok (.putfield 51, 3) ∧ decode cX0_begin 14 = .ok (.aload_n 0, 1) ∧ decode cX0_begin 15 = .ok (.getfield 40, 3) ∧ decode cX0_begin 18 = .ok (.iload_n 2, 1) ∧ decode cX0_begin 19 = .ok (.invokevirtual 54, 3) ∧ decode cX0_begin 22 = .ok (.aload_n 0, 1) ∧ decode cX0_begin 23 = .ok (.getfield 33, 3) ∧ decode cX0_begin 26 = .ok (.aload_n 1, 1) ∧ decode cX0_begin 27 = .ok (.invokevirtual 58, 3) := by decide +kernel
theorem dX0_begin_0 : decode cX0_begin 0 = .ok (.aload_n 0, 1) := db_X0_begin_0.1
theorem dX0_begin_1 : decode cX0_begin 1 = .ok (.iload_n 2, 1) := db_X0_begin_0.2.1
theorem dX0_begin_2 : decode cX0_begin 2 = .ok (.putfield 44, 3) := db_X0_begin_0.2.2.1
theorem dX0_begin_5 : decode cX0_begin 5 = .ok (.aload_n 0, 1) := db_X0_begin_0.2.2.2.1
theorem dX0_begin_6 : decode cX0_begin 6 = .ok (.invokevirtual 48, 3) := db_X0_begin_0.2.2.2.2.1
theorem dX0_begin_9 : decode cX0_begin 9 = .ok (.aload_n 0, 1) := db_X0_begin_0.2.2.2.2.2.1
theorem dX0_begin_10 : decode cX0_begin 10 = .ok (.iconst 1, 1) := db_X0_begin_0.2.2.2.2.2.2.1
theorem dX0_begin_11 : decode cX0_begin 11 = .ok (.putfield 51, 3) := db_X0_begin_0.2.2.2.2.2.2.2.1
theorem dX0_begin_14 : decode cX0_begin 14 = .ok (.aload_n 0, 1) := db_X0_begin_0.2.2.2.2.2.2.2.2.1
theorem dX0_begin_15 : decode cX0_begin 15 = .ok (.getfield 40, 3) := db_X0_begin_0.2.2.2.2.2.2.2.2.2.1
theorem dX0_begin_18 : decode cX0_begin 18 = .ok (.iload_n 2, 1) := db_X0_begin_0.2.2.2.2.2.2.2.2.2.2.1
theorem dX0_begin_19 : decode cX0_begin 19 = .ok (.invokevirtual 54, 3) := db_X0_begin_0.2.2.2.2.2.2.2.2.2.2.2.1
theorem dX0_begin_22 : decode cX0_begin 22 = .ok (.aload_n 0, 1) := db_X0_begin_0.2.2.2.2.2.2.2.2.2.2.2.2.1
theorem dX0_begin_23 : decode cX0_begin 23 = .ok (.getfield 33, 3) := db_X0_begin_0.2.2.2.2.2.2.2.2.2.2.2.2.2.1
theorem dX0_begin_26 : decode cX0_begin 26 = .ok (.aload_n 1, 1) := db_X0_begin_0.2.2.2.2.2.2.2.2.2.2.2.2.2.2.1
theorem dX0_begin_27 : decode cX0_begin 27 = .ok (.invokevirtual 58, 3) := db_X0_begin_0.2.2.2.2.2.2.2.2.2.2.2.2.2.2.2
theorem db_X0_begin_30 : decode cX0_begin 30 = .ok (.aload_n 0, 1) ∧ decode cX0_begin 31 = .ok (.invokevirtual 61, 3) ∧ decode cX0_begin 34 = .ok (.return_, 1) := by decide +kernel
theorem dX0_begin_30 : decode cX0_begin 30 = .ok (.aload_n 0, 1) := db_X0_begin_30.1
theorem dX0_begin_31 : decode cX0_begin 31 = .ok (.invokevirtual 61, 3) := db_X0_begin_30.2.1
theorem dX0_begin_34 : decode cX0_begin 34 = .ok (.return_, 1) := db_X0_begin_30.2.2
theorem db_X0_clear_0 : decode cX0_clear 0 = .ok (.aload_n 0, 1) ∧ decode cX0_clear 1 = .ok (.iconst 0, 1) ∧ decode cX0_clear 2 = .ok (.putfield 51, 3) ∧ decode cX0_clear 5 = .ok (.aload_n 0, 1) ∧ decode cX0_clear 6 = .ok (.iconst 0, 1) ∧ decode cX0_clear 7 = .ok (.putfield 64, 3) ∧ decode cX0_clear 10 = .ok (.aload_n 0, 1) ∧ decode cX0_clear 11 = .ok (.iconst 0, 1) ∧ decode cX0_clear 12 = .ok (.putfield 67, 3) ∧ decode cX0_clear 15 = .ok (.aload_n 0, 1) ∧ decode cX0_clear 16 = .ok (.iconst 0, 1) ∧ decode cX0_clear 17 = .ok (.putfield 70, 3) ∧ decode cX0_clear 20 = .ok (.aload_n 0, 1) ∧ decode cX0_clear 21 = .ok (.iconst 0, 1) ∧ decode cX0_clear 22 = .ok (.putfield 73, 3) ∧ decode cX0_clear 25 = .ok (.aload_n 0, 1) := by decide +kernel
theorem dX0_clear_0 : decode cX0_clear 0 = .ok (.aload_n 0, 1) := db_X0_clear_0.1
theorem dX0_clear_1 : decode cX0_clear 1 = .ok (.iconst 0, 1) := db_X0_clear_0.2.1
theorem dX0_clear_2 : decode cX0_clear 2 = .ok (.putfield 51, 3) := db_X0_clear_0.2.2.1
theorem dX0_clear_5 : decode cX0_clear 5 = .ok (.aload_n 0, 1) := db_X0_clear_0.2.2.2.1
theorem dX0_clear_6 : decode cX0_clear 6 = .ok (.iconst 0, 1) := db_X0_clear_0.2.2.2.2.1
theorem dX0_clear_7 : decode cX0_clear 7 = .ok (.putfield 64, 3) := db_X0_clear_0.2.2.2.2.2.1
theorem dX0_clear_10 : decode cX0_clear 10 = .ok (.aload_n 0, 1) := db_X0_clear_0.2.2.2.2.2.2.1
theorem dX0_clear_11 : decode cX0_clear 11 = .ok (.iconst 0, 1) := db_X0_clear_0.2.2.2.2.2.2.2.1
theorem dX0_clear_12 : decode cX0_clear 12 = .ok (.putfield 67, 3) := db_X0_clear_0.2.2.2.2.2.2.2.2.1
theorem dX0_clear_15 : decode cX0_clear 15 = .ok (.aload_n 0, 1) := db_X0_clear_0.2.2.2.2.2.2.2.2.2.1
theorem dX0_clear_16 : decode cX0_clear 16 = .ok (.iconst 0, 1) := db_X0_clear_0.2.2.2.2.2.2.2.2.2.2.1
theorem dX0_clear_17 : decode cX0_clear 17 = .ok (.putfield 70, 3) := db_X0_clear_0.2.2.2.2.2.2.2.2.2.2.2.1
theorem dX0_clear_20 : decode cX0_clear 20 = .ok (.aload_n 0, 1) := db_X0_clear_0.2.2.2.2.2.2.2.2.2.2.2.2.1
theorem dX0_clear_21 : decode cX0_clear 21 = .ok (.iconst 0, 1) := db_X0_clear_0.2.2.2.2.2.2.2.2.2.2.2.2.2.1
theorem dX0_clear_22 : decode cX0_clear 22 = .ok (.putfield 73, 3) := db_X0_clear_0.2.2.2.2.2.2.2.2.2.2.2.2.2.2.1
theorem dX0_clear_25 : decode cX0_clear 25 = .ok (.aload_n 0, 1) := db_X0_clear_0.2.2.2.2.2.2.2.2.2.2.2.2.2.2.2
theorem db_X0_clear_26 : decode cX0_clear 26 = .ok (.getfield 18, 3) ∧ decode cX0_clear 29 = .ok (.iconst (-1), 1) ∧ decode cX0_clear 30 = .ok (.invokestatic 76, 3) ∧ decode cX0_clear 33 = .ok (.aload_n 0, 1) ∧ decode cX0_clear 34 = .ok (.getfield 21, 3) ∧ decode cX0_clear 37 = .ok (.iconst 0, 1) ∧ decode cX0_clear 38 = .ok (.invokestatic 76, 3) ∧ decode cX0_clear 41 = .ok (.return_, 1) := by decide +kernel
theorem dX0_clear_26 : decode cX0_clear 26 = .ok (.getfield 18, 3) := db_X0_clear_26.1
theorem dX0_clear_29 : decode cX0_clear 29 = .ok (.iconst (-1), 1) := db_X0_clear_26.2.1
theorem dX0_clear_30 : decode cX0_clear 30 = .ok (.invokestatic 76, 3) := db_X0_clear_26.2.2.1
theorem dX0_clear_33 : decode cX0_clear 33 = .ok (.aload_n 0, 1) := db_X0_clear_26.2.2.2.1
theorem dX0_clear_34 : decode cX0_clear 34 = .ok (.getfield 21, 3) := db_X0_clear_26.2.2.2.2.1
theorem dX0_clear_37 : decode cX0_clear 37 = .ok (.iconst 0, 1) := db_X0_clear_26.2.2.2.2.2.1
theorem dX0_clear_38 : decode cX0_clear 38 = .ok (.invokestatic 76, 3) := db_X0_clear_26.2.2.2.2.2.2.1
theorem dX0_clear_41 : decode cX0_clear 41 = .ok (.return_, 1) := db_X0_clear_26.2.2.2.2.2.2.2
theorem db_X0_tell_0 : decode cX0_tell 0 = .ok (.iload_n 1, 1) ∧ decode cX0_tell 1 = .ok (.tableswitch 88 0 7 #[47, 52, 57, 62, 67, 88, 72, 80], 47) ∧ decode cX0_tell 48 = .ok (.aload_n 0, 1) ∧ decode cX0_tell 49 = .ok (.getfield 51, 3) ∧ decode cX0_tell 52 = .ok (.ireturn, 1) ∧ decode cX0_tell 53 = .ok (.aload_n 0, 1) ∧ decode cX0_tell 54 = .ok (.getfield 64, 3) ∧ decode cX0_tell 57 = .ok (.ireturn, 1) ∧ decode cX0_tell 58 = .ok (.aload_n 0, 1) ∧ decode cX0_tell 59 = .ok (.getfield 67, 3) ∧ decode cX0_tell 62 = .ok (.ireturn, 1) ∧ decode cX0_tell 63 = .ok (.aload_n 0, 1) ∧ decode cX0_tell 64 = .ok (.getfield 70, 3) ∧ decode cX0_tell 67 = .ok (.ireturn, 1) ∧ decode cX0_tell 68 = .ok (.aload_n 0, 1) ∧ decode cX0_tell 69 = .ok (.getfield 73, 3) := by decide +kernel
theorem dX0_tell_0 : decode cX0_tell 0 = .ok (.iload_n 1, 1) := db_X0_tell_0.1
theorem dX0_tell_1 : decode cX0_tell 1 = .ok (.tableswitch 88 0 7 #[47, 52, 57, 62, 67, 88, 72, 80], 47) := db_X0_tell_0.2.1
theorem dX0_tell_48 : decode cX0_tell 48 = .ok (.aload_n 0, 1) := db_X0_tell_0.2.2.1
theorem dX0_tell_49 : decode cX0_tell 49 = .ok (.getfield 51, 3) := db_X0_tell_0.2.2.2.1
theorem dX0_tell_52 : decode cX0_tell 52 = .ok (.ireturn, 1) := db_X0_tell_0.2.2.2.2.1
theorem dX0_tell_53 : decode cX0_tell 53 = .ok (.aload_n 0, 1) := db_X0_tell_0.2.2.2.2.2.1
theorem dX0_tell_54 : decode cX0_tell 54 = .ok (.getfield 64, 3) := db_X0_tell_0.2.2.2.2.2.2.1
theorem dX0_tell_57 : decode cX0_tell 57 = .ok (.ireturn, 1) := db_X0_tell_0.2.2.2.2.2.2.2.1
theorem dX0_tell_58 : decode cX0_tell 58 = .ok (.aload_n 0, 1) := db_X0_tell_0.2.2.2.2.2.2.2.2.1
theorem dX0_tell_59 : decode cX0_tell 59 = .ok (.getfield 67, 3) := db_X0_tell_0.2.2.2.2.2.2.2.2.2.1
theorem dX0_tell_62 : decode cX0_tell 62 = .ok (.ireturn, 1) := db_X0_tell_0.2.2.2.2.2.2.2.2.2.2.1
theorem dX0_tell_63 : decode cX0_tell 63 = .ok (.aload_n 0, 1) := db_X0_tell_0.2.2.2.2.2.2.2.2.2.2.2.1
theorem dX0_tell_64 : decode cX0_tell 64 = .ok (.getfield 70, 3) := db_X0_tell_0.2.2.2.2.2.2.2.2.2.2.2.2.1
theorem dX0_tell_67 : decode cX0_tell 67 = .ok (.ireturn, 1) := db_X0_tell_0.2.2.2.2.2.2.2.2.2.2.2.2.2.1
theorem dX0_tell_68 : decode cX0_tell 68 = .ok (.aload_n 0, 1) := db_X0_tell_0.2.2.2.2.2.2.2.2.2.2.2.2.2.2.1
theorem dX0_tell_69 : decode cX0_tell 69 = .ok (.getfield 73, 3) := db_X0_tell_0.2.2.2.2.2.2.2.2.2.2.2.2.2.2.2
theorem db_X0_tell_72 : decode cX0_tell 72 = .ok (.ireturn, 1) ∧ decode cX0_tell 73 = .ok (.aload_n 0, 1) ∧ decode cX0_tell 74 = .ok (.getfield 40, 3) ∧ decode cX0_tell 77 = .ok (.getfield 82, 3) ∧ decode cX0_tell 80 = .ok (.ireturn, 1) ∧ decode cX0_tell 81 = .ok (.aload_n 0, 1) ∧ decode cX0_tell 82 = .ok (.getfield 33, 3) ∧ decode cX0_tell 85 = .ok (.getfield 85, 3) ∧ decode cX0_tell 88 = .ok (.ireturn, 1) ∧ decode cX0_tell 89 = .ok (.aload_n 0, 1) ∧ decode cX0_tell 90 = .ok (.invokevirtual 88, 3) ∧ decode cX0_tell 93 = .ok (.ireturn, 1) := by decide +kernel
theorem dX0_tell_72 : decode cX0_tell 72 = .ok (.ireturn, 1) := db_X0_tell_72.1
theorem dX0_tell_73 : decode cX0_tell 73 = .ok (.aload_n 0, 1) := db_X0_tell_72.2.1
theorem dX0_tell_74 : decode cX0_tell 74 = .ok (.getfield 40, 3) := db_X0_tell_72.2.2.1
theorem dX0_tell_77 : decode cX0_tell 77 = .ok (.getfield 82, 3) := db_X0_tell_72.2.2.2.1
theorem dX0_tell_80 : decode cX0_tell 80 = .ok (.ireturn, 1) := db_X0_tell_72.2.2.2.2.1
theorem dX0_tell_81 : decode cX0_tell 81 = .ok (.aload_n 0, 1) := db_X0_tell_72.2.2.2.2.2.1
theorem dX0_tell_82 : decode cX0_tell 82 = .ok (.getfield 33, 3) := db_X0_tell_72.2.2.2.2.2.2.1
theorem dX0_tell_85 : decode cX0_tell 85 = .ok (.getfield 85, 3) := db_X0_tell_72.2.2.2.2.2.2.2.1
theorem dX0_tell_88 : decode cX0_tell 88 = .ok (.ireturn, 1) := db_X0_tell_72.2.2.2.2.2.2.2.2.1
theorem dX0_tell_89 : decode cX0_tell 89 = .ok (.aload_n 0, 1) := db_X0_tell_72.2.2.2.2.2.2.2.2.2.1
theorem dX0_tell_90 : decode cX0_tell 90 = .ok (.invokevirtual 88, 3) := db_X0_tell_72.2.2.2.2.2.2.2.2.2.2.1
theorem dX0_tell_93 : decode cX0_tell 93 = .ok (.ireturn, 1) := db_X0_tell_72.2.2.2.2.2.2.2.2.2.2.2
theorem db_X0_countDocuments_0 : decode cX0_countDocuments 0 = .ok (.aload_n 0, 1) ∧ decode cX0_countDocuments 1 = .ok (.aload_n 0, 1) ∧ decode cX0_countDocuments 2 = .ok (.getfield 67, 3) ∧ decode cX0_countDocuments 5 = .ok (.aload_n 0, 1) ∧ decode cX0_countDocuments 6 = .ok (.getfield 24, 3) ∧ decode cX0_countDocuments 9 = .ok (.getfield 92, 3) ∧ decode cX0_countDocuments 12 = .ok (.invokevirtual 95, 3) ∧ decode cX0_countDocuments 15 = .ok (.iconst 0, 1) ∧ decode cX0_countDocuments 16 = .ok (.istore_n 1, 1) ∧ decode cX0_countDocuments 17 = .ok (.iconst 0, 1) ∧ decode cX0_countDocuments 18 = .ok (.istore_n 2, 1) ∧ decode cX0_countDocuments 19 = .ok (.iload_n 2, 1) ∧ decode cX0_countDocuments 20 = .ok (.bipush 100, 2) ∧ decode cX0_countDocuments 22 = .ok (.if_icmp .ge 25, 3) ∧ decode cX0_countDocuments 25 = .ok (.aload_n 0, 1) ∧ decode cX0_countDocuments 26 = .ok (.getfield 24, 3) := by decide +kernel
theorem dX0_countDocuments_0 : decode cX0_countDocuments 0 = .ok (.aload_n 0, 1) := db_X0_countDocuments_0.1
theorem dX0_countDocuments_1 : decode cX0_countDocuments 1 = .ok (.aload_n 0, 1) := db_X0_countDocuments_0.2.1
theorem dX0_countDocuments_2 : decode cX0_countDocuments 2 = .ok (.getfield 67, 3) := db_X0_countDocuments_0.2.2.1
theorem dX0_countDocuments_5 : decode cX0_countDocuments 5 = .ok (.aload_n 0, 1) := db_X0_countDocuments_0.2.2.2.1
theorem dX0_countDocuments_6 : decode cX0_countDocuments 6 = .ok (.getfield 24, 3) := db_X0_countDocuments_0.2.2.2.2.1
theorem dX0_countDocuments_9 : decode cX0_countDocuments 9 = .ok (.getfield 92, 3) := db_X0_countDocuments_0.2.2.2.2.2.1
theorem dX0_countDocuments_12 : decode cX0_countDocuments 12 = .ok (.invokevirtual 95, 3) := db_X0_countDocuments_0.2.2.2.2.2.2.1
theorem dX0_countDocuments_15 : decode cX0_countDocuments 15 = .ok (.iconst 0, 1) := db_X0_countDocuments_0.2.2.2.2.2.2.2.1
theorem dX0_countDocuments_16 : decode cX0_countDocuments 16 = .ok (.istore_n 1, 1) := db_X0_countDocuments_0.2.2.2.2.2.2.2.2.1
theorem dX0_countDocuments_17 : decode cX0_countDocuments 17 = .ok (.iconst 0, 1) := db_X0_countDocuments_0.2.2.2.2.2.2.2.2.2.1
theorem dX0_countDocuments_18 : decode cX0_countDocuments 18 = .ok (.istore_n 2, 1) := db_X0_countDocuments_0.2.2.2.2.2.2.2.2.2.2.1
theorem dX0_countDocuments_19 : decode cX0_countDocuments 19 = .ok (.iload_n 2, 1) := db_X0_countDocuments_0.2.2.2.2.2.2.2.2.2.2.2.1
theorem dX0_countDocuments_20 : decode cX0_countDocuments 20 = .ok (.bipush 100, 2) := db_X0_countDocuments_0.2.2.2.2.2.2.2.2.2.2.2.2.1
theorem dX0_countDocuments_22 : decode cX0_countDocuments 22 = .ok (.if_icmp .ge 25, 3) := db_X0_countDocuments_0.2.2.2.2.2.2.2.2.2.2.2.2.2.1
theorem dX0_countDocuments_25 : decode cX0_countDocuments 25 = .ok (.aload_n 0, 1) := db_X0_countDocuments_0.2.2.2.2.2.2.2.2.2.2.2.2.2.2.1
theorem dX0_countDocuments_26 : decode cX0_countDocuments 26 = .ok (.getfield 24, 3) := db_X0_countDocuments_0.2.2.2.2.2.2.2.2.2.2.2.2.2.2.2
theorem db_X0_countDocuments_29 : decode cX0_countDocuments 29 = .ok (.getfield 92, 3) ∧ decode cX0_countDocuments 32 = .ok (.iload_n 2, 1) ∧ decode cX0_countDocuments 33 = .ok (.iaload, 1) ∧ decode cX0_countDocuments 34 = .ok (.iconst (-1), 1) ∧ decode cX0_countDocuments 35 = .ok (.if_icmp .eq 6, 3) ∧ decode cX0_countDocuments 41 = .ok (.iinc 2 1, 3) ∧ decode cX0_countDocuments 44 = .ok (.goto (-25), 3) ∧ decode cX0_countDocuments 47 = .ok (.iload_n 1, 1) ∧ decode cX0_countDocuments 48 = .ok (.ireturn, 1) := by decide +kernel
theorem dX0_countDocuments_29 : decode cX0_countDocuments 29 = .ok (.getfield 92, 3) := db_X0_countDocuments_29.1
theorem dX0_countDocuments_32 : decode cX0_countDocuments 32 = .ok (.iload_n 2, 1) := db_X0_countDocuments_29.2.1
theorem dX0_countDocuments_33 : decode cX0_countDocuments 33 = .ok (.iaload, 1) := db_X0_countDocuments_29.2.2.1
theorem dX0_countDocuments_34 : decode cX0_countDocuments 34 = .ok (.iconst (-1), 1) := db_X0_countDocuments_29.2.2.2.1
theorem dX0_countDocuments_35 : decode cX0_countDocuments 35 = .ok (.if_icmp .eq 6, 3) := db_X0_countDocuments_29.2.2.2.2.1
theorem dX0_countDocuments_41 : decode cX0_countDocuments 41 = .ok (.iinc 2 1, 3) := db_X0_countDocuments_29.2.2.2.2.2.1
theorem dX0_countDocuments_44 : decode cX0_countDocuments 44 = .ok (.goto (-25), 3) := db_X0_countDocuments_29.2.2.2.2.2.2.1
theorem dX0_countDocuments_47 : decode cX0_countDocuments 47 = .ok (.iload_n 1, 1) := db_X0_countDocuments_29.2.2.2.2.2.2.2.1
theorem dX0_countDocuments_48 : decode cX0_countDocuments 48 = .ok (.ireturn, 1) := db_X0_countDocuments_29.2.2.2.2.2.2.2.2
theorem db_X0_actAt_0 : decode cX0_actAt 0 = .ok (.iload_n 1, 1) ∧ decode cX0_actAt 1 = .ok (.aload_n 0, 1) ∧ decode cX0_actAt 2 = .ok (.getfield 64, 3) ∧ decode cX0_actAt 5 = .ok (.if_icmp .le 18, 3) ∧ decode cX0_actAt 8 = .ok (.iload_n 1, 1) ∧ decode cX0_actAt 9 = .ok (.aload_n 0, 1) ∧ decode cX0_actAt 10 = .ok (.getfield 67, 3) ∧ decode cX0_actAt 13 = .ok (.if_icmp .gt 10, 3) ∧ decode cX0_actAt 23 = .ok (.iconst (-1), 1) ∧ decode cX0_actAt 24 = .ok (.goto 9, 3) ∧ decode cX0_actAt 33 = .ok (.ireturn, 1) := by decide +kernel
theorem dX0_actAt_0 : decode cX0_actAt 0 = .ok (.iload_n 1, 1) := db_X0_actAt_0.1
theorem dX0_actAt_1 : decode cX0_actAt 1 = .ok (.aload_n 0, 1) := db_X0_actAt_0.2.1
theorem dX0_actAt_2 : decode cX0_actAt 2 = .ok (.getfield 64, 3) := db_X0_actAt_0.2.2.1
theorem dX0_actAt_5 : decode cX0_actAt 5 = .ok (.if_icmp .le 18, 3) := db_X0_actAt_0.2.2.2.1
theorem dX0_actAt_8 : decode cX0_actAt 8 = .ok (.iload_n 1, 1) := db_X0_actAt_0.2.2.2.2.1
theorem dX0_actAt_9 : decode cX0_actAt 9 = .ok (.aload_n 0, 1) := db_X0_actAt_0.2.2.2.2.2.1
theorem dX0_actAt_10 : decode cX0_actAt 10 = .ok (.getfield 67, 3) := db_X0_actAt_0.2.2.2.2.2.2.1
theorem dX0_actAt_13 : decode cX0_actAt 13 = .ok (.if_icmp .gt 10, 3) := db_X0_actAt_0.2.2.2.2.2.2.2.1
theorem dX0_actAt_23 : decode cX0_actAt 23 = .ok (.iconst (-1), 1) := db_X0_actAt_0.2.2.2.2.2.2.2.2.1
theorem dX0_actAt_24 : decode cX0_actAt 24 = .ok (.goto 9, 3) := db_X0_actAt_0.2.2.2.2.2.2.2.2.2.1
theorem dX0_actAt_33 : decode cX0_actAt 33 = .ok (.ireturn, 1) := db_X0_actAt_0.2.2.2.2.2.2.2.2.2.2
theorem db_X0_requestOf_0 : decode cX0_requestOf 0 = .ok (.iload_n 2, 1) ∧ decode cX0_requestOf 1 = .ok (.istore_n 3, 1) ∧ decode cX0_requestOf 2 = .ok (.iload_n 3, 1) ∧ decode cX0_requestOf 3 = .ok (.aload_n 0, 1) ∧ decode cX0_requestOf 4 = .ok (.getfield 64, 3) ∧ decode cX0_requestOf 7 = .ok (.if_icmp .le 55, 3) ∧ decode cX0_requestOf 62 = .ok (.aload_n 0, 1) ∧ decode cX0_requestOf 63 = .ok (.getfield 18, 3) ∧ decode cX0_requestOf 66 = .ok (.iload_n 1, 1) ∧ decode cX0_requestOf 67 = .ok (.iaload, 1) ∧ decode cX0_requestOf 68 = .ok (.ireturn, 1) := by decide +kernel
theorem dX0_requestOf_0 : decode cX0_requestOf 0 = .ok (.iload_n 2, 1) := db_X0_requestOf_0.1
theorem dX0_requestOf_1 : decode cX0_requestOf 1 = .ok (.istore_n 3, 1) := db_X0_requestOf_0.2.1
theorem dX0_requestOf_2 : decode cX0_requestOf 2 = .ok (.iload_n 3, 1) := db_X0_requestOf_0.2.2.1
theorem dX0_requestOf_3 : decode cX0_requestOf 3 = .ok (.aload_n 0, 1) := db_X0_requestOf_0.2.2.2.1
theorem dX0_requestOf_4 : decode cX0_requestOf 4 = .ok (.getfield 64, 3) := db_X0_requestOf_0.2.2.2.2.1
theorem dX0_requestOf_7 : decode cX0_requestOf 7 = .ok (.if_icmp .le 55, 3) := db_X0_requestOf_0.2.2.2.2.2.1
theorem dX0_requestOf_62 : decode cX0_requestOf 62 = .ok (.aload_n 0, 1) := db_X0_requestOf_0.2.2.2.2.2.2.1
theorem dX0_requestOf_63 : decode cX0_requestOf 63 = .ok (.getfield 18, 3) := db_X0_requestOf_0.2.2.2.2.2.2.2.1
theorem dX0_requestOf_66 : decode cX0_requestOf 66 = .ok (.iload_n 1, 1) := db_X0_requestOf_0.2.2.2.2.2.2.2.2.1
theorem dX0_requestOf_67 : decode cX0_requestOf 67 = .ok (.iaload, 1) := db_X0_requestOf_0.2.2.2.2.2.2.2.2.2.1
theorem dX0_requestOf_68 : decode cX0_requestOf 68 = .ok (.ireturn, 1) := db_X0_requestOf_0.2.2.2.2.2.2.2.2.2.2
theorem db_X0_documentsAt_0 : decode cX0_documentsAt 0 = .ok (.aload_n 0, 1) ∧ decode cX0_documentsAt 1 = .ok (.getfield 18, 3) ∧ decode cX0_documentsAt 4 = .ok (.iconst 0, 1) ∧ decode cX0_documentsAt 5 = .ok (.aload_n 2, 1) ∧ decode cX0_documentsAt 6 = .ok (.iconst 0, 1) ∧ decode cX0_documentsAt 7 = .ok (.bipush 100, 2) ∧ decode cX0_documentsAt 9 = .ok (.invokestatic 118, 3) ∧ decode cX0_documentsAt 12 = .ok (.aload_n 0, 1) ∧ decode cX0_documentsAt 13 = .ok (.getfield 64, 3) ∧ decode cX0_documentsAt 16 = .ok (.iconst 1, 1) ∧ decode cX0_documentsAt 17 = .ok (.iadd, 1) ∧ decode cX0_documentsAt 18 = .ok (.istore_n 3, 1) ∧ decode cX0_documentsAt 19 = .ok (.iload_n 3, 1) ∧ decode cX0_documentsAt 20 = .ok (.iload_n 1, 1) ∧ decode cX0_documentsAt 21 = .ok (.if_icmp .gt 62, 3) ∧ decode cX0_documentsAt 83 = .ok (.return_, 1) := by decide +kernel
theorem dX0_documentsAt_0 : decode cX0_documentsAt 0 = .ok (.aload_n 0, 1) := db_X0_documentsAt_0.1
theorem dX0_documentsAt_1 : decode cX0_documentsAt 1 = .ok (.getfield 18, 3) := db_X0_documentsAt_0.2.1
theorem dX0_documentsAt_4 : decode cX0_documentsAt 4 = .ok (.iconst 0, 1) := db_X0_documentsAt_0.2.2.1
theorem dX0_documentsAt_5 : decode cX0_documentsAt 5 = .ok (.aload_n 2, 1) := db_X0_documentsAt_0.2.2.2.1
theorem dX0_documentsAt_6 : decode cX0_documentsAt 6 = .ok (.iconst 0, 1) := db_X0_documentsAt_0.2.2.2.2.1
theorem dX0_documentsAt_7 : decode cX0_documentsAt 7 = .ok (.bipush 100, 2) := db_X0_documentsAt_0.2.2.2.2.2.1
theorem dX0_documentsAt_9 : decode cX0_documentsAt 9 = .ok (.invokestatic 118, 3) := db_X0_documentsAt_0.2.2.2.2.2.2.1
theorem dX0_documentsAt_12 : decode cX0_documentsAt 12 = .ok (.aload_n 0, 1) := db_X0_documentsAt_0.2.2.2.2.2.2.2.1
theorem dX0_documentsAt_13 : decode cX0_documentsAt 13 = .ok (.getfield 64, 3) := db_X0_documentsAt_0.2.2.2.2.2.2.2.2.1
theorem dX0_documentsAt_16 : decode cX0_documentsAt 16 = .ok (.iconst 1, 1) := db_X0_documentsAt_0.2.2.2.2.2.2.2.2.2.1
theorem dX0_documentsAt_17 : decode cX0_documentsAt 17 = .ok (.iadd, 1) := db_X0_documentsAt_0.2.2.2.2.2.2.2.2.2.2.1
theorem dX0_documentsAt_18 : decode cX0_documentsAt 18 = .ok (.istore_n 3, 1) := db_X0_documentsAt_0.2.2.2.2.2.2.2.2.2.2.2.1
theorem dX0_documentsAt_19 : decode cX0_documentsAt 19 = .ok (.iload_n 3, 1) := db_X0_documentsAt_0.2.2.2.2.2.2.2.2.2.2.2.2.1
theorem dX0_documentsAt_20 : decode cX0_documentsAt 20 = .ok (.iload_n 1, 1) := db_X0_documentsAt_0.2.2.2.2.2.2.2.2.2.2.2.2.2.1
theorem dX0_documentsAt_21 : decode cX0_documentsAt 21 = .ok (.if_icmp .gt 62, 3) := db_X0_documentsAt_0.2.2.2.2.2.2.2.2.2.2.2.2.2.2.1
theorem dX0_documentsAt_83 : decode cX0_documentsAt 83 = .ok (.return_, 1) := db_X0_documentsAt_0.2.2.2.2.2.2.2.2.2.2.2.2.2.2.2
theorem db_X0_flush_0 : decode cX0_flush 0 = .ok (.aload_n 0, 1) ∧ decode cX0_flush 1 = .ok (.aload_n 0, 1) ∧ decode cX0_flush 2 = .ok (.getfield 70, 3) ∧ decode cX0_flush 5 = .ok (.aload_n 0, 1) ∧ decode cX0_flush 6 = .ok (.getfield 18, 3) ∧ decode cX0_flush 9 = .ok (.invokevirtual 95, 3) ∧ decode cX0_flush 12 = .ok (.aload_n 0, 1) ∧ decode cX0_flush 13 = .ok (.invokevirtual 197, 3) ∧ decode cX0_flush 16 = .ok (.aload_n 0, 1) ∧ decode cX0_flush 17 = .ok (.aload_n 0, 1) ∧ decode cX0_flush 18 = .ok (.getfield 70, 3) ∧ decode cX0_flush 21 = .ok (.putfield 64, 3) ∧ decode cX0_flush 24 = .ok (.aload_n 0, 1) ∧ decode cX0_flush 25 = .ok (.getfield 33, 3) ∧ decode cX0_flush 28 = .ok (.invokevirtual 140, 3) ∧ decode cX0_flush 31 = .ok (.aload_n 0, 1) := by decide +kernel
theorem dX0_flush_0 : decode cX0_flush 0 = .ok (.aload_n 0, 1) := db_X0_flush_0.1
theorem dX0_flush_1 : decode cX0_flush 1 = .ok (.aload_n 0, 1) := db_X0_flush_0.2.1
theorem dX0_flush_2 : decode cX0_flush 2 = .ok (.getfield 70, 3) := db_X0_flush_0.2.2.1
theorem dX0_flush_5 : decode cX0_flush 5 = .ok (.aload_n 0, 1) := db_X0_flush_0.2.2.2.1
theorem dX0_flush_6 : decode cX0_flush 6 = .ok (.getfield 18, 3) := db_X0_flush_0.2.2.2.2.1
theorem dX0_flush_9 : decode cX0_flush 9 = .ok (.invokevirtual 95, 3) := db_X0_flush_0.2.2.2.2.2.1
theorem dX0_flush_12 : decode cX0_flush 12 = .ok (.aload_n 0, 1) := db_X0_flush_0.2.2.2.2.2.2.1
theorem dX0_flush_13 : decode cX0_flush 13 = .ok (.invokevirtual 197, 3) := db_X0_flush_0.2.2.2.2.2.2.2.1
theorem dX0_flush_16 : decode cX0_flush 16 = .ok (.aload_n 0, 1) := db_X0_flush_0.2.2.2.2.2.2.2.2.1
theorem dX0_flush_17 : decode cX0_flush 17 = .ok (.aload_n 0, 1) := db_X0_flush_0.2.2.2.2.2.2.2.2.2.1
theorem dX0_flush_18 : decode cX0_flush 18 = .ok (.getfield 70, 3) := db_X0_flush_0.2.2.2.2.2.2.2.2.2.2.1
theorem dX0_flush_21 : decode cX0_flush 21 = .ok (.putfield 64, 3) := db_X0_flush_0.2.2.2.2.2.2.2.2.2.2.2.1
theorem dX0_flush_24 : decode cX0_flush 24 = .ok (.aload_n 0, 1) := db_X0_flush_0.2.2.2.2.2.2.2.2.2.2.2.2.1
theorem dX0_flush_25 : decode cX0_flush 25 = .ok (.getfield 33, 3) := db_X0_flush_0.2.2.2.2.2.2.2.2.2.2.2.2.2.1
theorem dX0_flush_28 : decode cX0_flush 28 = .ok (.invokevirtual 140, 3) := db_X0_flush_0.2.2.2.2.2.2.2.2.2.2.2.2.2.2.1
theorem dX0_flush_31 : decode cX0_flush 31 = .ok (.aload_n 0, 1) := db_X0_flush_0.2.2.2.2.2.2.2.2.2.2.2.2.2.2.2
theorem db_X0_flush_32 : decode cX0_flush 32 = .ok (.getfield 33, 3) ∧ decode cX0_flush 35 = .ok (.iconst 5, 1) ∧ decode cX0_flush 36 = .ok (.invokevirtual 150, 3) ∧ decode cX0_flush 39 = .ok (.aload_n 0, 1) ∧ decode cX0_flush 40 = .ok (.getfield 33, 3) ∧ decode cX0_flush 43 = .ok (.aload_n 0, 1) ∧ decode cX0_flush 44 = .ok (.getfield 64, 3) ∧ decode cX0_flush 47 = .ok (.invokevirtual 153, 3) ∧ decode cX0_flush 50 = .ok (.aload_n 0, 1) ∧ decode cX0_flush 51 = .ok (.getfield 33, 3) ∧ decode cX0_flush 54 = .ok (.aload_n 0, 1) ∧ decode cX0_flush 55 = .ok (.getfield 51, 3) ∧ decode cX0_flush 58 = .ok (.invokevirtual 153, 3) ∧ decode cX0_flush 61 = .ok (.iconst 0, 1) ∧ decode cX0_flush 62 = .ok (.istore_n 1, 1) ∧ decode cX0_flush 63 = .ok (.iload_n 1, 1) := by decide +kernel
theorem dX0_flush_32 : decode cX0_flush 32 = .ok (.getfield 33, 3) := db_X0_flush_32.1
theorem dX0_flush_35 : decode cX0_flush 35 = .ok (.iconst 5, 1) := db_X0_flush_32.2.1
theorem dX0_flush_36 : decode cX0_flush 36 = .ok (.invokevirtual 150, 3) := db_X0_flush_32.2.2.1
theorem dX0_flush_39 : decode cX0_flush 39 = .ok (.aload_n 0, 1) := db_X0_flush_32.2.2.2.1
theorem dX0_flush_40 : decode cX0_flush 40 = .ok (.getfield 33, 3) := db_X0_flush_32.2.2.2.2.1
theorem dX0_flush_43 : decode cX0_flush 43 = .ok (.aload_n 0, 1) := db_X0_flush_32.2.2.2.2.2.1
theorem dX0_flush_44 : decode cX0_flush 44 = .ok (.getfield 64, 3) := db_X0_flush_32.2.2.2.2.2.2.1
theorem dX0_flush_47 : decode cX0_flush 47 = .ok (.invokevirtual 153, 3) := db_X0_flush_32.2.2.2.2.2.2.2.1
theorem dX0_flush_50 : decode cX0_flush 50 = .ok (.aload_n 0, 1) := db_X0_flush_32.2.2.2.2.2.2.2.2.1
theorem dX0_flush_51 : decode cX0_flush 51 = .ok (.getfield 33, 3) := db_X0_flush_32.2.2.2.2.2.2.2.2.2.1
theorem dX0_flush_54 : decode cX0_flush 54 = .ok (.aload_n 0, 1) := db_X0_flush_32.2.2.2.2.2.2.2.2.2.2.1
theorem dX0_flush_55 : decode cX0_flush 55 = .ok (.getfield 51, 3) := db_X0_flush_32.2.2.2.2.2.2.2.2.2.2.2.1
theorem dX0_flush_58 : decode cX0_flush 58 = .ok (.invokevirtual 153, 3) := db_X0_flush_32.2.2.2.2.2.2.2.2.2.2.2.2.1
theorem dX0_flush_61 : decode cX0_flush 61 = .ok (.iconst 0, 1) := db_X0_flush_32.2.2.2.2.2.2.2.2.2.2.2.2.2.1
theorem dX0_flush_62 : decode cX0_flush 62 = .ok (.istore_n 1, 1) := db_X0_flush_32.2.2.2.2.2.2.2.2.2.2.2.2.2.2.1
theorem dX0_flush_63 : decode cX0_flush 63 = .ok (.iload_n 1, 1) := db_X0_flush_32.2.2.2.2.2.2.2.2.2.2.2.2.2.2.2
theorem db_X0_flush_64 : decode cX0_flush 64 = .ok (.bipush 63, 2) ∧ decode cX0_flush 66 = .ok (.if_icmp .ge 22, 3) ∧ decode cX0_flush 69 = .ok (.aload_n 0, 1) ∧ decode cX0_flush 70 = .ok (.getfield 33, 3) ∧ decode cX0_flush 73 = .ok (.aload_n 0, 1) ∧ decode cX0_flush 74 = .ok (.getfield 21, 3) ∧ decode cX0_flush 77 = .ok (.iload_n 1, 1) ∧ decode cX0_flush 78 = .ok (.iaload, 1) ∧ decode cX0_flush 79 = .ok (.invokevirtual 200, 3) ∧ decode cX0_flush 82 = .ok (.iinc 1 1, 3) ∧ decode cX0_flush 85 = .ok (.goto (-22), 3) ∧ decode cX0_flush 88 = .ok (.aload_n 0, 1) ∧ decode cX0_flush 89 = .ok (.getfield 33, 3) ∧ decode cX0_flush 92 = .ok (.invokevirtual 156, 3) ∧ decode cX0_flush 95 = .ok (.iconst 0, 1) ∧ decode cX0_flush 96 = .ok (.istore_n 1, 1) := by decide +kernel
theorem dX0_flush_64 : decode cX0_flush 64 = .ok (.bipush 63, 2) := db_X0_flush_64.1
theorem dX0_flush_66 : decode cX0_flush 66 = .ok (.if_icmp .ge 22, 3) := db_X0_flush_64.2.1
theorem dX0_flush_69 : decode cX0_flush 69 = .ok (.aload_n 0, 1) := db_X0_flush_64.2.2.1
theorem dX0_flush_70 : decode cX0_flush 70 = .ok (.getfield 33, 3) := db_X0_flush_64.2.2.2.1
theorem dX0_flush_73 : decode cX0_flush 73 = .ok (.aload_n 0, 1) := db_X0_flush_64.2.2.2.2.1
theorem dX0_flush_74 : decode cX0_flush 74 = .ok (.getfield 21, 3) := db_X0_flush_64.2.2.2.2.2.1
theorem dX0_flush_77 : decode cX0_flush 77 = .ok (.iload_n 1, 1) := db_X0_flush_64.2.2.2.2.2.2.1
theorem dX0_flush_78 : decode cX0_flush 78 = .ok (.iaload, 1) := db_X0_flush_64.2.2.2.2.2.2.2.1
theorem dX0_flush_79 : decode cX0_flush 79 = .ok (.invokevirtual 200, 3) := db_X0_flush_64.2.2.2.2.2.2.2.2.1
theorem dX0_flush_82 : decode cX0_flush 82 = .ok (.iinc 1 1, 3) := db_X0_flush_64.2.2.2.2.2.2.2.2.2.1
theorem dX0_flush_85 : decode cX0_flush 85 = .ok (.goto (-22), 3) := db_X0_flush_64.2.2.2.2.2.2.2.2.2.2.1
theorem dX0_flush_88 : decode cX0_flush 88 = .ok (.aload_n 0, 1) := db_X0_flush_64.2.2.2.2.2.2.2.2.2.2.2.1
theorem dX0_flush_89 : decode cX0_flush 89 = .ok (.getfield 33, 3) := db_X0_flush_64.2.2.2.2.2.2.2.2.2.2.2.2.1
theorem dX0_flush_92 : decode cX0_flush 92 = .ok (.invokevirtual 156, 3) := db_X0_flush_64.2.2.2.2.2.2.2.2.2.2.2.2.2.1
theorem dX0_flush_95 : decode cX0_flush 95 = .ok (.iconst 0, 1) := db_X0_flush_64.2.2.2.2.2.2.2.2.2.2.2.2.2.2.1
theorem dX0_flush_96 : decode cX0_flush 96 = .ok (.istore_n 1, 1) := db_X0_flush_64.2.2.2.2.2.2.2.2.2.2.2.2.2.2.2
theorem db_X0_flush_97 : decode cX0_flush 97 = .ok (.iload_n 1, 1) ∧ decode cX0_flush 98 = .ok (.bipush 100, 2) ∧ decode cX0_flush 100 = .ok (.if_icmp .ge 14, 3) ∧ decode cX0_flush 103 = .ok (.aload_n 0, 1) ∧ decode cX0_flush 104 = .ok (.iload_n 1, 1) ∧ decode cX0_flush 105 = .ok (.invokevirtual 203, 3) ∧ decode cX0_flush 108 = .ok (.iinc 1 1, 3) ∧ decode cX0_flush 111 = .ok (.goto (-14), 3) ∧ decode cX0_flush 114 = .ok (.aload_n 0, 1) ∧ decode cX0_flush 115 = .ok (.aload_n 0, 1) ∧ decode cX0_flush 116 = .ok (.getfield 73, 3) ∧ decode cX0_flush 119 = .ok (.invokevirtual 159, 3) ∧ decode cX0_flush 122 = .ok (.aload_n 0, 1) ∧ decode cX0_flush 123 = .ok (.getfield 64, 3) ∧ decode cX0_flush 126 = .ok (.iconst 1, 1) ∧ decode cX0_flush 127 = .ok (.iadd, 1) := by decide +kernel
theorem dX0_flush_97 : decode cX0_flush 97 = .ok (.iload_n 1, 1) := db_X0_flush_97.1
theorem dX0_flush_98 : decode cX0_flush 98 = .ok (.bipush 100, 2) := db_X0_flush_97.2.1
theorem dX0_flush_100 : decode cX0_flush 100 = .ok (.if_icmp .ge 14, 3) := db_X0_flush_97.2.2.1
theorem dX0_flush_103 : decode cX0_flush 103 = .ok (.aload_n 0, 1) := db_X0_flush_97.2.2.2.1
theorem dX0_flush_104 : decode cX0_flush 104 = .ok (.iload_n 1, 1) := db_X0_flush_97.2.2.2.2.1
theorem dX0_flush_105 : decode cX0_flush 105 = .ok (.invokevirtual 203, 3) := db_X0_flush_97.2.2.2.2.2.1
theorem dX0_flush_108 : decode cX0_flush 108 = .ok (.iinc 1 1, 3) := db_X0_flush_97.2.2.2.2.2.2.1
theorem dX0_flush_111 : decode cX0_flush 111 = .ok (.goto (-14), 3) := db_X0_flush_97.2.2.2.2.2.2.2.1
theorem dX0_flush_114 : decode cX0_flush 114 = .ok (.aload_n 0, 1) := db_X0_flush_97.2.2.2.2.2.2.2.2.1
theorem dX0_flush_115 : decode cX0_flush 115 = .ok (.aload_n 0, 1) := db_X0_flush_97.2.2.2.2.2.2.2.2.2.1
theorem dX0_flush_116 : decode cX0_flush 116 = .ok (.getfield 73, 3) := db_X0_flush_97.2.2.2.2.2.2.2.2.2.2.1
theorem dX0_flush_119 : decode cX0_flush 119 = .ok (.invokevirtual 159, 3) := db_X0_flush_97.2.2.2.2.2.2.2.2.2.2.2.1
theorem dX0_flush_122 : decode cX0_flush 122 = .ok (.aload_n 0, 1) := db_X0_flush_97.2.2.2.2.2.2.2.2.2.2.2.2.1
theorem dX0_flush_123 : decode cX0_flush 123 = .ok (.getfield 64, 3) := db_X0_flush_97.2.2.2.2.2.2.2.2.2.2.2.2.2.1
theorem dX0_flush_126 : decode cX0_flush 126 = .ok (.iconst 1, 1) := db_X0_flush_97.2.2.2.2.2.2.2.2.2.2.2.2.2.2.1
theorem dX0_flush_127 : decode cX0_flush 127 = .ok (.iadd, 1) := db_X0_flush_97.2.2.2.2.2.2.2.2.2.2.2.2.2.2.2
theorem db_X0_flush_128 : decode cX0_flush 128 = .ok (.istore_n 1, 1) ∧ decode cX0_flush 129 = .ok (.iload_n 1, 1) ∧ decode cX0_flush 130 = .ok (.aload_n 0, 1) ∧ decode cX0_flush 131 = .ok (.getfield 67, 3) ∧ decode cX0_flush 134 = .ok (.if_icmp .gt 32, 3) ∧ decode cX0_flush 166 = .ok (.aload_n 0, 1) ∧ decode cX0_flush 167 = .ok (.getfield 33, 3) ∧ decode cX0_flush 170 = .ok (.invokevirtual 206, 3) ∧ decode cX0_flush 173 = .ok (.return_, 1) := by decide +kernel
theorem dX0_flush_128 : decode cX0_flush 128 = .ok (.istore_n 1, 1) := db_X0_flush_128.1
theorem dX0_flush_129 : decode cX0_flush 129 = .ok (.iload_n 1, 1) := db_X0_flush_128.2.1
theorem dX0_flush_130 : decode cX0_flush 130 = .ok (.aload_n 0, 1) := db_X0_flush_128.2.2.1
theorem dX0_flush_131 : decode cX0_flush 131 = .ok (.getfield 67, 3) := db_X0_flush_128.2.2.2.1
theorem dX0_flush_134 : decode cX0_flush 134 = .ok (.if_icmp .gt 32, 3) := db_X0_flush_128.2.2.2.2.1
theorem dX0_flush_166 : decode cX0_flush 166 = .ok (.aload_n 0, 1) := db_X0_flush_128.2.2.2.2.2.1
theorem dX0_flush_167 : decode cX0_flush 167 = .ok (.getfield 33, 3) := db_X0_flush_128.2.2.2.2.2.2.1
theorem dX0_flush_170 : decode cX0_flush 170 = .ok (.invokevirtual 206, 3) := db_X0_flush_128.2.2.2.2.2.2.2.1
theorem dX0_flush_173 : decode cX0_flush 173 = .ok (.return_, 1) := db_X0_flush_128.2.2.2.2.2.2.2.2
theorem db_X0_markDone_0 : decode cX0_markDone 0 = .ok (.aload_n 0, 1) ∧ decode cX0_markDone 1 = .ok (.getfield 64, 3) ∧ decode cX0_markDone 4 = .ok (.iconst 1, 1) ∧ decode cX0_markDone 5 = .ok (.iadd, 1) ∧ decode cX0_markDone 6 = .ok (.istore_n 1, 1) ∧ decode cX0_markDone 7 = .ok (.iload_n 1, 1) ∧ decode cX0_markDone 8 = .ok (.aload_n 0, 1) ∧ decode cX0_markDone 9 = .ok (.getfield 70, 3) ∧ decode cX0_markDone 12 = .ok (.if_icmp .gt 44, 3) ∧ decode cX0_markDone 56 = .ok (.return_, 1) := by decide +kernel
theorem dX0_markDone_0 : decode cX0_markDone 0 = .ok (.aload_n 0, 1) := db_X0_markDone_0.1
theorem dX0_markDone_1 : decode cX0_markDone 1 = .ok (.getfield 64, 3) := db_X0_markDone_0.2.1
theorem dX0_markDone_4 : decode cX0_markDone 4 = .ok (.iconst 1, 1) := db_X0_markDone_0.2.2.1
theorem dX0_markDone_5 : decode cX0_markDone 5 = .ok (.iadd, 1) := db_X0_markDone_0.2.2.2.1
theorem dX0_markDone_6 : decode cX0_markDone 6 = .ok (.istore_n 1, 1) := db_X0_markDone_0.2.2.2.2.1
theorem dX0_markDone_7 : decode cX0_markDone 7 = .ok (.iload_n 1, 1) := db_X0_markDone_0.2.2.2.2.2.1
theorem dX0_markDone_8 : decode cX0_markDone 8 = .ok (.aload_n 0, 1) := db_X0_markDone_0.2.2.2.2.2.2.1
theorem dX0_markDone_9 : decode cX0_markDone 9 = .ok (.getfield 70, 3) := db_X0_markDone_0.2.2.2.2.2.2.2.1
theorem dX0_markDone_12 : decode cX0_markDone 12 = .ok (.if_icmp .gt 44, 3) := db_X0_markDone_0.2.2.2.2.2.2.2.2.1
theorem dX0_markDone_56 : decode cX0_markDone 56 = .ok (.return_, 1) := db_X0_markDone_0.2.2.2.2.2.2.2.2.2
theorem db_X0_addDocument_0 : decode cX0_addDocument 0 = .ok (.aload_n 0, 1) ∧ decode cX0_addDocument 1 = .ok (.getfield 24, 3) ∧ decode cX0_addDocument 4 = .ok (.aload_n 0, 1) ∧ decode cX0_addDocument 5 = .ok (.getfield 18, 3) ∧ decode cX0_addDocument 8 = .ok (.iload_n 1, 1) ∧ decode cX0_addDocument 9 = .ok (.iaload, 1) ∧ decode cX0_addDocument 10 = .ok (.invokevirtual 103, 3) ∧ decode cX0_addDocument 13 = .ok (.astore_n 2, 1) ∧ decode cX0_addDocument 14 = .ok (.aload_n 2, 1) ∧ decode cX0_addDocument 15 = .ok (.ifnull 49, 3) ∧ decode cX0_addDocument 64 = .ok (.return_, 1) := by decide +kernel
theorem dX0_addDocument_0 : decode cX0_addDocument 0 = .ok (.aload_n 0, 1) := db_X0_addDocument_0.1
theorem dX0_addDocument_1 : decode cX0_addDocument 1 = .ok (.getfield 24, 3) := db_X0_addDocument_0.2.1
theorem dX0_addDocument_4 : decode cX0_addDocument 4 = .ok (.aload_n 0, 1) := db_X0_addDocument_0.2.2.1
theorem dX0_addDocument_5 : decode cX0_addDocument 5 = .ok (.getfield 18, 3) := db_X0_addDocument_0.2.2.2.1
theorem dX0_addDocument_8 : decode cX0_addDocument 8 = .ok (.iload_n 1, 1) := db_X0_addDocument_0.2.2.2.2.1
theorem dX0_addDocument_9 : decode cX0_addDocument 9 = .ok (.iaload, 1) := db_X0_addDocument_0.2.2.2.2.2.1
theorem dX0_addDocument_10 : decode cX0_addDocument 10 = .ok (.invokevirtual 103, 3) := db_X0_addDocument_0.2.2.2.2.2.2.1
theorem dX0_addDocument_13 : decode cX0_addDocument 13 = .ok (.astore_n 2, 1) := db_X0_addDocument_0.2.2.2.2.2.2.2.1
theorem dX0_addDocument_14 : decode cX0_addDocument 14 = .ok (.aload_n 2, 1) := db_X0_addDocument_0.2.2.2.2.2.2.2.2.1
theorem dX0_addDocument_15 : decode cX0_addDocument 15 = .ok (.ifnull 49, 3) := db_X0_addDocument_0.2.2.2.2.2.2.2.2.2.1
theorem dX0_addDocument_64 : decode cX0_addDocument 64 = .ok (.return_, 1) := db_X0_addDocument_0.2.2.2.2.2.2.2.2.2.2
theorem db_X0_addShown_0 : decode cX0_addShown 0 = .ok (.aload_n 0, 1) ∧ decode cX0_addShown 1 = .ok (.getfield 33, 3) ∧ decode cX0_addShown 4 = .ok (.iconst 4, 1) ∧ decode cX0_addShown 5 = .ok (.invokevirtual 150, 3) ∧ decode cX0_addShown 8 = .ok (.aload_n 0, 1) ∧ decode cX0_addShown 9 = .ok (.getfield 33, 3) ∧ decode cX0_addShown 12 = .ok (.iload_n 1, 1) ∧ decode cX0_addShown 13 = .ok (.invokevirtual 153, 3) ∧ decode cX0_addShown 16 = .ok (.aload_n 0, 1) ∧ decode cX0_addShown 17 = .ok (.getfield 33, 3) ∧ decode cX0_addShown 20 = .ok (.invokevirtual 156, 3) ∧ decode cX0_addShown 23 = .ok (.return_, 1) := by decide +kernel
theorem dX0_addShown_0 : decode cX0_addShown 0 = .ok (.aload_n 0, 1) := db_X0_addShown_0.1
theorem dX0_addShown_1 : decode cX0_addShown 1 = .ok (.getfield 33, 3) := db_X0_addShown_0.2.1
theorem dX0_addShown_4 : decode cX0_addShown 4 = .ok (.iconst 4, 1) := db_X0_addShown_0.2.2.1
theorem dX0_addShown_5 : decode cX0_addShown 5 = .ok (.invokevirtual 150, 3) := db_X0_addShown_0.2.2.2.1
theorem dX0_addShown_8 : decode cX0_addShown 8 = .ok (.aload_n 0, 1) := db_X0_addShown_0.2.2.2.2.1
theorem dX0_addShown_9 : decode cX0_addShown 9 = .ok (.getfield 33, 3) := db_X0_addShown_0.2.2.2.2.2.1
theorem dX0_addShown_12 : decode cX0_addShown 12 = .ok (.iload_n 1, 1) := db_X0_addShown_0.2.2.2.2.2.2.1
theorem dX0_addShown_13 : decode cX0_addShown 13 = .ok (.invokevirtual 153, 3) := db_X0_addShown_0.2.2.2.2.2.2.2.1
theorem dX0_addShown_16 : decode cX0_addShown 16 = .ok (.aload_n 0, 1) := db_X0_addShown_0.2.2.2.2.2.2.2.2.1
theorem dX0_addShown_17 : decode cX0_addShown 17 = .ok (.getfield 33, 3) := db_X0_addShown_0.2.2.2.2.2.2.2.2.2.1
theorem dX0_addShown_20 : decode cX0_addShown 20 = .ok (.invokevirtual 156, 3) := db_X0_addShown_0.2.2.2.2.2.2.2.2.2.2.1
theorem dX0_addShown_23 : decode cX0_addShown 23 = .ok (.return_, 1) := db_X0_addShown_0.2.2.2.2.2.2.2.2.2.2.2
theorem db_X1_init_0 : decode cX1_init 0 = .ok (.aload_n 0, 1) ∧ decode cX1_init 1 = .ok (.invokespecial 3, 3) ∧ decode cX1_init 4 = .ok (.aload_n 0, 1) ∧ decode cX1_init 5 = .ok (.sipush 12928, 3) ∧ decode cX1_init 8 = .ok (.newarray .byte, 2) ∧ decode cX1_init 10 = .ok (.putfield 9, 3) ∧ decode cX1_init 13 = .ok (.aload_n 0, 1) ∧ decode cX1_init 14 = .ok (.aload_n 1, 1) ∧ decode cX1_init 15 = .ok (.putfield 15, 3) ∧ decode cX1_init 18 = .ok (.return_, 1) := by decide +kernel
theorem dX1_init_0 : decode cX1_init 0 = .ok (.aload_n 0, 1) := db_X1_init_0.1
theorem dX1_init_1 : decode cX1_init 1 = .ok (.invokespecial 3, 3) := db_X1_init_0.2.1
theorem dX1_init_4 : decode cX1_init 4 = .ok (.aload_n 0, 1) := db_X1_init_0.2.2.1
theorem dX1_init_5 : decode cX1_init 5 = .ok (.sipush 12928, 3) := db_X1_init_0.2.2.2.1
theorem dX1_init_8 : decode cX1_init 8 = .ok (.newarray .byte, 2) := db_X1_init_0.2.2.2.2.1
theorem dX1_init_10 : decode cX1_init 10 = .ok (.putfield 9, 3) := db_X1_init_0.2.2.2.2.2.1
theorem dX1_init_13 : decode cX1_init 13 = .ok (.aload_n 0, 1) := db_X1_init_0.2.2.2.2.2.2.1
theorem dX1_init_14 : decode cX1_init 14 = .ok (.aload_n 1, 1) := db_X1_init_0.2.2.2.2.2.2.2.1
theorem dX1_init_15 : decode cX1_init 15 = .ok (.putfield 15, 3) := db_X1_init_0.2.2.2.2.2.2.2.2.1
theorem dX1_init_18 : decode cX1_init 18 = .ok (.return_, 1) := db_X1_init_0.2.2.2.2.2.2.2.2.2
theorem db_X1_begin_0 : decode cX1_begin 0 = .ok (.aload_n 0, 1) ∧ decode cX1_begin 1 = .ok (.aload_n 1, 1) ∧ decode cX1_begin 2 = .ok (.putfield 19, 3) ∧ decode cX1_begin 5 = .ok (.aload_n 0, 1) ∧ decode cX1_begin 6 = .ok (.getfield 23, 3) ∧ decode cX1_begin 9 = .ok (.ifCond .eq 11, 3) ∧ decode cX1_begin 12 = .ok (.aload_n 0, 1) ∧ decode cX1_begin 13 = .ok (.getfield 9, 3) ∧ decode cX1_begin 16 = .ok (.iconst 0, 1) ∧ decode cX1_begin 17 = .ok (.invokestatic 27, 3) ∧ decode cX1_begin 20 = .ok (.aload_n 0, 1) ∧ decode cX1_begin 21 = .ok (.iconst 0, 1) ∧ decode cX1_begin 22 = .ok (.iconst 0, 1) ∧ decode cX1_begin 23 = .ok (.invokestatic 33, 3) ∧ decode cX1_begin 26 = .ok (.iconst 0, 1) ∧ decode cX1_begin 27 = .ok (.invokevirtual 37, 3) := by decide +kernel
theorem dX1_begin_0 : decode cX1_begin 0 = .ok (.aload_n 0, 1) := db_X1_begin_0.1
theorem dX1_begin_1 : decode cX1_begin 1 = .ok (.aload_n 1, 1) := db_X1_begin_0.2.1
theorem dX1_begin_2 : decode cX1_begin 2 = .ok (.putfield 19, 3) := db_X1_begin_0.2.2.1
theorem dX1_begin_5 : decode cX1_begin 5 = .ok (.aload_n 0, 1) := db_X1_begin_0.2.2.2.1
theorem dX1_begin_6 : decode cX1_begin 6 = .ok (.getfield 23, 3) := db_X1_begin_0.2.2.2.2.1
theorem dX1_begin_9 : decode cX1_begin 9 = .ok (.ifCond .eq 11, 3) := db_X1_begin_0.2.2.2.2.2.1
theorem dX1_begin_12 : decode cX1_begin 12 = .ok (.aload_n 0, 1) := db_X1_begin_0.2.2.2.2.2.2.1
theorem dX1_begin_13 : decode cX1_begin 13 = .ok (.getfield 9, 3) := db_X1_begin_0.2.2.2.2.2.2.2.1
theorem dX1_begin_16 : decode cX1_begin 16 = .ok (.iconst 0, 1) := db_X1_begin_0.2.2.2.2.2.2.2.2.1
theorem dX1_begin_17 : decode cX1_begin 17 = .ok (.invokestatic 27, 3) := db_X1_begin_0.2.2.2.2.2.2.2.2.2.1
theorem dX1_begin_20 : decode cX1_begin 20 = .ok (.aload_n 0, 1) := db_X1_begin_0.2.2.2.2.2.2.2.2.2.2.1
theorem dX1_begin_21 : decode cX1_begin 21 = .ok (.iconst 0, 1) := db_X1_begin_0.2.2.2.2.2.2.2.2.2.2.2.1
theorem dX1_begin_22 : decode cX1_begin 22 = .ok (.iconst 0, 1) := db_X1_begin_0.2.2.2.2.2.2.2.2.2.2.2.2.1
theorem dX1_begin_23 : decode cX1_begin 23 = .ok (.invokestatic 33, 3) := db_X1_begin_0.2.2.2.2.2.2.2.2.2.2.2.2.2.1
theorem dX1_begin_26 : decode cX1_begin 26 = .ok (.iconst 0, 1) := db_X1_begin_0.2.2.2.2.2.2.2.2.2.2.2.2.2.2.1
theorem dX1_begin_27 : decode cX1_begin 27 = .ok (.invokevirtual 37, 3) := db_X1_begin_0.2.2.2.2.2.2.2.2.2.2.2.2.2.2.2
theorem dX1_begin_30 : decode cX1_begin 30 = .ok (.return_, 1) := by decide +kernel
theorem db_X1_countFrom_0 : decode cX1_countFrom 0 = .ok (.aload_n 0, 1) ∧ decode cX1_countFrom 1 = .ok (.iload_n 1, 1) ∧ decode cX1_countFrom 2 = .ok (.putfield 23, 3) ∧ decode cX1_countFrom 5 = .ok (.aload_n 0, 1) ∧ decode cX1_countFrom 6 = .ok (.iload_n 2, 1) ∧ decode cX1_countFrom 7 = .ok (.bipush 64, 2) ∧ decode cX1_countFrom 9 = .ok (.imul, 1) ∧ decode cX1_countFrom 10 = .ok (.putfield 41, 3) ∧ decode cX1_countFrom 13 = .ok (.aload_n 0, 1) ∧ decode cX1_countFrom 14 = .ok (.iload_n 3, 1) ∧ decode cX1_countFrom 15 = .ok (.putfield 44, 3) ∧ decode cX1_countFrom 18 = .ok (.return_, 1) := by decide +kernel
theorem dX1_countFrom_0 : decode cX1_countFrom 0 = .ok (.aload_n 0, 1) := db_X1_countFrom_0.1
theorem dX1_countFrom_1 : decode cX1_countFrom 1 = .ok (.iload_n 1, 1) := db_X1_countFrom_0.2.1
theorem dX1_countFrom_2 : decode cX1_countFrom 2 = .ok (.putfield 23, 3) := db_X1_countFrom_0.2.2.1
theorem dX1_countFrom_5 : decode cX1_countFrom 5 = .ok (.aload_n 0, 1) := db_X1_countFrom_0.2.2.2.1
theorem dX1_countFrom_6 : decode cX1_countFrom 6 = .ok (.iload_n 2, 1) := db_X1_countFrom_0.2.2.2.2.1
theorem dX1_countFrom_7 : decode cX1_countFrom 7 = .ok (.bipush 64, 2) := db_X1_countFrom_0.2.2.2.2.2.1
theorem dX1_countFrom_9 : decode cX1_countFrom 9 = .ok (.imul, 1) := db_X1_countFrom_0.2.2.2.2.2.2.1
theorem dX1_countFrom_10 : decode cX1_countFrom 10 = .ok (.putfield 41, 3) := db_X1_countFrom_0.2.2.2.2.2.2.2.1
theorem dX1_countFrom_13 : decode cX1_countFrom 13 = .ok (.aload_n 0, 1) := db_X1_countFrom_0.2.2.2.2.2.2.2.2.1
theorem dX1_countFrom_14 : decode cX1_countFrom 14 = .ok (.iload_n 3, 1) := db_X1_countFrom_0.2.2.2.2.2.2.2.2.2.1
theorem dX1_countFrom_15 : decode cX1_countFrom 15 = .ok (.putfield 44, 3) := db_X1_countFrom_0.2.2.2.2.2.2.2.2.2.2.1
theorem dX1_countFrom_18 : decode cX1_countFrom 18 = .ok (.return_, 1) := db_X1_countFrom_0.2.2.2.2.2.2.2.2.2.2.2
theorem db_X1_after_0 : decode cX1_after 0 = .ok (.iload_n 0, 1) ∧ decode cX1_after 1 = .ok (.sipush 250, 3) ∧ decode cX1_after 4 = .ok (.if_icmp .lt 7, 3) ∧ decode cX1_after 11 = .ok (.iload_n 0, 1) ∧ decode cX1_after 12 = .ok (.iconst 1, 1) ∧ decode cX1_after 13 = .ok (.iadd, 1) ∧ decode cX1_after 14 = .ok (.ireturn, 1) := by decide +kernel
theorem dX1_after_0 : decode cX1_after 0 = .ok (.iload_n 0, 1) := db_X1_after_0.1
theorem dX1_after_1 : decode cX1_after 1 = .ok (.sipush 250, 3) := db_X1_after_0.2.1
theorem dX1_after_4 : decode cX1_after 4 = .ok (.if_icmp .lt 7, 3) := db_X1_after_0.2.2.1
theorem dX1_after_11 : decode cX1_after 11 = .ok (.iload_n 0, 1) := db_X1_after_0.2.2.2.1
theorem dX1_after_12 : decode cX1_after 12 = .ok (.iconst 1, 1) := db_X1_after_0.2.2.2.2.1
theorem dX1_after_13 : decode cX1_after 13 = .ok (.iadd, 1) := db_X1_after_0.2.2.2.2.2.1
theorem dX1_after_14 : decode cX1_after 14 = .ok (.ireturn, 1) := db_X1_after_0.2.2.2.2.2.2
theorem db_X1_firstBlockOf_0 : decode cX1_firstBlockOf 0 = .ok (.iconst 2, 1) ∧ decode cX1_firstBlockOf 1 = .ok (.iload_n 0, 1) ∧ decode cX1_firstBlockOf 2 = .ok (.iconst 2, 1) ∧ decode cX1_firstBlockOf 3 = .ok (.irem, 1) ∧ decode cX1_firstBlockOf 4 = .ok (.bipush 100, 2) ∧ decode cX1_firstBlockOf 6 = .ok (.imul, 1) ∧ decode cX1_firstBlockOf 7 = .ok (.iadd, 1) ∧ decode cX1_firstBlockOf 8 = .ok (.ireturn, 1) := by decide +kernel
theorem dX1_firstBlockOf_0 : decode cX1_firstBlockOf 0 = .ok (.iconst 2, 1) := db_X1_firstBlockOf_0.1
theorem dX1_firstBlockOf_1 : decode cX1_firstBlockOf 1 = .ok (.iload_n 0, 1) := db_X1_firstBlockOf_0.2.1
theorem dX1_firstBlockOf_2 : decode cX1_firstBlockOf 2 = .ok (.iconst 2, 1) := db_X1_firstBlockOf_0.2.2.1
theorem dX1_firstBlockOf_3 : decode cX1_firstBlockOf 3 = .ok (.irem, 1) := db_X1_firstBlockOf_0.2.2.2.1
theorem dX1_firstBlockOf_4 : decode cX1_firstBlockOf 4 = .ok (.bipush 100, 2) := db_X1_firstBlockOf_0.2.2.2.2.1
theorem dX1_firstBlockOf_6 : decode cX1_firstBlockOf 6 = .ok (.imul, 1) := db_X1_firstBlockOf_0.2.2.2.2.2.1
theorem dX1_firstBlockOf_7 : decode cX1_firstBlockOf 7 = .ok (.iadd, 1) := db_X1_firstBlockOf_0.2.2.2.2.2.2.1
theorem dX1_firstBlockOf_8 : decode cX1_firstBlockOf 8 = .ok (.ireturn, 1) := db_X1_firstBlockOf_0.2.2.2.2.2.2.2
theorem db_X1_clearImage_0 : decode cX1_clearImage 0 = .ok (.aload_n 0, 1) ∧ decode cX1_clearImage 1 = .ok (.iconst 0, 1) ∧ decode cX1_clearImage 2 = .ok (.putfield 47, 3) ∧ decode cX1_clearImage 5 = .ok (.return_, 1) := by decide +kernel
theorem dX1_clearImage_0 : decode cX1_clearImage 0 = .ok (.aload_n 0, 1) := db_X1_clearImage_0.1
theorem dX1_clearImage_1 : decode cX1_clearImage 1 = .ok (.iconst 0, 1) := db_X1_clearImage_0.2.1
theorem dX1_clearImage_2 : decode cX1_clearImage 2 = .ok (.putfield 47, 3) := db_X1_clearImage_0.2.2.1
theorem dX1_clearImage_5 : decode cX1_clearImage 5 = .ok (.return_, 1) := db_X1_clearImage_0.2.2.2
theorem db_X1_open_0 : decode cX1_open 0 = .ok (.aload_n 0, 1) ∧ decode cX1_open 1 = .ok (.aload_n 0, 1) ∧ decode cX1_open 2 = .ok (.getfield 47, 3) ∧ decode cX1_open 5 = .ok (.putfield 50, 3) ∧ decode cX1_open 8 = .ok (.aload_n 0, 1) ∧ decode cX1_open 9 = .ok (.getfield 47, 3) ∧ decode cX1_open 12 = .ok (.iconst 1, 1) ∧ decode cX1_open 13 = .ok (.iadd, 1) ∧ decode cX1_open 14 = .ok (.sipush 6400, 3) ∧ decode cX1_open 17 = .ok (.if_icmp .ge 27, 3) ∧ decode cX1_open 20 = .ok (.aload_n 0, 1) ∧ decode cX1_open 21 = .ok (.getfield 15, 3) ∧ decode cX1_open 24 = .ok (.getfield 53, 3) ∧ decode cX1_open 27 = .ok (.aload_n 0, 1) ∧ decode cX1_open 28 = .ok (.getfield 47, 3) ∧ decode cX1_open 31 = .ok (.iload_n 1, 1) := by decide +kernel
theorem dX1_open_0 : decode cX1_open 0 = .ok (.aload_n 0, 1) := db_X1_open_0.1
theorem dX1_open_1 : decode cX1_open 1 = .ok (.aload_n 0, 1) := db_X1_open_0.2.1
theorem dX1_open_2 : decode cX1_open 2 = .ok (.getfield 47, 3) := db_X1_open_0.2.2.1
theorem dX1_open_5 : decode cX1_open 5 = .ok (.putfield 50, 3) := db_X1_open_0.2.2.2.1
theorem dX1_open_8 : decode cX1_open 8 = .ok (.aload_n 0, 1) := db_X1_open_0.2.2.2.2.1
theorem dX1_open_9 : decode cX1_open 9 = .ok (.getfield 47, 3) := db_X1_open_0.2.2.2.2.2.1
theorem dX1_open_12 : decode cX1_open 12 = .ok (.iconst 1, 1) := db_X1_open_0.2.2.2.2.2.2.1
theorem dX1_open_13 : decode cX1_open 13 = .ok (.iadd, 1) := db_X1_open_0.2.2.2.2.2.2.2.1
theorem dX1_open_14 : decode cX1_open 14 = .ok (.sipush 6400, 3) := db_X1_open_0.2.2.2.2.2.2.2.2.1
theorem dX1_open_17 : decode cX1_open 17 = .ok (.if_icmp .ge 27, 3) := db_X1_open_0.2.2.2.2.2.2.2.2.2.1
theorem dX1_open_20 : decode cX1_open 20 = .ok (.aload_n 0, 1) := db_X1_open_0.2.2.2.2.2.2.2.2.2.2.1
theorem dX1_open_21 : decode cX1_open 21 = .ok (.getfield 15, 3) := db_X1_open_0.2.2.2.2.2.2.2.2.2.2.2.1
theorem dX1_open_24 : decode cX1_open 24 = .ok (.getfield 53, 3) := db_X1_open_0.2.2.2.2.2.2.2.2.2.2.2.2.1
theorem dX1_open_27 : decode cX1_open 27 = .ok (.aload_n 0, 1) := db_X1_open_0.2.2.2.2.2.2.2.2.2.2.2.2.2.1
theorem dX1_open_28 : decode cX1_open 28 = .ok (.getfield 47, 3) := db_X1_open_0.2.2.2.2.2.2.2.2.2.2.2.2.2.2.1
theorem dX1_open_31 : decode cX1_open 31 = .ok (.iload_n 1, 1) := db_X1_open_0.2.2.2.2.2.2.2.2.2.2.2.2.2.2.2
theorem db_X1_open_32 : decode cX1_open 32 = .ok (.i2b, 1) ∧ decode cX1_open 33 = .ok (.bastore, 1) ∧ decode cX1_open 34 = .ok (.aload_n 0, 1) ∧ decode cX1_open 35 = .ok (.dup, 1) ∧ decode cX1_open 36 = .ok (.getfield 47, 3) ∧ decode cX1_open 39 = .ok (.iconst 2, 1) ∧ decode cX1_open 40 = .ok (.iadd, 1) ∧ decode cX1_open 41 = .ok (.putfield 47, 3) ∧ decode cX1_open 44 = .ok (.return_, 1) := by decide +kernel
theorem dX1_open_32 : decode cX1_open 32 = .ok (.i2b, 1) := db_X1_open_32.1
theorem dX1_open_33 : decode cX1_open 33 = .ok (.bastore, 1) := db_X1_open_32.2.1
theorem dX1_open_34 : decode cX1_open 34 = .ok (.aload_n 0, 1) := db_X1_open_32.2.2.1
theorem dX1_open_35 : decode cX1_open 35 = .ok (.dup, 1) := db_X1_open_32.2.2.2.1
theorem dX1_open_36 : decode cX1_open 36 = .ok (.getfield 47, 3) := db_X1_open_32.2.2.2.2.1
theorem dX1_open_39 : decode cX1_open 39 = .ok (.iconst 2, 1) := db_X1_open_32.2.2.2.2.2.1
theorem dX1_open_40 : decode cX1_open 40 = .ok (.iadd, 1) := db_X1_open_32.2.2.2.2.2.2.1
theorem dX1_open_41 : decode cX1_open 41 = .ok (.putfield 47, 3) := db_X1_open_32.2.2.2.2.2.2.2.1
theorem dX1_open_44 : decode cX1_open 44 = .ok (.return_, 1) := db_X1_open_32.2.2.2.2.2.2.2.2
theorem db_X1_addOne_0 : decode cX1_addOne 0 = .ok (.aload_n 0, 1) ∧ decode cX1_addOne 1 = .ok (.getfield 47, 3) ∧ decode cX1_addOne 4 = .ok (.sipush 6400, 3) ∧ decode cX1_addOne 7 = .ok (.if_icmp .ge 27, 3) ∧ decode cX1_addOne 10 = .ok (.aload_n 0, 1) ∧ decode cX1_addOne 11 = .ok (.getfield 15, 3) ∧ decode cX1_addOne 14 = .ok (.getfield 53, 3) ∧ decode cX1_addOne 17 = .ok (.aload_n 0, 1) ∧ decode cX1_addOne 18 = .ok (.getfield 47, 3) ∧ decode cX1_addOne 21 = .ok (.iload_n 1, 1) ∧ decode cX1_addOne 22 = .ok (.i2b, 1) ∧ decode cX1_addOne 23 = .ok (.bastore, 1) ∧ decode cX1_addOne 24 = .ok (.aload_n 0, 1) ∧ decode cX1_addOne 25 = .ok (.dup, 1) ∧ decode cX1_addOne 26 = .ok (.getfield 47, 3) ∧ decode cX1_addOne 29 = .ok (.iconst 1, 1) := by decide +kernel
theorem dX1_addOne_0 : decode cX1_addOne 0 = .ok (.aload_n 0, 1) := db_X1_addOne_0.1
theorem dX1_addOne_1 : decode cX1_addOne 1 = .ok (.getfield 47, 3) := db_X1_addOne_0.2.1
theorem dX1_addOne_4 : decode cX1_addOne 4 = .ok (.sipush 6400, 3) := db_X1_addOne_0.2.2.1
theorem dX1_addOne_7 : decode cX1_addOne 7 = .ok (.if_icmp .ge 27, 3) := db_X1_addOne_0.2.2.2.1
theorem dX1_addOne_10 : decode cX1_addOne 10 = .ok (.aload_n 0, 1) := db_X1_addOne_0.2.2.2.2.1
theorem dX1_addOne_11 : decode cX1_addOne 11 = .ok (.getfield 15, 3) := db_X1_addOne_0.2.2.2.2.2.1
theorem dX1_addOne_14 : decode cX1_addOne 14 = .ok (.getfield 53, 3) := db_X1_addOne_0.2.2.2.2.2.2.1
theorem dX1_addOne_17 : decode cX1_addOne 17 = .ok (.aload_n 0, 1) := db_X1_addOne_0.2.2.2.2.2.2.2.1
theorem dX1_addOne_18 : decode cX1_addOne 18 = .ok (.getfield 47, 3) := db_X1_addOne_0.2.2.2.2.2.2.2.2.1
theorem dX1_addOne_21 : decode cX1_addOne 21 = .ok (.iload_n 1, 1) := db_X1_addOne_0.2.2.2.2.2.2.2.2.2.1
theorem dX1_addOne_22 : decode cX1_addOne 22 = .ok (.i2b, 1) := db_X1_addOne_0.2.2.2.2.2.2.2.2.2.2.1
theorem dX1_addOne_23 : decode cX1_addOne 23 = .ok (.bastore, 1) := db_X1_addOne_0.2.2.2.2.2.2.2.2.2.2.2.1
theorem dX1_addOne_24 : decode cX1_addOne 24 = .ok (.aload_n 0, 1) := db_X1_addOne_0.2.2.2.2.2.2.2.2.2.2.2.2.1
theorem dX1_addOne_25 : decode cX1_addOne 25 = .ok (.dup, 1) := db_X1_addOne_0.2.2.2.2.2.2.2.2.2.2.2.2.2.1
theorem dX1_addOne_26 : decode cX1_addOne 26 = .ok (.getfield 47, 3) := db_X1_addOne_0.2.2.2.2.2.2.2.2.2.2.2.2.2.2.1
theorem dX1_addOne_29 : decode cX1_addOne 29 = .ok (.iconst 1, 1) := db_X1_addOne_0.2.2.2.2.2.2.2.2.2.2.2.2.2.2.2
theorem db_X1_addOne_30 : decode cX1_addOne 30 = .ok (.iadd, 1) ∧ decode cX1_addOne 31 = .ok (.putfield 47, 3) ∧ decode cX1_addOne 34 = .ok (.return_, 1) := by decide +kernel
theorem dX1_addOne_30 : decode cX1_addOne 30 = .ok (.iadd, 1) := db_X1_addOne_30.1
theorem dX1_addOne_31 : decode cX1_addOne 31 = .ok (.putfield 47, 3) := db_X1_addOne_30.2.1
theorem dX1_addOne_34 : decode cX1_addOne 34 = .ok (.return_, 1) := db_X1_addOne_30.2.2
theorem db_X1_addTwo_0 : decode cX1_addTwo 0 = .ok (.aload_n 0, 1) ∧ decode cX1_addTwo 1 = .ok (.getfield 47, 3) ∧ decode cX1_addTwo 4 = .ok (.iconst 1, 1) ∧ decode cX1_addTwo 5 = .ok (.iadd, 1) ∧ decode cX1_addTwo 6 = .ok (.sipush 6400, 3) ∧ decode cX1_addTwo 9 = .ok (.if_icmp .ge 46, 3) ∧ decode cX1_addTwo 12 = .ok (.aload_n 0, 1) ∧ decode cX1_addTwo 13 = .ok (.getfield 15, 3) ∧ decode cX1_addTwo 16 = .ok (.getfield 53, 3) ∧ decode cX1_addTwo 19 = .ok (.aload_n 0, 1) ∧ decode cX1_addTwo 20 = .ok (.getfield 47, 3) ∧ decode cX1_addTwo 23 = .ok (.iload_n 1, 1) ∧ decode cX1_addTwo 24 = .ok (.bipush 8, 2) ∧ decode cX1_addTwo 26 = .ok (.ishr, 1) ∧ decode cX1_addTwo 27 = .ok (.i2b, 1) ∧ decode cX1_addTwo 28 = .ok (.bastore, 1) := by decide +kernel
theorem dX1_addTwo_0 : decode cX1_addTwo 0 = .ok (.aload_n 0, 1) := db_X1_addTwo_0.1
theorem dX1_addTwo_1 : decode cX1_addTwo 1 = .ok (.getfield 47, 3) := db_X1_addTwo_0.2.1
theorem dX1_addTwo_4 : decode cX1_addTwo 4 = .ok (.iconst 1, 1) := db_X1_addTwo_0.2.2.1
theorem dX1_addTwo_5 : decode cX1_addTwo 5 = .ok (.iadd, 1) := db_X1_addTwo_0.2.2.2.1
theorem dX1_addTwo_6 : decode cX1_addTwo 6 = .ok (.sipush 6400, 3) := db_X1_addTwo_0.2.2.2.2.1
theorem dX1_addTwo_9 : decode cX1_addTwo 9 = .ok (.if_icmp .ge 46, 3) := db_X1_addTwo_0.2.2.2.2.2.1
theorem dX1_addTwo_12 : decode cX1_addTwo 12 = .ok (.aload_n 0, 1) := db_X1_addTwo_0.2.2.2.2.2.2.1
theorem dX1_addTwo_13 : decode cX1_addTwo 13 = .ok (.getfield 15, 3) := db_X1_addTwo_0.2.2.2.2.2.2.2.1
theorem dX1_addTwo_16 : decode cX1_addTwo 16 = .ok (.getfield 53, 3) := db_X1_addTwo_0.2.2.2.2.2.2.2.2.1
theorem dX1_addTwo_19 : decode cX1_addTwo 19 = .ok (.aload_n 0, 1) := db_X1_addTwo_0.2.2.2.2.2.2.2.2.2.1
theorem dX1_addTwo_20 : decode cX1_addTwo 20 = .ok (.getfield 47, 3) := db_X1_addTwo_0.2.2.2.2.2.2.2.2.2.2.1
theorem dX1_addTwo_23 : decode cX1_addTwo 23 = .ok (.iload_n 1, 1) := db_X1_addTwo_0.2.2.2.2.2.2.2.2.2.2.2.1
theorem dX1_addTwo_24 : decode cX1_addTwo 24 = .ok (.bipush 8, 2) := db_X1_addTwo_0.2.2.2.2.2.2.2.2.2.2.2.2.1
theorem dX1_addTwo_26 : decode cX1_addTwo 26 = .ok (.ishr, 1) := db_X1_addTwo_0.2.2.2.2.2.2.2.2.2.2.2.2.2.1
theorem dX1_addTwo_27 : decode cX1_addTwo 27 = .ok (.i2b, 1) := db_X1_addTwo_0.2.2.2.2.2.2.2.2.2.2.2.2.2.2.1
theorem dX1_addTwo_28 : decode cX1_addTwo 28 = .ok (.bastore, 1) := db_X1_addTwo_0.2.2.2.2.2.2.2.2.2.2.2.2.2.2.2
theorem db_X1_addTwo_29 : decode cX1_addTwo 29 = .ok (.aload_n 0, 1) ∧ decode cX1_addTwo 30 = .ok (.getfield 15, 3) ∧ decode cX1_addTwo 33 = .ok (.getfield 53, 3) ∧ decode cX1_addTwo 36 = .ok (.aload_n 0, 1) ∧ decode cX1_addTwo 37 = .ok (.getfield 47, 3) ∧ decode cX1_addTwo 40 = .ok (.iconst 1, 1) ∧ decode cX1_addTwo 41 = .ok (.iadd, 1) ∧ decode cX1_addTwo 42 = .ok (.iload_n 1, 1) ∧ decode cX1_addTwo 43 = .ok (.i2b, 1) ∧ decode cX1_addTwo 44 = .ok (.bastore, 1) ∧ decode cX1_addTwo 45 = .ok (.aload_n 0, 1) ∧ decode cX1_addTwo 46 = .ok (.dup, 1) ∧ decode cX1_addTwo 47 = .ok (.getfield 47, 3) ∧ decode cX1_addTwo 50 = .ok (.iconst 2, 1) ∧ decode cX1_addTwo 51 = .ok (.iadd, 1) ∧ decode cX1_addTwo 52 = .ok (.putfield 47, 3) := by decide +kernel
theorem dX1_addTwo_29 : decode cX1_addTwo 29 = .ok (.aload_n 0, 1) := db_X1_addTwo_29.1
theorem dX1_addTwo_30 : decode cX1_addTwo 30 = .ok (.getfield 15, 3) := db_X1_addTwo_29.2.1
theorem dX1_addTwo_33 : decode cX1_addTwo 33 = .ok (.getfield 53, 3) := db_X1_addTwo_29.2.2.1
theorem dX1_addTwo_36 : decode cX1_addTwo 36 = .ok (.aload_n 0, 1) := db_X1_addTwo_29.2.2.2.1
theorem dX1_addTwo_37 : decode cX1_addTwo 37 = .ok (.getfield 47, 3) := db_X1_addTwo_29.2.2.2.2.1
theorem dX1_addTwo_40 : decode cX1_addTwo 40 = .ok (.iconst 1, 1) := db_X1_addTwo_29.2.2.2.2.2.1
theorem dX1_addTwo_41 : decode cX1_addTwo 41 = .ok (.iadd, 1) := db_X1_addTwo_29.2.2.2.2.2.2.1
theorem dX1_addTwo_42 : decode cX1_addTwo 42 = .ok (.iload_n 1, 1) := db_X1_addTwo_29.2.2.2.2.2.2.2.1
theorem dX1_addTwo_43 : decode cX1_addTwo 43 = .ok (.i2b, 1) := db_X1_addTwo_29.2.2.2.2.2.2.2.2.1
theorem dX1_addTwo_44 : decode cX1_addTwo 44 = .ok (.bastore, 1) := db_X1_addTwo_29.2.2.2.2.2.2.2.2.2.1
theorem dX1_addTwo_45 : decode cX1_addTwo 45 = .ok (.aload_n 0, 1) := db_X1_addTwo_29.2.2.2.2.2.2.2.2.2.2.1
theorem dX1_addTwo_46 : decode cX1_addTwo 46 = .ok (.dup, 1) := db_X1_addTwo_29.2.2.2.2.2.2.2.2.2.2.2.1
theorem dX1_addTwo_47 : decode cX1_addTwo 47 = .ok (.getfield 47, 3) := db_X1_addTwo_29.2.2.2.2.2.2.2.2.2.2.2.2.1
theorem dX1_addTwo_50 : decode cX1_addTwo 50 = .ok (.iconst 2, 1) := db_X1_addTwo_29.2.2.2.2.2.2.2.2.2.2.2.2.2.1
theorem dX1_addTwo_51 : decode cX1_addTwo 51 = .ok (.iadd, 1) := db_X1_addTwo_29.2.2.2.2.2.2.2.2.2.2.2.2.2.2.1
theorem dX1_addTwo_52 : decode cX1_addTwo 52 = .ok (.putfield 47, 3) := db_X1_addTwo_29.2.2.2.2.2.2.2.2.2.2.2.2.2.2.2
theorem dX1_addTwo_55 : decode cX1_addTwo 55 = .ok (.return_, 1) := by decide +kernel
theorem db_X1_close_0 : decode cX1_close 0 = .ok (.aload_n 0, 1) ∧ decode cX1_close 1 = .ok (.getfield 50, 3) ∧ decode cX1_close 4 = .ok (.iconst 1, 1) ∧ decode cX1_close 5 = .ok (.iadd, 1) ∧ decode cX1_close 6 = .ok (.aload_n 0, 1) ∧ decode cX1_close 7 = .ok (.getfield 47, 3) ∧ decode cX1_close 10 = .ok (.if_icmp .ge 62, 3) ∧ decode cX1_close 13 = .ok (.aload_n 0, 1) ∧ decode cX1_close 14 = .ok (.getfield 47, 3) ∧ decode cX1_close 17 = .ok (.sipush 6400, 3) ∧ decode cX1_close 20 = .ok (.if_icmp .ge 52, 3) ∧ decode cX1_close 23 = .ok (.aload_n 0, 1) ∧ decode cX1_close 24 = .ok (.getfield 15, 3) ∧ decode cX1_close 27 = .ok (.getfield 53, 3) ∧ decode cX1_close 30 = .ok (.aload_n 0, 1) ∧ decode cX1_close 31 = .ok (.getfield 50, 3) := by decide +kernel
theorem dX1_close_0 : decode cX1_close 0 = .ok (.aload_n 0, 1) := db_X1_close_0.1
theorem dX1_close_1 : decode cX1_close 1 = .ok (.getfield 50, 3) := db_X1_close_0.2.1
theorem dX1_close_4 : decode cX1_close 4 = .ok (.iconst 1, 1) := db_X1_close_0.2.2.1
theorem dX1_close_5 : decode cX1_close 5 = .ok (.iadd, 1) := db_X1_close_0.2.2.2.1
theorem dX1_close_6 : decode cX1_close 6 = .ok (.aload_n 0, 1) := db_X1_close_0.2.2.2.2.1
theorem dX1_close_7 : decode cX1_close 7 = .ok (.getfield 47, 3) := db_X1_close_0.2.2.2.2.2.1
theorem dX1_close_10 : decode cX1_close 10 = .ok (.if_icmp .ge 62, 3) := db_X1_close_0.2.2.2.2.2.2.1
theorem dX1_close_13 : decode cX1_close 13 = .ok (.aload_n 0, 1) := db_X1_close_0.2.2.2.2.2.2.2.1
theorem dX1_close_14 : decode cX1_close 14 = .ok (.getfield 47, 3) := db_X1_close_0.2.2.2.2.2.2.2.2.1
theorem dX1_close_17 : decode cX1_close 17 = .ok (.sipush 6400, 3) := db_X1_close_0.2.2.2.2.2.2.2.2.2.1
theorem dX1_close_20 : decode cX1_close 20 = .ok (.if_icmp .ge 52, 3) := db_X1_close_0.2.2.2.2.2.2.2.2.2.2.1
theorem dX1_close_23 : decode cX1_close 23 = .ok (.aload_n 0, 1) := db_X1_close_0.2.2.2.2.2.2.2.2.2.2.2.1
theorem dX1_close_24 : decode cX1_close 24 = .ok (.getfield 15, 3) := db_X1_close_0.2.2.2.2.2.2.2.2.2.2.2.2.1
theorem dX1_close_27 : decode cX1_close 27 = .ok (.getfield 53, 3) := db_X1_close_0.2.2.2.2.2.2.2.2.2.2.2.2.2.1
theorem dX1_close_30 : decode cX1_close 30 = .ok (.aload_n 0, 1) := db_X1_close_0.2.2.2.2.2.2.2.2.2.2.2.2.2.2.1
theorem dX1_close_31 : decode cX1_close 31 = .ok (.getfield 50, 3) := db_X1_close_0.2.2.2.2.2.2.2.2.2.2.2.2.2.2.2
theorem db_X1_close_34 : decode cX1_close 34 = .ok (.iconst 1, 1) ∧ decode cX1_close 35 = .ok (.iadd, 1) ∧ decode cX1_close 36 = .ok (.aload_n 0, 1) ∧ decode cX1_close 37 = .ok (.getfield 47, 3) ∧ decode cX1_close 40 = .ok (.aload_n 0, 1) ∧ decode cX1_close 41 = .ok (.getfield 50, 3) ∧ decode cX1_close 44 = .ok (.isub, 1) ∧ decode cX1_close 45 = .ok (.iconst 2, 1) ∧ decode cX1_close 46 = .ok (.isub, 1) ∧ decode cX1_close 47 = .ok (.i2b, 1) ∧ decode cX1_close 48 = .ok (.bastore, 1) ∧ decode cX1_close 49 = .ok (.aload_n 0, 1) ∧ decode cX1_close 50 = .ok (.getfield 15, 3) ∧ decode cX1_close 53 = .ok (.getfield 53, 3) ∧ decode cX1_close 56 = .ok (.aload_n 0, 1) ∧ decode cX1_close 57 = .ok (.getfield 47, 3) := by decide +kernel
theorem dX1_close_34 : decode cX1_close 34 = .ok (.iconst 1, 1) := db_X1_close_34.1
theorem dX1_close_35 : decode cX1_close 35 = .ok (.iadd, 1) := db_X1_close_34.2.1
theorem dX1_close_36 : decode cX1_close 36 = .ok (.aload_n 0, 1) := db_X1_close_34.2.2.1
theorem dX1_close_37 : decode cX1_close 37 = .ok (.getfield 47, 3) := db_X1_close_34.2.2.2.1
theorem dX1_close_40 : decode cX1_close 40 = .ok (.aload_n 0, 1) := db_X1_close_34.2.2.2.2.1
theorem dX1_close_41 : decode cX1_close 41 = .ok (.getfield 50, 3) := db_X1_close_34.2.2.2.2.2.1
theorem dX1_close_44 : decode cX1_close 44 = .ok (.isub, 1) := db_X1_close_34.2.2.2.2.2.2.1
theorem dX1_close_45 : decode cX1_close 45 = .ok (.iconst 2, 1) := db_X1_close_34.2.2.2.2.2.2.2.1
theorem dX1_close_46 : decode cX1_close 46 = .ok (.isub, 1) := db_X1_close_34.2.2.2.2.2.2.2.2.1
theorem dX1_close_47 : decode cX1_close 47 = .ok (.i2b, 1) := db_X1_close_34.2.2.2.2.2.2.2.2.2.1
theorem dX1_close_48 : decode cX1_close 48 = .ok (.bastore, 1) := db_X1_close_34.2.2.2.2.2.2.2.2.2.2.1
theorem dX1_close_49 : decode cX1_close 49 = .ok (.aload_n 0, 1) := db_X1_close_34.2.2.2.2.2.2.2.2.2.2.2.1
theorem dX1_close_50 : decode cX1_close 50 = .ok (.getfield 15, 3) := db_X1_close_34.2.2.2.2.2.2.2.2.2.2.2.2.1
theorem dX1_close_53 : decode cX1_close 53 = .ok (.getfield 53, 3) := db_X1_close_34.2.2.2.2.2.2.2.2.2.2.2.2.2.1
theorem dX1_close_56 : decode cX1_close 56 = .ok (.aload_n 0, 1) := db_X1_close_34.2.2.2.2.2.2.2.2.2.2.2.2.2.2.1
theorem dX1_close_57 : decode cX1_close 57 = .ok (.getfield 47, 3) := db_X1_close_34.2.2.2.2.2.2.2.2.2.2.2.2.2.2.2
theorem db_X1_close_60 : decode cX1_close 60 = .ok (.iconst (-1), 1) ∧ decode cX1_close 61 = .ok (.bastore, 1) ∧ decode cX1_close 62 = .ok (.aload_n 0, 1) ∧ decode cX1_close 63 = .ok (.dup, 1) ∧ decode cX1_close 64 = .ok (.getfield 47, 3) ∧ decode cX1_close 67 = .ok (.iconst 1, 1) ∧ decode cX1_close 68 = .ok (.iadd, 1) ∧ decode cX1_close 69 = .ok (.putfield 47, 3) ∧ decode cX1_close 72 = .ok (.return_, 1) := by decide +kernel
theorem dX1_close_60 : decode cX1_close 60 = .ok (.iconst (-1), 1) := db_X1_close_60.1
theorem dX1_close_61 : decode cX1_close 61 = .ok (.bastore, 1) := db_X1_close_60.2.1
theorem dX1_close_62 : decode cX1_close 62 = .ok (.aload_n 0, 1) := db_X1_close_60.2.2.1
theorem dX1_close_63 : decode cX1_close 63 = .ok (.dup, 1) := db_X1_close_60.2.2.2.1
theorem dX1_close_64 : decode cX1_close 64 = .ok (.getfield 47, 3) := db_X1_close_60.2.2.2.2.1
theorem dX1_close_67 : decode cX1_close 67 = .ok (.iconst 1, 1) := db_X1_close_60.2.2.2.2.2.1
theorem dX1_close_68 : decode cX1_close 68 = .ok (.iadd, 1) := db_X1_close_60.2.2.2.2.2.2.1
theorem dX1_close_69 : decode cX1_close 69 = .ok (.putfield 47, 3) := db_X1_close_60.2.2.2.2.2.2.2.1
theorem dX1_close_72 : decode cX1_close 72 = .ok (.return_, 1) := db_X1_close_60.2.2.2.2.2.2.2.2
theorem db_X1_swap_0 : decode cX1_swap 0 = .ok (.aload_n 0, 1) ∧ decode cX1_swap 1 = .ok (.getfield 23, 3) ∧ decode cX1_swap 4 = .ok (.invokestatic 84, 3) ∧ decode cX1_swap 7 = .ok (.istore_n 1, 1) ∧ decode cX1_swap 8 = .ok (.iload_n 1, 1) ∧ decode cX1_swap 9 = .ok (.invokestatic 33, 3) ∧ decode cX1_swap 12 = .ok (.istore_n 2, 1) ∧ decode cX1_swap 13 = .ok (.aload_n 0, 1) ∧ decode cX1_swap 14 = .ok (.getfield 15, 3) ∧ decode cX1_swap 17 = .ok (.getfield 53, 3) ∧ decode cX1_swap 20 = .ok (.aload_n 0, 1) ∧ decode cX1_swap 21 = .ok (.getfield 47, 3) ∧ decode cX1_swap 24 = .ok (.sipush 6400, 3) ∧ decode cX1_swap 27 = .ok (.iconst 0, 1) ∧ decode cX1_swap 28 = .ok (.invokestatic 87, 3) ∧ decode cX1_swap 31 = .ok (.iconst 0, 1) := by decide +kernel
theorem dX1_swap_0 : decode cX1_swap 0 = .ok (.aload_n 0, 1) := db_X1_swap_0.1
theorem dX1_swap_1 : decode cX1_swap 1 = .ok (.getfield 23, 3) := db_X1_swap_0.2.1
theorem dX1_swap_4 : decode cX1_swap 4 = .ok (.invokestatic 84, 3) := db_X1_swap_0.2.2.1
theorem dX1_swap_7 : decode cX1_swap 7 = .ok (.istore_n 1, 1) := db_X1_swap_0.2.2.2.1
theorem dX1_swap_8 : decode cX1_swap 8 = .ok (.iload_n 1, 1) := db_X1_swap_0.2.2.2.2.1
theorem dX1_swap_9 : decode cX1_swap 9 = .ok (.invokestatic 33, 3) := db_X1_swap_0.2.2.2.2.2.1
theorem dX1_swap_12 : decode cX1_swap 12 = .ok (.istore_n 2, 1) := db_X1_swap_0.2.2.2.2.2.2.1
theorem dX1_swap_13 : decode cX1_swap 13 = .ok (.aload_n 0, 1) := db_X1_swap_0.2.2.2.2.2.2.2.1
theorem dX1_swap_14 : decode cX1_swap 14 = .ok (.getfield 15, 3) := db_X1_swap_0.2.2.2.2.2.2.2.2.1
theorem dX1_swap_17 : decode cX1_swap 17 = .ok (.getfield 53, 3) := db_X1_swap_0.2.2.2.2.2.2.2.2.2.1
theorem dX1_swap_20 : decode cX1_swap 20 = .ok (.aload_n 0, 1) := db_X1_swap_0.2.2.2.2.2.2.2.2.2.2.1
theorem dX1_swap_21 : decode cX1_swap 21 = .ok (.getfield 47, 3) := db_X1_swap_0.2.2.2.2.2.2.2.2.2.2.2.1
theorem dX1_swap_24 : decode cX1_swap 24 = .ok (.sipush 6400, 3) := db_X1_swap_0.2.2.2.2.2.2.2.2.2.2.2.2.1
theorem dX1_swap_27 : decode cX1_swap 27 = .ok (.iconst 0, 1) := db_X1_swap_0.2.2.2.2.2.2.2.2.2.2.2.2.2.1
theorem dX1_swap_28 : decode cX1_swap 28 = .ok (.invokestatic 87, 3) := db_X1_swap_0.2.2.2.2.2.2.2.2.2.2.2.2.2.2.1
theorem dX1_swap_31 : decode cX1_swap 31 = .ok (.iconst 0, 1) := db_X1_swap_0.2.2.2.2.2.2.2.2.2.2.2.2.2.2.2
theorem db_X1_swap_32 : decode cX1_swap 32 = .ok (.istore_n 3, 1) ∧ decode cX1_swap 33 = .ok (.iload_n 3, 1) ∧ decode cX1_swap 34 = .ok (.bipush 100, 2) ∧ decode cX1_swap 36 = .ok (.if_icmp .ge 41, 3) ∧ decode cX1_swap 39 = .ok (.aload_n 0, 1) ∧ decode cX1_swap 40 = .ok (.iload_n 2, 1) ∧ decode cX1_swap 41 = .ok (.iload_n 3, 1) ∧ decode cX1_swap 42 = .ok (.iadd, 1) ∧ decode cX1_swap 43 = .ok (.iload_n 3, 1) ∧ decode cX1_swap 44 = .ok (.bipush 64, 2) ∧ decode cX1_swap 46 = .ok (.imul, 1) ∧ decode cX1_swap 47 = .ok (.invokevirtual 90, 3) ∧ decode cX1_swap 50 = .ok (.ifCond .ne 21, 3) ∧ decode cX1_swap 53 = .ok (.aload_n 0, 1) ∧ decode cX1_swap 54 = .ok (.iload_n 2, 1) ∧ decode cX1_swap 55 = .ok (.iload_n 3, 1) := by decide +kernel
theorem dX1_swap_32 : decode cX1_swap 32 = .ok (.istore_n 3, 1) := db_X1_swap_32.1
theorem dX1_swap_33 : decode cX1_swap 33 = .ok (.iload_n 3, 1) := db_X1_swap_32.2.1
theorem dX1_swap_34 : decode cX1_swap 34 = .ok (.bipush 100, 2) := db_X1_swap_32.2.2.1
theorem dX1_swap_36 : decode cX1_swap 36 = .ok (.if_icmp .ge 41, 3) := db_X1_swap_32.2.2.2.1
theorem dX1_swap_39 : decode cX1_swap 39 = .ok (.aload_n 0, 1) := db_X1_swap_32.2.2.2.2.1
theorem dX1_swap_40 : decode cX1_swap 40 = .ok (.iload_n 2, 1) := db_X1_swap_32.2.2.2.2.2.1
theorem dX1_swap_41 : decode cX1_swap 41 = .ok (.iload_n 3, 1) := db_X1_swap_32.2.2.2.2.2.2.1
theorem dX1_swap_42 : decode cX1_swap 42 = .ok (.iadd, 1) := db_X1_swap_32.2.2.2.2.2.2.2.1
theorem dX1_swap_43 : decode cX1_swap 43 = .ok (.iload_n 3, 1) := db_X1_swap_32.2.2.2.2.2.2.2.2.1
theorem dX1_swap_44 : decode cX1_swap 44 = .ok (.bipush 64, 2) := db_X1_swap_32.2.2.2.2.2.2.2.2.2.1
theorem dX1_swap_46 : decode cX1_swap 46 = .ok (.imul, 1) := db_X1_swap_32.2.2.2.2.2.2.2.2.2.2.1
theorem dX1_swap_47 : decode cX1_swap 47 = .ok (.invokevirtual 90, 3) := db_X1_swap_32.2.2.2.2.2.2.2.2.2.2.2.1
theorem dX1_swap_50 : decode cX1_swap 50 = .ok (.ifCond .ne 21, 3) := db_X1_swap_32.2.2.2.2.2.2.2.2.2.2.2.2.1
theorem dX1_swap_53 : decode cX1_swap 53 = .ok (.aload_n 0, 1) := db_X1_swap_32.2.2.2.2.2.2.2.2.2.2.2.2.2.1
theorem dX1_swap_54 : decode cX1_swap 54 = .ok (.iload_n 2, 1) := db_X1_swap_32.2.2.2.2.2.2.2.2.2.2.2.2.2.2.1
theorem dX1_swap_55 : decode cX1_swap 55 = .ok (.iload_n 3, 1) := db_X1_swap_32.2.2.2.2.2.2.2.2.2.2.2.2.2.2.2
theorem db_X1_swap_56 : decode cX1_swap 56 = .ok (.iadd, 1) ∧ decode cX1_swap 57 = .ok (.aload_n 0, 1) ∧ decode cX1_swap 58 = .ok (.getfield 15, 3) ∧ decode cX1_swap 61 = .ok (.getfield 53, 3) ∧ decode cX1_swap 64 = .ok (.iload_n 3, 1) ∧ decode cX1_swap 65 = .ok (.bipush 64, 2) ∧ decode cX1_swap 67 = .ok (.imul, 1) ∧ decode cX1_swap 68 = .ok (.invokevirtual 80, 3) ∧ decode cX1_swap 71 = .ok (.iinc 3 1, 3) ∧ decode cX1_swap 74 = .ok (.goto (-41), 3) ∧ decode cX1_swap 77 = .ok (.aload_n 0, 1) ∧ decode cX1_swap 78 = .ok (.getfield 15, 3) ∧ decode cX1_swap 81 = .ok (.getfield 71, 3) ∧ decode cX1_swap 84 = .ok (.iconst 0, 1) ∧ decode cX1_swap 85 = .ok (.invokestatic 27, 3) ∧ decode cX1_swap 88 = .ok (.aload_n 0, 1) := by decide +kernel
theorem dX1_swap_56 : decode cX1_swap 56 = .ok (.iadd, 1) := db_X1_swap_56.1
theorem dX1_swap_57 : decode cX1_swap 57 = .ok (.aload_n 0, 1) := db_X1_swap_56.2.1
theorem dX1_swap_58 : decode cX1_swap 58 = .ok (.getfield 15, 3) := db_X1_swap_56.2.2.1
theorem dX1_swap_61 : decode cX1_swap 61 = .ok (.getfield 53, 3) := db_X1_swap_56.2.2.2.1
theorem dX1_swap_64 : decode cX1_swap 64 = .ok (.iload_n 3, 1) := db_X1_swap_56.2.2.2.2.1
theorem dX1_swap_65 : decode cX1_swap 65 = .ok (.bipush 64, 2) := db_X1_swap_56.2.2.2.2.2.1
theorem dX1_swap_67 : decode cX1_swap 67 = .ok (.imul, 1) := db_X1_swap_56.2.2.2.2.2.2.1
theorem dX1_swap_68 : decode cX1_swap 68 = .ok (.invokevirtual 80, 3) := db_X1_swap_56.2.2.2.2.2.2.2.1
theorem dX1_swap_71 : decode cX1_swap 71 = .ok (.iinc 3 1, 3) := db_X1_swap_56.2.2.2.2.2.2.2.2.1
theorem dX1_swap_74 : decode cX1_swap 74 = .ok (.goto (-41), 3) := db_X1_swap_56.2.2.2.2.2.2.2.2.2.1
theorem dX1_swap_77 : decode cX1_swap 77 = .ok (.aload_n 0, 1) := db_X1_swap_56.2.2.2.2.2.2.2.2.2.2.1
theorem dX1_swap_78 : decode cX1_swap 78 = .ok (.getfield 15, 3) := db_X1_swap_56.2.2.2.2.2.2.2.2.2.2.2.1
theorem dX1_swap_81 : decode cX1_swap 81 = .ok (.getfield 71, 3) := db_X1_swap_56.2.2.2.2.2.2.2.2.2.2.2.2.1
theorem dX1_swap_84 : decode cX1_swap 84 = .ok (.iconst 0, 1) := db_X1_swap_56.2.2.2.2.2.2.2.2.2.2.2.2.2.1
theorem dX1_swap_85 : decode cX1_swap 85 = .ok (.invokestatic 27, 3) := db_X1_swap_56.2.2.2.2.2.2.2.2.2.2.2.2.2.2.1
theorem dX1_swap_88 : decode cX1_swap 88 = .ok (.aload_n 0, 1) := db_X1_swap_56.2.2.2.2.2.2.2.2.2.2.2.2.2.2.2
theorem db_X1_swap_89 : decode cX1_swap 89 = .ok (.getfield 15, 3) ∧ decode cX1_swap 92 = .ok (.getfield 71, 3) ∧ decode cX1_swap 95 = .ok (.iconst 0, 1) ∧ decode cX1_swap 96 = .ok (.iload_n 1, 1) ∧ decode cX1_swap 97 = .ok (.i2b, 1) ∧ decode cX1_swap 98 = .ok (.bastore, 1) ∧ decode cX1_swap 99 = .ok (.aload_n 0, 1) ∧ decode cX1_swap 100 = .ok (.iload_n 1, 1) ∧ decode cX1_swap 101 = .ok (.iconst 2, 1) ∧ decode cX1_swap 102 = .ok (.irem, 1) ∧ decode cX1_swap 103 = .ok (.aload_n 0, 1) ∧ decode cX1_swap 104 = .ok (.getfield 15, 3) ∧ decode cX1_swap 107 = .ok (.getfield 71, 3) ∧ decode cX1_swap 110 = .ok (.iconst 0, 1) ∧ decode cX1_swap 111 = .ok (.invokevirtual 80, 3) ∧ decode cX1_swap 114 = .ok (.aload_n 0, 1) := by decide +kernel
theorem dX1_swap_89 : decode cX1_swap 89 = .ok (.getfield 15, 3) := db_X1_swap_89.1
theorem dX1_swap_92 : decode cX1_swap 92 = .ok (.getfield 71, 3) := db_X1_swap_89.2.1
theorem dX1_swap_95 : decode cX1_swap 95 = .ok (.iconst 0, 1) := db_X1_swap_89.2.2.1
theorem dX1_swap_96 : decode cX1_swap 96 = .ok (.iload_n 1, 1) := db_X1_swap_89.2.2.2.1
theorem dX1_swap_97 : decode cX1_swap 97 = .ok (.i2b, 1) := db_X1_swap_89.2.2.2.2.1
theorem dX1_swap_98 : decode cX1_swap 98 = .ok (.bastore, 1) := db_X1_swap_89.2.2.2.2.2.1
theorem dX1_swap_99 : decode cX1_swap 99 = .ok (.aload_n 0, 1) := db_X1_swap_89.2.2.2.2.2.2.1
theorem dX1_swap_100 : decode cX1_swap 100 = .ok (.iload_n 1, 1) := db_X1_swap_89.2.2.2.2.2.2.2.1
theorem dX1_swap_101 : decode cX1_swap 101 = .ok (.iconst 2, 1) := db_X1_swap_89.2.2.2.2.2.2.2.2.1
theorem dX1_swap_102 : decode cX1_swap 102 = .ok (.irem, 1) := db_X1_swap_89.2.2.2.2.2.2.2.2.2.1
theorem dX1_swap_103 : decode cX1_swap 103 = .ok (.aload_n 0, 1) := db_X1_swap_89.2.2.2.2.2.2.2.2.2.2.1
theorem dX1_swap_104 : decode cX1_swap 104 = .ok (.getfield 15, 3) := db_X1_swap_89.2.2.2.2.2.2.2.2.2.2.2.1
theorem dX1_swap_107 : decode cX1_swap 107 = .ok (.getfield 71, 3) := db_X1_swap_89.2.2.2.2.2.2.2.2.2.2.2.2.1
theorem dX1_swap_110 : decode cX1_swap 110 = .ok (.iconst 0, 1) := db_X1_swap_89.2.2.2.2.2.2.2.2.2.2.2.2.2.1
theorem dX1_swap_111 : decode cX1_swap 111 = .ok (.invokevirtual 80, 3) := db_X1_swap_89.2.2.2.2.2.2.2.2.2.2.2.2.2.2.1
theorem dX1_swap_114 : decode cX1_swap 114 = .ok (.aload_n 0, 1) := db_X1_swap_89.2.2.2.2.2.2.2.2.2.2.2.2.2.2.2
theorem db_X1_swap_115 : decode cX1_swap 115 = .ok (.iload_n 1, 1) ∧ decode cX1_swap 116 = .ok (.iload_n 2, 1) ∧ decode cX1_swap 117 = .ok (.aload_n 0, 1) ∧ decode cX1_swap 118 = .ok (.getfield 47, 3) ∧ decode cX1_swap 121 = .ok (.invokevirtual 37, 3) ∧ decode cX1_swap 124 = .ok (.return_, 1) := by decide +kernel
theorem dX1_swap_115 : decode cX1_swap 115 = .ok (.iload_n 1, 1) := db_X1_swap_115.1
theorem dX1_swap_116 : decode cX1_swap 116 = .ok (.iload_n 2, 1) := db_X1_swap_115.2.1
theorem dX1_swap_117 : decode cX1_swap 117 = .ok (.aload_n 0, 1) := db_X1_swap_115.2.2.1
theorem dX1_swap_118 : decode cX1_swap 118 = .ok (.getfield 47, 3) := db_X1_swap_115.2.2.2.1
theorem dX1_swap_121 : decode cX1_swap 121 = .ok (.invokevirtual 37, 3) := db_X1_swap_115.2.2.2.2.1
theorem dX1_swap_124 : decode cX1_swap 124 = .ok (.return_, 1) := db_X1_swap_115.2.2.2.2.2
theorem db_X1_isSo_0 : decode cX1_isSo 0 = .ok (.iconst 0, 1) ∧ decode cX1_isSo 1 = .ok (.istore_n 3, 1) ∧ decode cX1_isSo 2 = .ok (.iload_n 3, 1) ∧ decode cX1_isSo 3 = .ok (.bipush 64, 2) ∧ decode cX1_isSo 5 = .ok (.if_icmp .ge 36, 3) ∧ decode cX1_isSo 8 = .ok (.aload_n 0, 1) ∧ decode cX1_isSo 9 = .ok (.getfield 9, 3) ∧ decode cX1_isSo 12 = .ok (.iload_n 1, 1) ∧ decode cX1_isSo 13 = .ok (.bipush 64, 2) ∧ decode cX1_isSo 15 = .ok (.imul, 1) ∧ decode cX1_isSo 16 = .ok (.iload_n 3, 1) ∧ decode cX1_isSo 17 = .ok (.iadd, 1) ∧ decode cX1_isSo 18 = .ok (.baload, 1) ∧ decode cX1_isSo 19 = .ok (.aload_n 0, 1) ∧ decode cX1_isSo 20 = .ok (.getfield 15, 3) ∧ decode cX1_isSo 23 = .ok (.getfield 53, 3) := by decide +kernel
theorem dX1_isSo_0 : decode cX1_isSo 0 = .ok (.iconst 0, 1) := db_X1_isSo_0.1
theorem dX1_isSo_1 : decode cX1_isSo 1 = .ok (.istore_n 3, 1) := db_X1_isSo_0.2.1
theorem dX1_isSo_2 : decode cX1_isSo 2 = .ok (.iload_n 3, 1) := db_X1_isSo_0.2.2.1
theorem dX1_isSo_3 : decode cX1_isSo 3 = .ok (.bipush 64, 2) := db_X1_isSo_0.2.2.2.1
theorem dX1_isSo_5 : decode cX1_isSo 5 = .ok (.if_icmp .ge 36, 3) := db_X1_isSo_0.2.2.2.2.1
theorem dX1_isSo_8 : decode cX1_isSo 8 = .ok (.aload_n 0, 1) := db_X1_isSo_0.2.2.2.2.2.1
theorem dX1_isSo_9 : decode cX1_isSo 9 = .ok (.getfield 9, 3) := db_X1_isSo_0.2.2.2.2.2.2.1
theorem dX1_isSo_12 : decode cX1_isSo 12 = .ok (.iload_n 1, 1) := db_X1_isSo_0.2.2.2.2.2.2.2.1
theorem dX1_isSo_13 : decode cX1_isSo 13 = .ok (.bipush 64, 2) := db_X1_isSo_0.2.2.2.2.2.2.2.2.1
theorem dX1_isSo_15 : decode cX1_isSo 15 = .ok (.imul, 1) := db_X1_isSo_0.2.2.2.2.2.2.2.2.2.1
theorem dX1_isSo_16 : decode cX1_isSo 16 = .ok (.iload_n 3, 1) := db_X1_isSo_0.2.2.2.2.2.2.2.2.2.2.1
theorem dX1_isSo_17 : decode cX1_isSo 17 = .ok (.iadd, 1) := db_X1_isSo_0.2.2.2.2.2.2.2.2.2.2.2.1
theorem dX1_isSo_18 : decode cX1_isSo 18 = .ok (.baload, 1) := db_X1_isSo_0.2.2.2.2.2.2.2.2.2.2.2.2.1
theorem dX1_isSo_19 : decode cX1_isSo 19 = .ok (.aload_n 0, 1) := db_X1_isSo_0.2.2.2.2.2.2.2.2.2.2.2.2.2.1
theorem dX1_isSo_20 : decode cX1_isSo 20 = .ok (.getfield 15, 3) := db_X1_isSo_0.2.2.2.2.2.2.2.2.2.2.2.2.2.2.1
theorem dX1_isSo_23 : decode cX1_isSo 23 = .ok (.getfield 53, 3) := db_X1_isSo_0.2.2.2.2.2.2.2.2.2.2.2.2.2.2.2
theorem db_X1_isSo_26 : decode cX1_isSo 26 = .ok (.iload_n 2, 1) ∧ decode cX1_isSo 27 = .ok (.iload_n 3, 1) ∧ decode cX1_isSo 28 = .ok (.iadd, 1) ∧ decode cX1_isSo 29 = .ok (.baload, 1) ∧ decode cX1_isSo 30 = .ok (.if_icmp .eq 5, 3) ∧ decode cX1_isSo 33 = .ok (.iconst 0, 1) ∧ decode cX1_isSo 34 = .ok (.ireturn, 1) ∧ decode cX1_isSo 35 = .ok (.iinc 3 1, 3) ∧ decode cX1_isSo 38 = .ok (.goto (-36), 3) ∧ decode cX1_isSo 41 = .ok (.iconst 1, 1) ∧ decode cX1_isSo 42 = .ok (.ireturn, 1) := by decide +kernel
theorem dX1_isSo_26 : decode cX1_isSo 26 = .ok (.iload_n 2, 1) := db_X1_isSo_26.1
theorem dX1_isSo_27 : decode cX1_isSo 27 = .ok (.iload_n 3, 1) := db_X1_isSo_26.2.1
theorem dX1_isSo_28 : decode cX1_isSo 28 = .ok (.iadd, 1) := db_X1_isSo_26.2.2.1
theorem dX1_isSo_29 : decode cX1_isSo 29 = .ok (.baload, 1) := db_X1_isSo_26.2.2.2.1
theorem dX1_isSo_30 : decode cX1_isSo 30 = .ok (.if_icmp .eq 5, 3) := db_X1_isSo_26.2.2.2.2.1
theorem dX1_isSo_33 : decode cX1_isSo 33 = .ok (.iconst 0, 1) := db_X1_isSo_26.2.2.2.2.2.1
theorem dX1_isSo_34 : decode cX1_isSo 34 = .ok (.ireturn, 1) := db_X1_isSo_26.2.2.2.2.2.2.1
theorem dX1_isSo_35 : decode cX1_isSo 35 = .ok (.iinc 3 1, 3) := db_X1_isSo_26.2.2.2.2.2.2.2.1
theorem dX1_isSo_38 : decode cX1_isSo 38 = .ok (.goto (-36), 3) := db_X1_isSo_26.2.2.2.2.2.2.2.2.1
theorem dX1_isSo_41 : decode cX1_isSo 41 = .ok (.iconst 1, 1) := db_X1_isSo_26.2.2.2.2.2.2.2.2.2.1
theorem dX1_isSo_42 : decode cX1_isSo 42 = .ok (.ireturn, 1) := db_X1_isSo_26.2.2.2.2.2.2.2.2.2.2
theorem db_X1_writeBlock_0 : decode cX1_writeBlock 0 = .ok (.aload_n 0, 1) ∧ decode cX1_writeBlock 1 = .ok (.getfield 15, 3) ∧ decode cX1_writeBlock 4 = .ok (.dup, 1) ∧ decode cX1_writeBlock 5 = .ok (.getfield 94, 3) ∧ decode cX1_writeBlock 8 = .ok (.iconst 1, 1) ∧ decode cX1_writeBlock 9 = .ok (.iadd, 1) ∧ decode cX1_writeBlock 10 = .ok (.putfield 94, 3) ∧ decode cX1_writeBlock 13 = .ok (.iconst 0, 1) ∧ decode cX1_writeBlock 14 = .ok (.istore 4, 2) ∧ decode cX1_writeBlock 16 = .ok (.bipush 64, 2) ∧ decode cX1_writeBlock 18 = .ok (.istore 5, 2) ∧ decode cX1_writeBlock 20 = .ok (.aload_n 0, 1) ∧ decode cX1_writeBlock 21 = .ok (.getfield 19, 3) ∧ decode cX1_writeBlock 24 = .ok (.ifnull 62, 3) ∧ decode cX1_writeBlock 27 = .ok (.aload_n 0, 1) ∧ decode cX1_writeBlock 28 = .ok (.getfield 19, 3) := by decide +kernel
theorem dX1_writeBlock_0 : decode cX1_writeBlock 0 = .ok (.aload_n 0, 1) := db_X1_writeBlock_0.1
theorem dX1_writeBlock_1 : decode cX1_writeBlock 1 = .ok (.getfield 15, 3) := db_X1_writeBlock_0.2.1
theorem dX1_writeBlock_4 : decode cX1_writeBlock 4 = .ok (.dup, 1) := db_X1_writeBlock_0.2.2.1
theorem dX1_writeBlock_5 : decode cX1_writeBlock 5 = .ok (.getfield 94, 3) := db_X1_writeBlock_0.2.2.2.1
theorem dX1_writeBlock_8 : decode cX1_writeBlock 8 = .ok (.iconst 1, 1) := db_X1_writeBlock_0.2.2.2.2.1
theorem dX1_writeBlock_9 : decode cX1_writeBlock 9 = .ok (.iadd, 1) := db_X1_writeBlock_0.2.2.2.2.2.1
theorem dX1_writeBlock_10 : decode cX1_writeBlock 10 = .ok (.putfield 94, 3) := db_X1_writeBlock_0.2.2.2.2.2.2.1
theorem dX1_writeBlock_13 : decode cX1_writeBlock 13 = .ok (.iconst 0, 1) := db_X1_writeBlock_0.2.2.2.2.2.2.2.1
theorem dX1_writeBlock_14 : decode cX1_writeBlock 14 = .ok (.istore 4, 2) := db_X1_writeBlock_0.2.2.2.2.2.2.2.2.1
theorem dX1_writeBlock_16 : decode cX1_writeBlock 16 = .ok (.bipush 64, 2) := db_X1_writeBlock_0.2.2.2.2.2.2.2.2.2.1
theorem dX1_writeBlock_18 : decode cX1_writeBlock 18 = .ok (.istore 5, 2) := db_X1_writeBlock_0.2.2.2.2.2.2.2.2.2.2.1
theorem dX1_writeBlock_20 : decode cX1_writeBlock 20 = .ok (.aload_n 0, 1) := db_X1_writeBlock_0.2.2.2.2.2.2.2.2.2.2.2.1
theorem dX1_writeBlock_21 : decode cX1_writeBlock 21 = .ok (.getfield 19, 3) := db_X1_writeBlock_0.2.2.2.2.2.2.2.2.2.2.2.2.1
theorem dX1_writeBlock_24 : decode cX1_writeBlock 24 = .ok (.ifnull 62, 3) := db_X1_writeBlock_0.2.2.2.2.2.2.2.2.2.2.2.2.2.1
theorem dX1_writeBlock_27 : decode cX1_writeBlock 27 = .ok (.aload_n 0, 1) := db_X1_writeBlock_0.2.2.2.2.2.2.2.2.2.2.2.2.2.2.1
theorem dX1_writeBlock_28 : decode cX1_writeBlock 28 = .ok (.getfield 19, 3) := db_X1_writeBlock_0.2.2.2.2.2.2.2.2.2.2.2.2.2.2.2
theorem db_X1_writeBlock_31 : decode cX1_writeBlock 31 = .ok (.getfield 97, 3) ∧ decode cX1_writeBlock 34 = .ok (.ifCond .le 52, 3) ∧ decode cX1_writeBlock 86 = .ok (.aload_n 2, 1) ∧ decode cX1_writeBlock 87 = .ok (.iload_n 3, 1) ∧ decode cX1_writeBlock 88 = .ok (.aload_n 0, 1) ∧ decode cX1_writeBlock 89 = .ok (.getfield 9, 3) ∧ decode cX1_writeBlock 92 = .ok (.iload_n 1, 1) ∧ decode cX1_writeBlock 93 = .ok (.bipush 64, 2) ∧ decode cX1_writeBlock 95 = .ok (.imul, 1) ∧ decode cX1_writeBlock 96 = .ok (.iload 5, 2) ∧ decode cX1_writeBlock 98 = .ok (.invokestatic 74, 3) ∧ decode cX1_writeBlock 101 = .ok (.iload 4, 2) ∧ decode cX1_writeBlock 103 = .ok (.ifCond .eq 13, 3) ∧ decode cX1_writeBlock 116 = .ok (.return_, 1) := by decide +kernel
theorem dX1_writeBlock_31 : decode cX1_writeBlock 31 = .ok (.getfield 97, 3) := db_X1_writeBlock_31.1
theorem dX1_writeBlock_34 : decode cX1_writeBlock 34 = .ok (.ifCond .le 52, 3) := db_X1_writeBlock_31.2.1
theorem dX1_writeBlock_86 : decode cX1_writeBlock 86 = .ok (.aload_n 2, 1) := db_X1_writeBlock_31.2.2.1
theorem dX1_writeBlock_87 : decode cX1_writeBlock 87 = .ok (.iload_n 3, 1) := db_X1_writeBlock_31.2.2.2.1
theorem dX1_writeBlock_88 : decode cX1_writeBlock 88 = .ok (.aload_n 0, 1) := db_X1_writeBlock_31.2.2.2.2.1
theorem dX1_writeBlock_89 : decode cX1_writeBlock 89 = .ok (.getfield 9, 3) := db_X1_writeBlock_31.2.2.2.2.2.1
theorem dX1_writeBlock_92 : decode cX1_writeBlock 92 = .ok (.iload_n 1, 1) := db_X1_writeBlock_31.2.2.2.2.2.2.1
theorem dX1_writeBlock_93 : decode cX1_writeBlock 93 = .ok (.bipush 64, 2) := db_X1_writeBlock_31.2.2.2.2.2.2.2.1
theorem dX1_writeBlock_95 : decode cX1_writeBlock 95 = .ok (.imul, 1) := db_X1_writeBlock_31.2.2.2.2.2.2.2.2.1
theorem dX1_writeBlock_96 : decode cX1_writeBlock 96 = .ok (.iload 5, 2) := db_X1_writeBlock_31.2.2.2.2.2.2.2.2.2.1
theorem dX1_writeBlock_98 : decode cX1_writeBlock 98 = .ok (.invokestatic 74, 3) := db_X1_writeBlock_31.2.2.2.2.2.2.2.2.2.2.1
theorem dX1_writeBlock_101 : decode cX1_writeBlock 101 = .ok (.iload 4, 2) := db_X1_writeBlock_31.2.2.2.2.2.2.2.2.2.2.2.1
theorem dX1_writeBlock_103 : decode cX1_writeBlock 103 = .ok (.ifCond .eq 13, 3) := db_X1_writeBlock_31.2.2.2.2.2.2.2.2.2.2.2.2.1
theorem dX1_writeBlock_116 : decode cX1_writeBlock 116 = .ok (.return_, 1) := db_X1_writeBlock_31.2.2.2.2.2.2.2.2.2.2.2.2.2
theorem db_X2_init_0 : decode cX2_init 0 = .ok (.aload_n 0, 1) ∧ decode cX2_init 1 = .ok (.invokespecial 3, 3) ∧ decode cX2_init 4 = .ok (.aload_n 0, 1) ∧ decode cX2_init 5 = .ok (.iconst 5, 1) ∧ decode cX2_init 6 = .ok (.bipush 100, 2) ∧ decode cX2_init 8 = .ok (.multianewarray 9 2, 4) ∧ decode cX2_init 12 = .ok (.putfield 11, 3) ∧ decode cX2_init 15 = .ok (.aload_n 0, 1) ∧ decode cX2_init 16 = .ok (.iconst 5, 1) ∧ decode cX2_init 17 = .ok (.bipush 100, 2) ∧ decode cX2_init 19 = .ok (.multianewarray 9 2, 4) ∧ decode cX2_init 23 = .ok (.putfield 16, 3) ∧ decode cX2_init 26 = .ok (.aload_n 0, 1) ∧ decode cX2_init 27 = .ok (.iconst 5, 1) ∧ decode cX2_init 28 = .ok (.bipush 100, 2) ∧ decode cX2_init 30 = .ok (.multianewarray 9 2, 4) := by decide +kernel
theorem dX2_init_0 : decode cX2_init 0 = .ok (.aload_n 0, 1) := db_X2_init_0.1
theorem dX2_init_1 : decode cX2_init 1 = .ok (.invokespecial 3, 3) := db_X2_init_0.2.1
theorem dX2_init_4 : decode cX2_init 4 = .ok (.aload_n 0, 1) := db_X2_init_0.2.2.1
theorem dX2_init_5 : decode cX2_init 5 = .ok (.iconst 5, 1) := db_X2_init_0.2.2.2.1
theorem dX2_init_6 : decode cX2_init 6 = .ok (.bipush 100, 2) := db_X2_init_0.2.2.2.2.1
theorem dX2_init_8 : decode cX2_init 8 = .ok (.multianewarray 9 2, 4) := db_X2_init_0.2.2.2.2.2.1
theorem dX2_init_12 : decode cX2_init 12 = .ok (.putfield 11, 3) := db_X2_init_0.2.2.2.2.2.2.1
theorem dX2_init_15 : decode cX2_init 15 = .ok (.aload_n 0, 1) := db_X2_init_0.2.2.2.2.2.2.2.1
theorem dX2_init_16 : decode cX2_init 16 = .ok (.iconst 5, 1) := db_X2_init_0.2.2.2.2.2.2.2.2.1
theorem dX2_init_17 : decode cX2_init 17 = .ok (.bipush 100, 2) := db_X2_init_0.2.2.2.2.2.2.2.2.2.1
theorem dX2_init_19 : decode cX2_init 19 = .ok (.multianewarray 9 2, 4) := db_X2_init_0.2.2.2.2.2.2.2.2.2.2.1
theorem dX2_init_23 : decode cX2_init 23 = .ok (.putfield 16, 3) := db_X2_init_0.2.2.2.2.2.2.2.2.2.2.2.1
theorem dX2_init_26 : decode cX2_init 26 = .ok (.aload_n 0, 1) := db_X2_init_0.2.2.2.2.2.2.2.2.2.2.2.2.1
theorem dX2_init_27 : decode cX2_init 27 = .ok (.iconst 5, 1) := db_X2_init_0.2.2.2.2.2.2.2.2.2.2.2.2.2.1
theorem dX2_init_28 : decode cX2_init 28 = .ok (.bipush 100, 2) := db_X2_init_0.2.2.2.2.2.2.2.2.2.2.2.2.2.2.1
theorem dX2_init_30 : decode cX2_init 30 = .ok (.multianewarray 9 2, 4) := db_X2_init_0.2.2.2.2.2.2.2.2.2.2.2.2.2.2.2
theorem db_X2_init_34 : decode cX2_init 34 = .ok (.putfield 19, 3) ∧ decode cX2_init 37 = .ok (.aload_n 0, 1) ∧ decode cX2_init 38 = .ok (.iconst 5, 1) ∧ decode cX2_init 39 = .ok (.newarray .int, 2) ∧ decode cX2_init 41 = .ok (.putfield 22, 3) ∧ decode cX2_init 44 = .ok (.aload_n 0, 1) ∧ decode cX2_init 45 = .ok (.iconst 5, 1) ∧ decode cX2_init 46 = .ok (.newarray .int, 2) ∧ decode cX2_init 48 = .ok (.putfield 26, 3) ∧ decode cX2_init 51 = .ok (.aload_n 0, 1) ∧ decode cX2_init 52 = .ok (.bipush 100, 2) ∧ decode cX2_init 54 = .ok (.newarray .int, 2) ∧ decode cX2_init 56 = .ok (.putfield 29, 3) ∧ decode cX2_init 59 = .ok (.aload_n 0, 1) ∧ decode cX2_init 60 = .ok (.aload_n 1, 1) ∧ decode cX2_init 61 = .ok (.putfield 32, 3) := by decide +kernel
theorem dX2_init_34 : decode cX2_init 34 = .ok (.putfield 19, 3) := db_X2_init_34.1
theorem dX2_init_37 : decode cX2_init 37 = .ok (.aload_n 0, 1) := db_X2_init_34.2.1
theorem dX2_init_38 : decode cX2_init 38 = .ok (.iconst 5, 1) := db_X2_init_34.2.2.1
theorem dX2_init_39 : decode cX2_init 39 = .ok (.newarray .int, 2) := db_X2_init_34.2.2.2.1
theorem dX2_init_41 : decode cX2_init 41 = .ok (.putfield 22, 3) := db_X2_init_34.2.2.2.2.1
theorem dX2_init_44 : decode cX2_init 44 = .ok (.aload_n 0, 1) := db_X2_init_34.2.2.2.2.2.1
theorem dX2_init_45 : decode cX2_init 45 = .ok (.iconst 5, 1) := db_X2_init_34.2.2.2.2.2.2.1
theorem dX2_init_46 : decode cX2_init 46 = .ok (.newarray .int, 2) := db_X2_init_34.2.2.2.2.2.2.2.1
theorem dX2_init_48 : decode cX2_init 48 = .ok (.putfield 26, 3) := db_X2_init_34.2.2.2.2.2.2.2.2.1
theorem dX2_init_51 : decode cX2_init 51 = .ok (.aload_n 0, 1) := db_X2_init_34.2.2.2.2.2.2.2.2.2.1
theorem dX2_init_52 : decode cX2_init 52 = .ok (.bipush 100, 2) := db_X2_init_34.2.2.2.2.2.2.2.2.2.2.1
theorem dX2_init_54 : decode cX2_init 54 = .ok (.newarray .int, 2) := db_X2_init_34.2.2.2.2.2.2.2.2.2.2.2.1
theorem dX2_init_56 : decode cX2_init 56 = .ok (.putfield 29, 3) := db_X2_init_34.2.2.2.2.2.2.2.2.2.2.2.2.1
theorem dX2_init_59 : decode cX2_init 59 = .ok (.aload_n 0, 1) := db_X2_init_34.2.2.2.2.2.2.2.2.2.2.2.2.2.1
theorem dX2_init_60 : decode cX2_init 60 = .ok (.aload_n 1, 1) := db_X2_init_34.2.2.2.2.2.2.2.2.2.2.2.2.2.2.1
theorem dX2_init_61 : decode cX2_init 61 = .ok (.putfield 32, 3) := db_X2_init_34.2.2.2.2.2.2.2.2.2.2.2.2.2.2.2
theorem dX2_init_64 : decode cX2_init 64 = .ok (.return_, 1) := by decide +kernel
theorem db_X2_begin_0 : decode cX2_begin 0 = .ok (.aload_n 0, 1) ∧ decode cX2_begin 1 = .ok (.iload_n 1, 1) ∧ decode cX2_begin 2 = .ok (.putfield 36, 3) ∧ decode cX2_begin 5 = .ok (.aload_n 0, 1) ∧ decode cX2_begin 6 = .ok (.iconst 0, 1) ∧ decode cX2_begin 7 = .ok (.putfield 40, 3) ∧ decode cX2_begin 10 = .ok (.aload_n 0, 1) ∧ decode cX2_begin 11 = .ok (.getfield 29, 3) ∧ decode cX2_begin 14 = .ok (.iconst (-1), 1) ∧ decode cX2_begin 15 = .ok (.invokestatic 43, 3) ∧ decode cX2_begin 18 = .ok (.return_, 1) := by decide +kernel
theorem dX2_begin_0 : decode cX2_begin 0 = .ok (.aload_n 0, 1) := db_X2_begin_0.1
theorem dX2_begin_1 : decode cX2_begin 1 = .ok (.iload_n 1, 1) := db_X2_begin_0.2.1
theorem dX2_begin_2 : decode cX2_begin 2 = .ok (.putfield 36, 3) := db_X2_begin_0.2.2.1
theorem dX2_begin_5 : decode cX2_begin 5 = .ok (.aload_n 0, 1) := db_X2_begin_0.2.2.2.1
theorem dX2_begin_6 : decode cX2_begin 6 = .ok (.iconst 0, 1) := db_X2_begin_0.2.2.2.2.1
theorem dX2_begin_7 : decode cX2_begin 7 = .ok (.putfield 40, 3) := db_X2_begin_0.2.2.2.2.2.1
theorem dX2_begin_10 : decode cX2_begin 10 = .ok (.aload_n 0, 1) := db_X2_begin_0.2.2.2.2.2.2.1
theorem dX2_begin_11 : decode cX2_begin 11 = .ok (.getfield 29, 3) := db_X2_begin_0.2.2.2.2.2.2.2.1
theorem dX2_begin_14 : decode cX2_begin 14 = .ok (.iconst (-1), 1) := db_X2_begin_0.2.2.2.2.2.2.2.2.1
theorem dX2_begin_15 : decode cX2_begin 15 = .ok (.invokestatic 43, 3) := db_X2_begin_0.2.2.2.2.2.2.2.2.2.1
theorem dX2_begin_18 : decode cX2_begin 18 = .ok (.return_, 1) := db_X2_begin_0.2.2.2.2.2.2.2.2.2.2
theorem db_X3_init_0 : decode cX3_init 0 = .ok (.aload_n 0, 1) ∧ decode cX3_init 1 = .ok (.invokespecial 3, 3) ∧ decode cX3_init 4 = .ok (.aload_n 0, 1) ∧ decode cX3_init 5 = .ok (.iconst 4, 1) ∧ decode cX3_init 6 = .ok (.iconst 4, 1) ∧ decode cX3_init 7 = .ok (.multianewarray 9 2, 4) ∧ decode cX3_init 11 = .ok (.putfield 11, 3) ∧ decode cX3_init 14 = .ok (.aload_n 0, 1) ∧ decode cX3_init 15 = .ok (.iconst 5, 1) ∧ decode cX3_init 16 = .ok (.newarray .boolean, 2) ∧ decode cX3_init 18 = .ok (.putfield 16, 3) ∧ decode cX3_init 21 = .ok (.aload_n 0, 1) ∧ decode cX3_init 22 = .ok (.iconst 5, 1) ∧ decode cX3_init 23 = .ok (.newarray .int, 2) ∧ decode cX3_init 25 = .ok (.putfield 20, 3) ∧ decode cX3_init 28 = .ok (.aload_n 0, 1) := by decide +kernel
theorem dX3_init_0 : decode cX3_init 0 = .ok (.aload_n 0, 1) := db_X3_init_0.1
theorem dX3_init_1 : decode cX3_init 1 = .ok (.invokespecial 3, 3) := db_X3_init_0.2.1
theorem dX3_init_4 : decode cX3_init 4 = .ok (.aload_n 0, 1) := db_X3_init_0.2.2.1
theorem dX3_init_5 : decode cX3_init 5 = .ok (.iconst 4, 1) := db_X3_init_0.2.2.2.1
theorem dX3_init_6 : decode cX3_init 6 = .ok (.iconst 4, 1) := db_X3_init_0.2.2.2.2.1
theorem dX3_init_7 : decode cX3_init 7 = .ok (.multianewarray 9 2, 4) := db_X3_init_0.2.2.2.2.2.1
theorem dX3_init_11 : decode cX3_init 11 = .ok (.putfield 11, 3) := db_X3_init_0.2.2.2.2.2.2.1
theorem dX3_init_14 : decode cX3_init 14 = .ok (.aload_n 0, 1) := db_X3_init_0.2.2.2.2.2.2.2.1
theorem dX3_init_15 : decode cX3_init 15 = .ok (.iconst 5, 1) := db_X3_init_0.2.2.2.2.2.2.2.2.1
theorem dX3_init_16 : decode cX3_init 16 = .ok (.newarray .boolean, 2) := db_X3_init_0.2.2.2.2.2.2.2.2.2.1
theorem dX3_init_18 : decode cX3_init 18 = .ok (.putfield 16, 3) := db_X3_init_0.2.2.2.2.2.2.2.2.2.2.1
theorem dX3_init_21 : decode cX3_init 21 = .ok (.aload_n 0, 1) := db_X3_init_0.2.2.2.2.2.2.2.2.2.2.2.1
theorem dX3_init_22 : decode cX3_init 22 = .ok (.iconst 5, 1) := db_X3_init_0.2.2.2.2.2.2.2.2.2.2.2.2.1
theorem dX3_init_23 : decode cX3_init 23 = .ok (.newarray .int, 2) := db_X3_init_0.2.2.2.2.2.2.2.2.2.2.2.2.2.1
theorem dX3_init_25 : decode cX3_init 25 = .ok (.putfield 20, 3) := db_X3_init_0.2.2.2.2.2.2.2.2.2.2.2.2.2.2.1
theorem dX3_init_28 : decode cX3_init 28 = .ok (.aload_n 0, 1) := db_X3_init_0.2.2.2.2.2.2.2.2.2.2.2.2.2.2.2
theorem db_X3_init_29 : decode cX3_init 29 = .ok (.aload_n 1, 1) ∧ decode cX3_init 30 = .ok (.putfield 24, 3) ∧ decode cX3_init 33 = .ok (.aload_n 0, 1) ∧ decode cX3_init 34 = .ok (.new 28, 3) ∧ decode cX3_init 37 = .ok (.dup, 1) ∧ decode cX3_init 38 = .ok (.aload_n 1, 1) ∧ decode cX3_init 39 = .ok (.invokespecial 30, 3) ∧ decode cX3_init 42 = .ok (.putfield 33, 3) ∧ decode cX3_init 45 = .ok (.return_, 1) := by decide +kernel
theorem dX3_init_29 : decode cX3_init 29 = .ok (.aload_n 1, 1) := db_X3_init_29.1
theorem dX3_init_30 : decode cX3_init 30 = .ok (.putfield 24, 3) := db_X3_init_29.2.1
theorem dX3_init_33 : decode cX3_init 33 = .ok (.aload_n 0, 1) := db_X3_init_29.2.2.1
theorem dX3_init_34 : decode cX3_init 34 = .ok (.new 28, 3) := db_X3_init_29.2.2.2.1
theorem dX3_init_37 : decode cX3_init 37 = .ok (.dup, 1) := db_X3_init_29.2.2.2.2.1
theorem dX3_init_38 : decode cX3_init 38 = .ok (.aload_n 1, 1) := db_X3_init_29.2.2.2.2.2.1
theorem dX3_init_39 : decode cX3_init 39 = .ok (.invokespecial 30, 3) := db_X3_init_29.2.2.2.2.2.2.1
theorem dX3_init_42 : decode cX3_init 42 = .ok (.putfield 33, 3) := db_X3_init_29.2.2.2.2.2.2.2.1
theorem dX3_init_45 : decode cX3_init 45 = .ok (.return_, 1) := db_X3_init_29.2.2.2.2.2.2.2.2
theorem db_X3_begin_0 : decode cX3_begin 0 = .ok (.iconst 0, 1) ∧ decode cX3_begin 1 = .ok (.istore_n 2, 1) ∧ decode cX3_begin 2 = .ok (.iload_n 2, 1) ∧ decode cX3_begin 3 = .ok (.iconst 4, 1) ∧ decode cX3_begin 4 = .ok (.if_icmp .ge 59, 3) ∧ decode cX3_begin 7 = .ok (.aload_n 0, 1) ∧ decode cX3_begin 8 = .ok (.getfield 11, 3) ∧ decode cX3_begin 11 = .ok (.iload_n 2, 1) ∧ decode cX3_begin 12 = .ok (.aaload, 1) ∧ decode cX3_begin 13 = .ok (.iconst 0, 1) ∧ decode cX3_begin 14 = .ok (.iconst 1, 1) ∧ decode cX3_begin 15 = .ok (.iastore, 1) ∧ decode cX3_begin 16 = .ok (.aload_n 0, 1) ∧ decode cX3_begin 17 = .ok (.getfield 11, 3) ∧ decode cX3_begin 20 = .ok (.iload_n 2, 1) ∧ decode cX3_begin 21 = .ok (.aaload, 1) := by decide +kernel
theorem dX3_begin_0 : decode cX3_begin 0 = .ok (.iconst 0, 1) := db_X3_begin_0.1
theorem dX3_begin_1 : decode cX3_begin 1 = .ok (.istore_n 2, 1) := db_X3_begin_0.2.1
theorem dX3_begin_2 : decode cX3_begin 2 = .ok (.iload_n 2, 1) := db_X3_begin_0.2.2.1
theorem dX3_begin_3 : decode cX3_begin 3 = .ok (.iconst 4, 1) := db_X3_begin_0.2.2.2.1
theorem dX3_begin_4 : decode cX3_begin 4 = .ok (.if_icmp .ge 59, 3) := db_X3_begin_0.2.2.2.2.1
theorem dX3_begin_7 : decode cX3_begin 7 = .ok (.aload_n 0, 1) := db_X3_begin_0.2.2.2.2.2.1
theorem dX3_begin_8 : decode cX3_begin 8 = .ok (.getfield 11, 3) := db_X3_begin_0.2.2.2.2.2.2.1
theorem dX3_begin_11 : decode cX3_begin 11 = .ok (.iload_n 2, 1) := db_X3_begin_0.2.2.2.2.2.2.2.1
theorem dX3_begin_12 : decode cX3_begin 12 = .ok (.aaload, 1) := db_X3_begin_0.2.2.2.2.2.2.2.2.1
theorem dX3_begin_13 : decode cX3_begin 13 = .ok (.iconst 0, 1) := db_X3_begin_0.2.2.2.2.2.2.2.2.2.1
theorem dX3_begin_14 : decode cX3_begin 14 = .ok (.iconst 1, 1) := db_X3_begin_0.2.2.2.2.2.2.2.2.2.2.1
theorem dX3_begin_15 : decode cX3_begin 15 = .ok (.iastore, 1) := db_X3_begin_0.2.2.2.2.2.2.2.2.2.2.2.1
theorem dX3_begin_16 : decode cX3_begin 16 = .ok (.aload_n 0, 1) := db_X3_begin_0.2.2.2.2.2.2.2.2.2.2.2.2.1
theorem dX3_begin_17 : decode cX3_begin 17 = .ok (.getfield 11, 3) := db_X3_begin_0.2.2.2.2.2.2.2.2.2.2.2.2.2.1
theorem dX3_begin_20 : decode cX3_begin 20 = .ok (.iload_n 2, 1) := db_X3_begin_0.2.2.2.2.2.2.2.2.2.2.2.2.2.2.1
theorem dX3_begin_21 : decode cX3_begin 21 = .ok (.aaload, 1) := db_X3_begin_0.2.2.2.2.2.2.2.2.2.2.2.2.2.2.2
theorem db_X3_begin_22 : decode cX3_begin 22 = .ok (.iconst 1, 1) ∧ decode cX3_begin 23 = .ok (.aload_n 0, 1) ∧ decode cX3_begin 24 = .ok (.getfield 24, 3) ∧ decode cX3_begin 27 = .ok (.iload_n 2, 1) ∧ decode cX3_begin 28 = .ok (.invokevirtual 37, 3) ∧ decode cX3_begin 31 = .ok (.iastore, 1) ∧ decode cX3_begin 32 = .ok (.aload_n 0, 1) ∧ decode cX3_begin 33 = .ok (.getfield 11, 3) ∧ decode cX3_begin 36 = .ok (.iload_n 2, 1) ∧ decode cX3_begin 37 = .ok (.aaload, 1) ∧ decode cX3_begin 38 = .ok (.iconst 2, 1) ∧ decode cX3_begin 39 = .ok (.aload_n 0, 1) ∧ decode cX3_begin 40 = .ok (.getfield 24, 3) ∧ decode cX3_begin 43 = .ok (.iload_n 2, 1) ∧ decode cX3_begin 44 = .ok (.invokevirtual 43, 3) ∧ decode cX3_begin 47 = .ok (.iastore, 1) := by decide +kernel
theorem dX3_begin_22 : decode cX3_begin 22 = .ok (.iconst 1, 1) := db_X3_begin_22.1
theorem dX3_begin_23 : decode cX3_begin 23 = .ok (.aload_n 0, 1) := db_X3_begin_22.2.1
theorem dX3_begin_24 : decode cX3_begin 24 = .ok (.getfield 24, 3) := db_X3_begin_22.2.2.1
theorem dX3_begin_27 : decode cX3_begin 27 = .ok (.iload_n 2, 1) := db_X3_begin_22.2.2.2.1
theorem dX3_begin_28 : decode cX3_begin 28 = .ok (.invokevirtual 37, 3) := db_X3_begin_22.2.2.2.2.1
theorem dX3_begin_31 : decode cX3_begin 31 = .ok (.iastore, 1) := db_X3_begin_22.2.2.2.2.2.1
theorem dX3_begin_32 : decode cX3_begin 32 = .ok (.aload_n 0, 1) := db_X3_begin_22.2.2.2.2.2.2.1
theorem dX3_begin_33 : decode cX3_begin 33 = .ok (.getfield 11, 3) := db_X3_begin_22.2.2.2.2.2.2.2.1
theorem dX3_begin_36 : decode cX3_begin 36 = .ok (.iload_n 2, 1) := db_X3_begin_22.2.2.2.2.2.2.2.2.1
theorem dX3_begin_37 : decode cX3_begin 37 = .ok (.aaload, 1) := db_X3_begin_22.2.2.2.2.2.2.2.2.2.1
theorem dX3_begin_38 : decode cX3_begin 38 = .ok (.iconst 2, 1) := db_X3_begin_22.2.2.2.2.2.2.2.2.2.2.1
theorem dX3_begin_39 : decode cX3_begin 39 = .ok (.aload_n 0, 1) := db_X3_begin_22.2.2.2.2.2.2.2.2.2.2.2.1
theorem dX3_begin_40 : decode cX3_begin 40 = .ok (.getfield 24, 3) := db_X3_begin_22.2.2.2.2.2.2.2.2.2.2.2.2.1
theorem dX3_begin_43 : decode cX3_begin 43 = .ok (.iload_n 2, 1) := db_X3_begin_22.2.2.2.2.2.2.2.2.2.2.2.2.2.1
theorem dX3_begin_44 : decode cX3_begin 44 = .ok (.invokevirtual 43, 3) := db_X3_begin_22.2.2.2.2.2.2.2.2.2.2.2.2.2.2.1
theorem dX3_begin_47 : decode cX3_begin 47 = .ok (.iastore, 1) := db_X3_begin_22.2.2.2.2.2.2.2.2.2.2.2.2.2.2.2
theorem db_X3_begin_48 : decode cX3_begin 48 = .ok (.aload_n 0, 1) ∧ decode cX3_begin 49 = .ok (.getfield 11, 3) ∧ decode cX3_begin 52 = .ok (.iload_n 2, 1) ∧ decode cX3_begin 53 = .ok (.aaload, 1) ∧ decode cX3_begin 54 = .ok (.iconst 3, 1) ∧ decode cX3_begin 55 = .ok (.iconst 1, 1) ∧ decode cX3_begin 56 = .ok (.iastore, 1) ∧ decode cX3_begin 57 = .ok (.iinc 2 1, 3) ∧ decode cX3_begin 60 = .ok (.goto (-58), 3) ∧ decode cX3_begin 63 = .ok (.aload_n 0, 1) ∧ decode cX3_begin 64 = .ok (.invokevirtual 46, 3) ∧ decode cX3_begin 67 = .ok (.aload_n 0, 1) ∧ decode cX3_begin 68 = .ok (.getfield 33, 3) ∧ decode cX3_begin 71 = .ok (.aload_n 1, 1) ∧ decode cX3_begin 72 = .ok (.invokevirtual 49, 3) ∧ decode cX3_begin 75 = .ok (.aload_n 0, 1) := by decide +kernel
theorem dX3_begin_48 : decode cX3_begin 48 = .ok (.aload_n 0, 1) := db_X3_begin_48.1
theorem dX3_begin_49 : decode cX3_begin 49 = .ok (.getfield 11, 3) := db_X3_begin_48.2.1
theorem dX3_begin_52 : decode cX3_begin 52 = .ok (.iload_n 2, 1) := db_X3_begin_48.2.2.1
theorem dX3_begin_53 : decode cX3_begin 53 = .ok (.aaload, 1) := db_X3_begin_48.2.2.2.1
theorem dX3_begin_54 : decode cX3_begin 54 = .ok (.iconst 3, 1) := db_X3_begin_48.2.2.2.2.1
theorem dX3_begin_55 : decode cX3_begin 55 = .ok (.iconst 1, 1) := db_X3_begin_48.2.2.2.2.2.1
theorem dX3_begin_56 : decode cX3_begin 56 = .ok (.iastore, 1) := db_X3_begin_48.2.2.2.2.2.2.1
theorem dX3_begin_57 : decode cX3_begin 57 = .ok (.iinc 2 1, 3) := db_X3_begin_48.2.2.2.2.2.2.2.1
theorem dX3_begin_60 : decode cX3_begin 60 = .ok (.goto (-58), 3) := db_X3_begin_48.2.2.2.2.2.2.2.2.1
theorem dX3_begin_63 : decode cX3_begin 63 = .ok (.aload_n 0, 1) := db_X3_begin_48.2.2.2.2.2.2.2.2.2.1
theorem dX3_begin_64 : decode cX3_begin 64 = .ok (.invokevirtual 46, 3) := db_X3_begin_48.2.2.2.2.2.2.2.2.2.2.1
theorem dX3_begin_67 : decode cX3_begin 67 = .ok (.aload_n 0, 1) := db_X3_begin_48.2.2.2.2.2.2.2.2.2.2.2.1
theorem dX3_begin_68 : decode cX3_begin 68 = .ok (.getfield 33, 3) := db_X3_begin_48.2.2.2.2.2.2.2.2.2.2.2.2.1
theorem dX3_begin_71 : decode cX3_begin 71 = .ok (.aload_n 1, 1) := db_X3_begin_48.2.2.2.2.2.2.2.2.2.2.2.2.2.1
theorem dX3_begin_72 : decode cX3_begin 72 = .ok (.invokevirtual 49, 3) := db_X3_begin_48.2.2.2.2.2.2.2.2.2.2.2.2.2.2.1
theorem dX3_begin_75 : decode cX3_begin 75 = .ok (.aload_n 0, 1) := db_X3_begin_48.2.2.2.2.2.2.2.2.2.2.2.2.2.2.2
theorem dX3_begin_76 : decode cX3_begin 76 = .ok (.invokevirtual 53, 3) := by decide +kernel
theorem dX3_begin_79 : decode cX3_begin 79 = .ok (.return_, 1) := by decide +kernel
theorem db_X3_hearAll_0 : decode cX3_hearAll 0 = .ok (.iconst 0, 1) ∧ decode cX3_hearAll 1 = .ok (.istore_n 1, 1) ∧ decode cX3_hearAll 2 = .ok (.iload_n 1, 1) ∧ decode cX3_hearAll 3 = .ok (.iconst 5, 1) ∧ decode cX3_hearAll 4 = .ok (.if_icmp .ge 29, 3) ∧ decode cX3_hearAll 7 = .ok (.aload_n 0, 1) ∧ decode cX3_hearAll 8 = .ok (.getfield 16, 3) ∧ decode cX3_hearAll 11 = .ok (.iload_n 1, 1) ∧ decode cX3_hearAll 12 = .ok (.iconst 1, 1) ∧ decode cX3_hearAll 13 = .ok (.bastore, 1) ∧ decode cX3_hearAll 14 = .ok (.aload_n 0, 1) ∧ decode cX3_hearAll 15 = .ok (.getfield 20, 3) ∧ decode cX3_hearAll 18 = .ok (.iload_n 1, 1) ∧ decode cX3_hearAll 19 = .ok (.aload_n 0, 1) ∧ decode cX3_hearAll 20 = .ok (.getfield 24, 3) ∧ decode cX3_hearAll 23 = .ok (.getfield 56, 3) := by decide +kernel
theorem dX3_hearAll_0 : decode cX3_hearAll 0 = .ok (.iconst 0, 1) := db_X3_hearAll_0.1
theorem dX3_hearAll_1 : decode cX3_hearAll 1 = .ok (.istore_n 1, 1) := db_X3_hearAll_0.2.1
theorem dX3_hearAll_2 : decode cX3_hearAll 2 = .ok (.iload_n 1, 1) := db_X3_hearAll_0.2.2.1
theorem dX3_hearAll_3 : decode cX3_hearAll 3 = .ok (.iconst 5, 1) := db_X3_hearAll_0.2.2.2.1
theorem dX3_hearAll_4 : decode cX3_hearAll 4 = .ok (.if_icmp .ge 29, 3) := db_X3_hearAll_0.2.2.2.2.1
theorem dX3_hearAll_7 : decode cX3_hearAll 7 = .ok (.aload_n 0, 1) := db_X3_hearAll_0.2.2.2.2.2.1
theorem dX3_hearAll_8 : decode cX3_hearAll 8 = .ok (.getfield 16, 3) := db_X3_hearAll_0.2.2.2.2.2.2.1
theorem dX3_hearAll_11 : decode cX3_hearAll 11 = .ok (.iload_n 1, 1) := db_X3_hearAll_0.2.2.2.2.2.2.2.1
theorem dX3_hearAll_12 : decode cX3_hearAll 12 = .ok (.iconst 1, 1) := db_X3_hearAll_0.2.2.2.2.2.2.2.2.1
theorem dX3_hearAll_13 : decode cX3_hearAll 13 = .ok (.bastore, 1) := db_X3_hearAll_0.2.2.2.2.2.2.2.2.2.1
theorem dX3_hearAll_14 : decode cX3_hearAll 14 = .ok (.aload_n 0, 1) := db_X3_hearAll_0.2.2.2.2.2.2.2.2.2.2.1
theorem dX3_hearAll_15 : decode cX3_hearAll 15 = .ok (.getfield 20, 3) := db_X3_hearAll_0.2.2.2.2.2.2.2.2.2.2.2.1
theorem dX3_hearAll_18 : decode cX3_hearAll 18 = .ok (.iload_n 1, 1) := db_X3_hearAll_0.2.2.2.2.2.2.2.2.2.2.2.2.1
theorem dX3_hearAll_19 : decode cX3_hearAll 19 = .ok (.aload_n 0, 1) := db_X3_hearAll_0.2.2.2.2.2.2.2.2.2.2.2.2.2.1
theorem dX3_hearAll_20 : decode cX3_hearAll 20 = .ok (.getfield 24, 3) := db_X3_hearAll_0.2.2.2.2.2.2.2.2.2.2.2.2.2.2.1
theorem dX3_hearAll_23 : decode cX3_hearAll 23 = .ok (.getfield 56, 3) := db_X3_hearAll_0.2.2.2.2.2.2.2.2.2.2.2.2.2.2.2
theorem db_X3_hearAll_26 : decode cX3_hearAll 26 = .ok (.iastore, 1) ∧ decode cX3_hearAll 27 = .ok (.iinc 1 1, 3) ∧ decode cX3_hearAll 30 = .ok (.goto (-28), 3) ∧ decode cX3_hearAll 33 = .ok (.return_, 1) := by decide +kernel
theorem dX3_hearAll_26 : decode cX3_hearAll 26 = .ok (.iastore, 1) := db_X3_hearAll_26.1
theorem dX3_hearAll_27 : decode cX3_hearAll 27 = .ok (.iinc 1 1, 3) := db_X3_hearAll_26.2.1
theorem dX3_hearAll_30 : decode cX3_hearAll 30 = .ok (.goto (-28), 3) := db_X3_hearAll_26.2.2.1
theorem dX3_hearAll_33 : decode cX3_hearAll 33 = .ok (.return_, 1) := db_X3_hearAll_26.2.2.2
theorem db_X3_flush_0 : decode cX3_flush 0 = .ok (.aload_n 0, 1) ∧ decode cX3_flush 1 = .ok (.getfield 33, 3) ∧ decode cX3_flush 4 = .ok (.invokevirtual 60, 3) ∧ decode cX3_flush 7 = .ok (.iconst 0, 1) ∧ decode cX3_flush 8 = .ok (.istore_n 1, 1) ∧ decode cX3_flush 9 = .ok (.iload_n 1, 1) ∧ decode cX3_flush 10 = .ok (.aload_n 0, 1) ∧ decode cX3_flush 11 = .ok (.getfield 24, 3) ∧ decode cX3_flush 14 = .ok (.getfield 63, 3) ∧ decode cX3_flush 17 = .ok (.if_icmp .ge 33, 3) ∧ decode cX3_flush 20 = .ok (.aload_n 0, 1) ∧ decode cX3_flush 21 = .ok (.getfield 11, 3) ∧ decode cX3_flush 24 = .ok (.iload_n 1, 1) ∧ decode cX3_flush 25 = .ok (.aaload, 1) ∧ decode cX3_flush 26 = .ok (.astore_n 2, 1) ∧ decode cX3_flush 27 = .ok (.aload_n 0, 1) := by decide +kernel
theorem dX3_flush_0 : decode cX3_flush 0 = .ok (.aload_n 0, 1) := db_X3_flush_0.1
theorem dX3_flush_1 : decode cX3_flush 1 = .ok (.getfield 33, 3) := db_X3_flush_0.2.1
theorem dX3_flush_4 : decode cX3_flush 4 = .ok (.invokevirtual 60, 3) := db_X3_flush_0.2.2.1
theorem dX3_flush_7 : decode cX3_flush 7 = .ok (.iconst 0, 1) := db_X3_flush_0.2.2.2.1
theorem dX3_flush_8 : decode cX3_flush 8 = .ok (.istore_n 1, 1) := db_X3_flush_0.2.2.2.2.1
theorem dX3_flush_9 : decode cX3_flush 9 = .ok (.iload_n 1, 1) := db_X3_flush_0.2.2.2.2.2.1
theorem dX3_flush_10 : decode cX3_flush 10 = .ok (.aload_n 0, 1) := db_X3_flush_0.2.2.2.2.2.2.1
theorem dX3_flush_11 : decode cX3_flush 11 = .ok (.getfield 24, 3) := db_X3_flush_0.2.2.2.2.2.2.2.1
theorem dX3_flush_14 : decode cX3_flush 14 = .ok (.getfield 63, 3) := db_X3_flush_0.2.2.2.2.2.2.2.2.1
theorem dX3_flush_17 : decode cX3_flush 17 = .ok (.if_icmp .ge 33, 3) := db_X3_flush_0.2.2.2.2.2.2.2.2.2.1
theorem dX3_flush_20 : decode cX3_flush 20 = .ok (.aload_n 0, 1) := db_X3_flush_0.2.2.2.2.2.2.2.2.2.2.1
theorem dX3_flush_21 : decode cX3_flush 21 = .ok (.getfield 11, 3) := db_X3_flush_0.2.2.2.2.2.2.2.2.2.2.2.1
theorem dX3_flush_24 : decode cX3_flush 24 = .ok (.iload_n 1, 1) := db_X3_flush_0.2.2.2.2.2.2.2.2.2.2.2.2.1
theorem dX3_flush_25 : decode cX3_flush 25 = .ok (.aaload, 1) := db_X3_flush_0.2.2.2.2.2.2.2.2.2.2.2.2.2.1
theorem dX3_flush_26 : decode cX3_flush 26 = .ok (.astore_n 2, 1) := db_X3_flush_0.2.2.2.2.2.2.2.2.2.2.2.2.2.2.1
theorem dX3_flush_27 : decode cX3_flush 27 = .ok (.aload_n 0, 1) := db_X3_flush_0.2.2.2.2.2.2.2.2.2.2.2.2.2.2.2
theorem db_X3_flush_28 : decode cX3_flush 28 = .ok (.iload_n 1, 1) ∧ decode cX3_flush 29 = .ok (.aload_n 2, 1) ∧ decode cX3_flush 30 = .ok (.iconst 0, 1) ∧ decode cX3_flush 31 = .ok (.iaload, 1) ∧ decode cX3_flush 32 = .ok (.aload_n 2, 1) ∧ decode cX3_flush 33 = .ok (.iconst 1, 1) ∧ decode cX3_flush 34 = .ok (.iaload, 1) ∧ decode cX3_flush 35 = .ok (.aload_n 2, 1) ∧ decode cX3_flush 36 = .ok (.iconst 2, 1) ∧ decode cX3_flush 37 = .ok (.iaload, 1) ∧ decode cX3_flush 38 = .ok (.aload_n 2, 1) ∧ decode cX3_flush 39 = .ok (.iconst 3, 1) ∧ decode cX3_flush 40 = .ok (.iaload, 1) ∧ decode cX3_flush 41 = .ok (.invokevirtual 66, 3) ∧ decode cX3_flush 44 = .ok (.iinc 1 1, 3) ∧ decode cX3_flush 47 = .ok (.goto (-38), 3) := by decide +kernel
theorem dX3_flush_28 : decode cX3_flush 28 = .ok (.iload_n 1, 1) := db_X3_flush_28.1
theorem dX3_flush_29 : decode cX3_flush 29 = .ok (.aload_n 2, 1) := db_X3_flush_28.2.1
theorem dX3_flush_30 : decode cX3_flush 30 = .ok (.iconst 0, 1) := db_X3_flush_28.2.2.1
theorem dX3_flush_31 : decode cX3_flush 31 = .ok (.iaload, 1) := db_X3_flush_28.2.2.2.1
theorem dX3_flush_32 : decode cX3_flush 32 = .ok (.aload_n 2, 1) := db_X3_flush_28.2.2.2.2.1
theorem dX3_flush_33 : decode cX3_flush 33 = .ok (.iconst 1, 1) := db_X3_flush_28.2.2.2.2.2.1
theorem dX3_flush_34 : decode cX3_flush 34 = .ok (.iaload, 1) := db_X3_flush_28.2.2.2.2.2.2.1
theorem dX3_flush_35 : decode cX3_flush 35 = .ok (.aload_n 2, 1) := db_X3_flush_28.2.2.2.2.2.2.2.1
theorem dX3_flush_36 : decode cX3_flush 36 = .ok (.iconst 2, 1) := db_X3_flush_28.2.2.2.2.2.2.2.2.1
theorem dX3_flush_37 : decode cX3_flush 37 = .ok (.iaload, 1) := db_X3_flush_28.2.2.2.2.2.2.2.2.2.1
theorem dX3_flush_38 : decode cX3_flush 38 = .ok (.aload_n 2, 1) := db_X3_flush_28.2.2.2.2.2.2.2.2.2.2.1
theorem dX3_flush_39 : decode cX3_flush 39 = .ok (.iconst 3, 1) := db_X3_flush_28.2.2.2.2.2.2.2.2.2.2.2.1
theorem dX3_flush_40 : decode cX3_flush 40 = .ok (.iaload, 1) := db_X3_flush_28.2.2.2.2.2.2.2.2.2.2.2.2.1
theorem dX3_flush_41 : decode cX3_flush 41 = .ok (.invokevirtual 66, 3) := db_X3_flush_28.2.2.2.2.2.2.2.2.2.2.2.2.2.1
theorem dX3_flush_44 : decode cX3_flush 44 = .ok (.iinc 1 1, 3) := db_X3_flush_28.2.2.2.2.2.2.2.2.2.2.2.2.2.2.1
theorem dX3_flush_47 : decode cX3_flush 47 = .ok (.goto (-38), 3) := db_X3_flush_28.2.2.2.2.2.2.2.2.2.2.2.2.2.2.2
theorem db_X3_flush_50 : decode cX3_flush 50 = .ok (.aload_n 0, 1) ∧ decode cX3_flush 51 = .ok (.getfield 33, 3) ∧ decode cX3_flush 54 = .ok (.invokevirtual 70, 3) ∧ decode cX3_flush 57 = .ok (.return_, 1) := by decide +kernel
theorem dX3_flush_50 : decode cX3_flush 50 = .ok (.aload_n 0, 1) := db_X3_flush_50.1
theorem dX3_flush_51 : decode cX3_flush 51 = .ok (.getfield 33, 3) := db_X3_flush_50.2.1
theorem dX3_flush_54 : decode cX3_flush 54 = .ok (.invokevirtual 70, 3) := db_X3_flush_50.2.2.1
theorem dX3_flush_57 : decode cX3_flush 57 = .ok (.return_, 1) := db_X3_flush_50.2.2.2
theorem db_X3_addView_0 : decode cX3_addView 0 = .ok (.aload_n 0, 1) ∧ decode cX3_addView 1 = .ok (.getfield 33, 3) ∧ decode cX3_addView 4 = .ok (.bipush 7, 2) ∧ decode cX3_addView 6 = .ok (.invokevirtual 73, 3) ∧ decode cX3_addView 9 = .ok (.aload_n 0, 1) ∧ decode cX3_addView 10 = .ok (.getfield 33, 3) ∧ decode cX3_addView 13 = .ok (.iload_n 1, 1) ∧ decode cX3_addView 14 = .ok (.invokevirtual 77, 3) ∧ decode cX3_addView 17 = .ok (.aload_n 0, 1) ∧ decode cX3_addView 18 = .ok (.getfield 33, 3) ∧ decode cX3_addView 21 = .ok (.iload_n 2, 1) ∧ decode cX3_addView 22 = .ok (.invokevirtual 80, 3) ∧ decode cX3_addView 25 = .ok (.aload_n 0, 1) ∧ decode cX3_addView 26 = .ok (.getfield 33, 3) ∧ decode cX3_addView 29 = .ok (.iload_n 3, 1) ∧ decode cX3_addView 30 = .ok (.invokevirtual 77, 3) := by decide +kernel
theorem dX3_addView_0 : decode cX3_addView 0 = .ok (.aload_n 0, 1) := db_X3_addView_0.1
theorem dX3_addView_1 : decode cX3_addView 1 = .ok (.getfield 33, 3) := db_X3_addView_0.2.1
theorem dX3_addView_4 : decode cX3_addView 4 = .ok (.bipush 7, 2) := db_X3_addView_0.2.2.1
theorem dX3_addView_6 : decode cX3_addView 6 = .ok (.invokevirtual 73, 3) := db_X3_addView_0.2.2.2.1
theorem dX3_addView_9 : decode cX3_addView 9 = .ok (.aload_n 0, 1) := db_X3_addView_0.2.2.2.2.1
theorem dX3_addView_10 : decode cX3_addView 10 = .ok (.getfield 33, 3) := db_X3_addView_0.2.2.2.2.2.1
theorem dX3_addView_13 : decode cX3_addView 13 = .ok (.iload_n 1, 1) := db_X3_addView_0.2.2.2.2.2.2.1
theorem dX3_addView_14 : decode cX3_addView 14 = .ok (.invokevirtual 77, 3) := db_X3_addView_0.2.2.2.2.2.2.2.1
theorem dX3_addView_17 : decode cX3_addView 17 = .ok (.aload_n 0, 1) := db_X3_addView_0.2.2.2.2.2.2.2.2.1
theorem dX3_addView_18 : decode cX3_addView 18 = .ok (.getfield 33, 3) := db_X3_addView_0.2.2.2.2.2.2.2.2.2.1
theorem dX3_addView_21 : decode cX3_addView 21 = .ok (.iload_n 2, 1) := db_X3_addView_0.2.2.2.2.2.2.2.2.2.2.1
theorem dX3_addView_22 : decode cX3_addView 22 = .ok (.invokevirtual 80, 3) := db_X3_addView_0.2.2.2.2.2.2.2.2.2.2.2.1
theorem dX3_addView_25 : decode cX3_addView 25 = .ok (.aload_n 0, 1) := db_X3_addView_0.2.2.2.2.2.2.2.2.2.2.2.2.1
theorem dX3_addView_26 : decode cX3_addView 26 = .ok (.getfield 33, 3) := db_X3_addView_0.2.2.2.2.2.2.2.2.2.2.2.2.2.1
theorem dX3_addView_29 : decode cX3_addView 29 = .ok (.iload_n 3, 1) := db_X3_addView_0.2.2.2.2.2.2.2.2.2.2.2.2.2.2.1
theorem dX3_addView_30 : decode cX3_addView 30 = .ok (.invokevirtual 77, 3) := db_X3_addView_0.2.2.2.2.2.2.2.2.2.2.2.2.2.2.2
theorem db_X3_addView_33 : decode cX3_addView 33 = .ok (.aload_n 0, 1) ∧ decode cX3_addView 34 = .ok (.getfield 33, 3) ∧ decode cX3_addView 37 = .ok (.iload 4, 2) ∧ decode cX3_addView 39 = .ok (.invokevirtual 77, 3) ∧ decode cX3_addView 42 = .ok (.aload_n 0, 1) ∧ decode cX3_addView 43 = .ok (.getfield 33, 3) ∧ decode cX3_addView 46 = .ok (.iload 5, 2) ∧ decode cX3_addView 48 = .ok (.invokevirtual 80, 3) ∧ decode cX3_addView 51 = .ok (.aload_n 0, 1) ∧ decode cX3_addView 52 = .ok (.getfield 33, 3) ∧ decode cX3_addView 55 = .ok (.invokevirtual 83, 3) ∧ decode cX3_addView 58 = .ok (.return_, 1) := by decide +kernel
theorem dX3_addView_33 : decode cX3_addView 33 = .ok (.aload_n 0, 1) := db_X3_addView_33.1
theorem dX3_addView_34 : decode cX3_addView 34 = .ok (.getfield 33, 3) := db_X3_addView_33.2.1
theorem dX3_addView_37 : decode cX3_addView 37 = .ok (.iload 4, 2) := db_X3_addView_33.2.2.1
theorem dX3_addView_39 : decode cX3_addView 39 = .ok (.invokevirtual 77, 3) := db_X3_addView_33.2.2.2.1
theorem dX3_addView_42 : decode cX3_addView 42 = .ok (.aload_n 0, 1) := db_X3_addView_33.2.2.2.2.1
theorem dX3_addView_43 : decode cX3_addView 43 = .ok (.getfield 33, 3) := db_X3_addView_33.2.2.2.2.2.1
theorem dX3_addView_46 : decode cX3_addView 46 = .ok (.iload 5, 2) := db_X3_addView_33.2.2.2.2.2.2.1
theorem dX3_addView_48 : decode cX3_addView 48 = .ok (.invokevirtual 80, 3) := db_X3_addView_33.2.2.2.2.2.2.2.1
theorem dX3_addView_51 : decode cX3_addView 51 = .ok (.aload_n 0, 1) := db_X3_addView_33.2.2.2.2.2.2.2.2.1
theorem dX3_addView_52 : decode cX3_addView 52 = .ok (.getfield 33, 3) := db_X3_addView_33.2.2.2.2.2.2.2.2.2.1
theorem dX3_addView_55 : decode cX3_addView 55 = .ok (.invokevirtual 83, 3) := db_X3_addView_33.2.2.2.2.2.2.2.2.2.2.1
theorem dX3_addView_58 : decode cX3_addView 58 = .ok (.return_, 1) := db_X3_addView_33.2.2.2.2.2.2.2.2.2.2.2
theorem db_X3_isAlive_0 : decode cX3_isAlive 0 = .ok (.iload_n 1, 1) ∧ decode cX3_isAlive 1 = .ok (.ifCond .lt 27, 3) ∧ decode cX3_isAlive 4 = .ok (.iload_n 1, 1) ∧ decode cX3_isAlive 5 = .ok (.aload_n 0, 1) ∧ decode cX3_isAlive 6 = .ok (.getfield 24, 3) ∧ decode cX3_isAlive 9 = .ok (.getfield 111, 3) ∧ decode cX3_isAlive 12 = .ok (.if_icmp .ge 16, 3) ∧ decode cX3_isAlive 15 = .ok (.aload_n 0, 1) ∧ decode cX3_isAlive 16 = .ok (.getfield 16, 3) ∧ decode cX3_isAlive 19 = .ok (.iload_n 1, 1) ∧ decode cX3_isAlive 20 = .ok (.baload, 1) ∧ decode cX3_isAlive 21 = .ok (.ifCond .eq 7, 3) ∧ decode cX3_isAlive 24 = .ok (.iconst 1, 1) ∧ decode cX3_isAlive 25 = .ok (.goto 4, 3) ∧ decode cX3_isAlive 29 = .ok (.ireturn, 1) := by decide +kernel
theorem dX3_isAlive_0 : decode cX3_isAlive 0 = .ok (.iload_n 1, 1) := db_X3_isAlive_0.1
theorem dX3_isAlive_1 : decode cX3_isAlive 1 = .ok (.ifCond .lt 27, 3) := db_X3_isAlive_0.2.1
theorem dX3_isAlive_4 : decode cX3_isAlive 4 = .ok (.iload_n 1, 1) := db_X3_isAlive_0.2.2.1
theorem dX3_isAlive_5 : decode cX3_isAlive 5 = .ok (.aload_n 0, 1) := db_X3_isAlive_0.2.2.2.1
theorem dX3_isAlive_6 : decode cX3_isAlive 6 = .ok (.getfield 24, 3) := db_X3_isAlive_0.2.2.2.2.1
theorem dX3_isAlive_9 : decode cX3_isAlive 9 = .ok (.getfield 111, 3) := db_X3_isAlive_0.2.2.2.2.2.1
theorem dX3_isAlive_12 : decode cX3_isAlive 12 = .ok (.if_icmp .ge 16, 3) := db_X3_isAlive_0.2.2.2.2.2.2.1
theorem dX3_isAlive_15 : decode cX3_isAlive 15 = .ok (.aload_n 0, 1) := db_X3_isAlive_0.2.2.2.2.2.2.2.1
theorem dX3_isAlive_16 : decode cX3_isAlive 16 = .ok (.getfield 16, 3) := db_X3_isAlive_0.2.2.2.2.2.2.2.2.1
theorem dX3_isAlive_19 : decode cX3_isAlive 19 = .ok (.iload_n 1, 1) := db_X3_isAlive_0.2.2.2.2.2.2.2.2.2.1
theorem dX3_isAlive_20 : decode cX3_isAlive 20 = .ok (.baload, 1) := db_X3_isAlive_0.2.2.2.2.2.2.2.2.2.2.1
theorem dX3_isAlive_21 : decode cX3_isAlive 21 = .ok (.ifCond .eq 7, 3) := db_X3_isAlive_0.2.2.2.2.2.2.2.2.2.2.2.1
theorem dX3_isAlive_24 : decode cX3_isAlive 24 = .ok (.iconst 1, 1) := db_X3_isAlive_0.2.2.2.2.2.2.2.2.2.2.2.2.1
theorem dX3_isAlive_25 : decode cX3_isAlive 25 = .ok (.goto 4, 3) := db_X3_isAlive_0.2.2.2.2.2.2.2.2.2.2.2.2.2.1
theorem dX3_isAlive_29 : decode cX3_isAlive 29 = .ok (.ireturn, 1) := db_X3_isAlive_0.2.2.2.2.2.2.2.2.2.2.2.2.2.2
theorem db_X3_isInMask_0 : decode cX3_isInMask 0 = .ok (.aload_n 0, 1) ∧ decode cX3_isInMask 1 = .ok (.getfield 11, 3) ∧ decode cX3_isInMask 4 = .ok (.iload_n 1, 1) ∧ decode cX3_isInMask 5 = .ok (.aaload, 1) ∧ decode cX3_isInMask 6 = .ok (.iconst 2, 1) ∧ decode cX3_isInMask 7 = .ok (.iaload, 1) ∧ decode cX3_isInMask 8 = .ok (.iload_n 2, 1) ∧ decode cX3_isInMask 9 = .ok (.ishr, 1) ∧ decode cX3_isInMask 10 = .ok (.iconst 1, 1) ∧ decode cX3_isInMask 11 = .ok (.iand, 1) ∧ decode cX3_isInMask 12 = .ok (.iconst 1, 1) ∧ decode cX3_isInMask 13 = .ok (.if_icmp .ne 7, 3) ∧ decode cX3_isInMask 16 = .ok (.iconst 1, 1) ∧ decode cX3_isInMask 17 = .ok (.goto 4, 3) ∧ decode cX3_isInMask 20 = .ok (.iconst 0, 1) ∧ decode cX3_isInMask 21 = .ok (.ireturn, 1) := by decide +kernel
theorem dX3_isInMask_0 : decode cX3_isInMask 0 = .ok (.aload_n 0, 1) := db_X3_isInMask_0.1
theorem dX3_isInMask_1 : decode cX3_isInMask 1 = .ok (.getfield 11, 3) := db_X3_isInMask_0.2.1
theorem dX3_isInMask_4 : decode cX3_isInMask 4 = .ok (.iload_n 1, 1) := db_X3_isInMask_0.2.2.1
theorem dX3_isInMask_5 : decode cX3_isInMask 5 = .ok (.aaload, 1) := db_X3_isInMask_0.2.2.2.1
theorem dX3_isInMask_6 : decode cX3_isInMask 6 = .ok (.iconst 2, 1) := db_X3_isInMask_0.2.2.2.2.1
theorem dX3_isInMask_7 : decode cX3_isInMask 7 = .ok (.iaload, 1) := db_X3_isInMask_0.2.2.2.2.2.1
theorem dX3_isInMask_8 : decode cX3_isInMask 8 = .ok (.iload_n 2, 1) := db_X3_isInMask_0.2.2.2.2.2.2.1
theorem dX3_isInMask_9 : decode cX3_isInMask 9 = .ok (.ishr, 1) := db_X3_isInMask_0.2.2.2.2.2.2.2.1
theorem dX3_isInMask_10 : decode cX3_isInMask 10 = .ok (.iconst 1, 1) := db_X3_isInMask_0.2.2.2.2.2.2.2.2.1
theorem dX3_isInMask_11 : decode cX3_isInMask 11 = .ok (.iand, 1) := db_X3_isInMask_0.2.2.2.2.2.2.2.2.2.1
theorem dX3_isInMask_12 : decode cX3_isInMask 12 = .ok (.iconst 1, 1) := db_X3_isInMask_0.2.2.2.2.2.2.2.2.2.2.1
theorem dX3_isInMask_13 : decode cX3_isInMask 13 = .ok (.if_icmp .ne 7, 3) := db_X3_isInMask_0.2.2.2.2.2.2.2.2.2.2.2.1
theorem dX3_isInMask_16 : decode cX3_isInMask 16 = .ok (.iconst 1, 1) := db_X3_isInMask_0.2.2.2.2.2.2.2.2.2.2.2.2.1
theorem dX3_isInMask_17 : decode cX3_isInMask 17 = .ok (.goto 4, 3) := db_X3_isInMask_0.2.2.2.2.2.2.2.2.2.2.2.2.2.1
theorem dX3_isInMask_20 : decode cX3_isInMask 20 = .ok (.iconst 0, 1) := db_X3_isInMask_0.2.2.2.2.2.2.2.2.2.2.2.2.2.2.1
theorem dX3_isInMask_21 : decode cX3_isInMask 21 = .ok (.ireturn, 1) := db_X3_isInMask_0.2.2.2.2.2.2.2.2.2.2.2.2.2.2.2
theorem db_X3_onSign_0 : decode cX3_onSign 0 = .ok (.iload_n 1, 1) ∧ decode cX3_onSign 1 = .ok (.ifCond .lt 14, 3) ∧ decode cX3_onSign 4 = .ok (.iload_n 1, 1) ∧ decode cX3_onSign 5 = .ok (.aload_n 0, 1) ∧ decode cX3_onSign 6 = .ok (.getfield 24, 3) ∧ decode cX3_onSign 9 = .ok (.getfield 111, 3) ∧ decode cX3_onSign 12 = .ok (.if_icmp .lt 4, 3) ∧ decode cX3_onSign 16 = .ok (.aload_n 0, 1) ∧ decode cX3_onSign 17 = .ok (.getfield 16, 3) ∧ decode cX3_onSign 20 = .ok (.iload_n 1, 1) ∧ decode cX3_onSign 21 = .ok (.iconst 1, 1) ∧ decode cX3_onSign 22 = .ok (.bastore, 1) ∧ decode cX3_onSign 23 = .ok (.aload_n 0, 1) ∧ decode cX3_onSign 24 = .ok (.getfield 20, 3) ∧ decode cX3_onSign 27 = .ok (.iload_n 1, 1) ∧ decode cX3_onSign 28 = .ok (.aload_n 0, 1) := by decide +kernel
theorem dX3_onSign_0 : decode cX3_onSign 0 = .ok (.iload_n 1, 1) := db_X3_onSign_0.1
theorem dX3_onSign_1 : decode cX3_onSign 1 = .ok (.ifCond .lt 14, 3) := db_X3_onSign_0.2.1
theorem dX3_onSign_4 : decode cX3_onSign 4 = .ok (.iload_n 1, 1) := db_X3_onSign_0.2.2.1
theorem dX3_onSign_5 : decode cX3_onSign 5 = .ok (.aload_n 0, 1) := db_X3_onSign_0.2.2.2.1
theorem dX3_onSign_6 : decode cX3_onSign 6 = .ok (.getfield 24, 3) := db_X3_onSign_0.2.2.2.2.1
theorem dX3_onSign_9 : decode cX3_onSign 9 = .ok (.getfield 111, 3) := db_X3_onSign_0.2.2.2.2.2.1
theorem dX3_onSign_12 : decode cX3_onSign 12 = .ok (.if_icmp .lt 4, 3) := db_X3_onSign_0.2.2.2.2.2.2.1
theorem dX3_onSign_16 : decode cX3_onSign 16 = .ok (.aload_n 0, 1) := db_X3_onSign_0.2.2.2.2.2.2.2.1
theorem dX3_onSign_17 : decode cX3_onSign 17 = .ok (.getfield 16, 3) := db_X3_onSign_0.2.2.2.2.2.2.2.2.1
theorem dX3_onSign_20 : decode cX3_onSign 20 = .ok (.iload_n 1, 1) := db_X3_onSign_0.2.2.2.2.2.2.2.2.2.1
theorem dX3_onSign_21 : decode cX3_onSign 21 = .ok (.iconst 1, 1) := db_X3_onSign_0.2.2.2.2.2.2.2.2.2.2.1
theorem dX3_onSign_22 : decode cX3_onSign 22 = .ok (.bastore, 1) := db_X3_onSign_0.2.2.2.2.2.2.2.2.2.2.2.1
theorem dX3_onSign_23 : decode cX3_onSign 23 = .ok (.aload_n 0, 1) := db_X3_onSign_0.2.2.2.2.2.2.2.2.2.2.2.2.1
theorem dX3_onSign_24 : decode cX3_onSign 24 = .ok (.getfield 20, 3) := db_X3_onSign_0.2.2.2.2.2.2.2.2.2.2.2.2.2.1
theorem dX3_onSign_27 : decode cX3_onSign 27 = .ok (.iload_n 1, 1) := db_X3_onSign_0.2.2.2.2.2.2.2.2.2.2.2.2.2.2.1
theorem dX3_onSign_28 : decode cX3_onSign 28 = .ok (.aload_n 0, 1) := db_X3_onSign_0.2.2.2.2.2.2.2.2.2.2.2.2.2.2.2
theorem db_X3_onSign_29 : decode cX3_onSign 29 = .ok (.getfield 24, 3) ∧ decode cX3_onSign 32 = .ok (.getfield 56, 3) ∧ decode cX3_onSign 35 = .ok (.iastore, 1) ∧ decode cX3_onSign 36 = .ok (.iconst 0, 1) ∧ decode cX3_onSign 37 = .ok (.istore_n 3, 1) ∧ decode cX3_onSign 38 = .ok (.iconst 0, 1) ∧ decode cX3_onSign 39 = .ok (.istore 4, 2) ∧ decode cX3_onSign 41 = .ok (.iload 4, 2) ∧ decode cX3_onSign 43 = .ok (.aload_n 0, 1) ∧ decode cX3_onSign 44 = .ok (.getfield 24, 3) ∧ decode cX3_onSign 47 = .ok (.getfield 63, 3) ∧ decode cX3_onSign 50 = .ok (.if_icmp .ge 48, 3) ∧ decode cX3_onSign 53 = .ok (.aload_n 0, 1) ∧ decode cX3_onSign 54 = .ok (.iload 4, 2) ∧ decode cX3_onSign 56 = .ok (.iload_n 1, 1) ∧ decode cX3_onSign 57 = .ok (.invokevirtual 136, 3) := by decide +kernel
theorem dX3_onSign_29 : decode cX3_onSign 29 = .ok (.getfield 24, 3) := db_X3_onSign_29.1
theorem dX3_onSign_32 : decode cX3_onSign 32 = .ok (.getfield 56, 3) := db_X3_onSign_29.2.1
theorem dX3_onSign_35 : decode cX3_onSign 35 = .ok (.iastore, 1) := db_X3_onSign_29.2.2.1
theorem dX3_onSign_36 : decode cX3_onSign 36 = .ok (.iconst 0, 1) := db_X3_onSign_29.2.2.2.1
theorem dX3_onSign_37 : decode cX3_onSign 37 = .ok (.istore_n 3, 1) := db_X3_onSign_29.2.2.2.2.1
theorem dX3_onSign_38 : decode cX3_onSign 38 = .ok (.iconst 0, 1) := db_X3_onSign_29.2.2.2.2.2.1
theorem dX3_onSign_39 : decode cX3_onSign 39 = .ok (.istore 4, 2) := db_X3_onSign_29.2.2.2.2.2.2.1
theorem dX3_onSign_41 : decode cX3_onSign 41 = .ok (.iload 4, 2) := db_X3_onSign_29.2.2.2.2.2.2.2.1
theorem dX3_onSign_43 : decode cX3_onSign 43 = .ok (.aload_n 0, 1) := db_X3_onSign_29.2.2.2.2.2.2.2.2.1
theorem dX3_onSign_44 : decode cX3_onSign 44 = .ok (.getfield 24, 3) := db_X3_onSign_29.2.2.2.2.2.2.2.2.2.1
theorem dX3_onSign_47 : decode cX3_onSign 47 = .ok (.getfield 63, 3) := db_X3_onSign_29.2.2.2.2.2.2.2.2.2.2.1
theorem dX3_onSign_50 : decode cX3_onSign 50 = .ok (.if_icmp .ge 48, 3) := db_X3_onSign_29.2.2.2.2.2.2.2.2.2.2.2.1
theorem dX3_onSign_53 : decode cX3_onSign 53 = .ok (.aload_n 0, 1) := db_X3_onSign_29.2.2.2.2.2.2.2.2.2.2.2.2.1
theorem dX3_onSign_54 : decode cX3_onSign 54 = .ok (.iload 4, 2) := db_X3_onSign_29.2.2.2.2.2.2.2.2.2.2.2.2.2.1
theorem dX3_onSign_56 : decode cX3_onSign 56 = .ok (.iload_n 1, 1) := db_X3_onSign_29.2.2.2.2.2.2.2.2.2.2.2.2.2.2.1
theorem dX3_onSign_57 : decode cX3_onSign 57 = .ok (.invokevirtual 136, 3) := db_X3_onSign_29.2.2.2.2.2.2.2.2.2.2.2.2.2.2.2
theorem db_X3_onSign_60 : decode cX3_onSign 60 = .ok (.ifCond .eq 32, 3) ∧ decode cX3_onSign 63 = .ok (.aload_n 0, 1) ∧ decode cX3_onSign 64 = .ok (.aload_n 0, 1) ∧ decode cX3_onSign 65 = .ok (.getfield 11, 3) ∧ decode cX3_onSign 68 = .ok (.iload 4, 2) ∧ decode cX3_onSign 70 = .ok (.aaload, 1) ∧ decode cX3_onSign 71 = .ok (.iconst 1, 1) ∧ decode cX3_onSign 72 = .ok (.iaload, 1) ∧ decode cX3_onSign 73 = .ok (.invokevirtual 139, 3) ∧ decode cX3_onSign 76 = .ok (.ifCond .ne 16, 3) ∧ decode cX3_onSign 92 = .ok (.iinc 4 1, 3) ∧ decode cX3_onSign 95 = .ok (.goto (-54), 3) ∧ decode cX3_onSign 98 = .ok (.iconst 0, 1) ∧ decode cX3_onSign 99 = .ok (.istore 4, 2) ∧ decode cX3_onSign 101 = .ok (.iload 4, 2) ∧ decode cX3_onSign 103 = .ok (.aload_n 0, 1) := by decide +kernel
theorem dX3_onSign_60 : decode cX3_onSign 60 = .ok (.ifCond .eq 32, 3) := db_X3_onSign_60.1
theorem dX3_onSign_63 : decode cX3_onSign 63 = .ok (.aload_n 0, 1) := db_X3_onSign_60.2.1
theorem dX3_onSign_64 : decode cX3_onSign 64 = .ok (.aload_n 0, 1) := db_X3_onSign_60.2.2.1
theorem dX3_onSign_65 : decode cX3_onSign 65 = .ok (.getfield 11, 3) := db_X3_onSign_60.2.2.2.1
theorem dX3_onSign_68 : decode cX3_onSign 68 = .ok (.iload 4, 2) := db_X3_onSign_60.2.2.2.2.1
theorem dX3_onSign_70 : decode cX3_onSign 70 = .ok (.aaload, 1) := db_X3_onSign_60.2.2.2.2.2.1
theorem dX3_onSign_71 : decode cX3_onSign 71 = .ok (.iconst 1, 1) := db_X3_onSign_60.2.2.2.2.2.2.1
theorem dX3_onSign_72 : decode cX3_onSign 72 = .ok (.iaload, 1) := db_X3_onSign_60.2.2.2.2.2.2.2.1
theorem dX3_onSign_73 : decode cX3_onSign 73 = .ok (.invokevirtual 139, 3) := db_X3_onSign_60.2.2.2.2.2.2.2.2.1
theorem dX3_onSign_76 : decode cX3_onSign 76 = .ok (.ifCond .ne 16, 3) := db_X3_onSign_60.2.2.2.2.2.2.2.2.2.1
theorem dX3_onSign_92 : decode cX3_onSign 92 = .ok (.iinc 4 1, 3) := db_X3_onSign_60.2.2.2.2.2.2.2.2.2.2.1
theorem dX3_onSign_95 : decode cX3_onSign 95 = .ok (.goto (-54), 3) := db_X3_onSign_60.2.2.2.2.2.2.2.2.2.2.2.1
theorem dX3_onSign_98 : decode cX3_onSign 98 = .ok (.iconst 0, 1) := db_X3_onSign_60.2.2.2.2.2.2.2.2.2.2.2.2.1
theorem dX3_onSign_99 : decode cX3_onSign 99 = .ok (.istore 4, 2) := db_X3_onSign_60.2.2.2.2.2.2.2.2.2.2.2.2.2.1
theorem dX3_onSign_101 : decode cX3_onSign 101 = .ok (.iload 4, 2) := db_X3_onSign_60.2.2.2.2.2.2.2.2.2.2.2.2.2.2.1
theorem dX3_onSign_103 : decode cX3_onSign 103 = .ok (.aload_n 0, 1) := db_X3_onSign_60.2.2.2.2.2.2.2.2.2.2.2.2.2.2.2
theorem db_X3_onSign_104 : decode cX3_onSign 104 = .ok (.getfield 24, 3) ∧ decode cX3_onSign 107 = .ok (.getfield 63, 3) ∧ decode cX3_onSign 110 = .ok (.if_icmp .ge 175, 3) ∧ decode cX3_onSign 113 = .ok (.aload_n 0, 1) ∧ decode cX3_onSign 114 = .ok (.getfield 24, 3) ∧ decode cX3_onSign 117 = .ok (.iload_n 1, 1) ∧ decode cX3_onSign 118 = .ok (.iload 4, 2) ∧ decode cX3_onSign 120 = .ok (.invokevirtual 114, 3) ∧ decode cX3_onSign 123 = .ok (.ifCond .eq 156, 3) ∧ decode cX3_onSign 126 = .ok (.iload_n 3, 1) ∧ decode cX3_onSign 127 = .ok (.iload 4, 2) ∧ decode cX3_onSign 129 = .ok (.ishr, 1) ∧ decode cX3_onSign 130 = .ok (.iconst 1, 1) ∧ decode cX3_onSign 131 = .ok (.iand, 1) ∧ decode cX3_onSign 132 = .ok (.iconst 1, 1) ∧ decode cX3_onSign 133 = .ok (.if_icmp .ne 6, 3) := by decide +kernel
theorem dX3_onSign_104 : decode cX3_onSign 104 = .ok (.getfield 24, 3) := db_X3_onSign_104.1
theorem dX3_onSign_107 : decode cX3_onSign 107 = .ok (.getfield 63, 3) := db_X3_onSign_104.2.1
theorem dX3_onSign_110 : decode cX3_onSign 110 = .ok (.if_icmp .ge 175, 3) := db_X3_onSign_104.2.2.1
theorem dX3_onSign_113 : decode cX3_onSign 113 = .ok (.aload_n 0, 1) := db_X3_onSign_104.2.2.2.1
theorem dX3_onSign_114 : decode cX3_onSign 114 = .ok (.getfield 24, 3) := db_X3_onSign_104.2.2.2.2.1
theorem dX3_onSign_117 : decode cX3_onSign 117 = .ok (.iload_n 1, 1) := db_X3_onSign_104.2.2.2.2.2.1
theorem dX3_onSign_118 : decode cX3_onSign 118 = .ok (.iload 4, 2) := db_X3_onSign_104.2.2.2.2.2.2.1
theorem dX3_onSign_120 : decode cX3_onSign 120 = .ok (.invokevirtual 114, 3) := db_X3_onSign_104.2.2.2.2.2.2.2.1
theorem dX3_onSign_123 : decode cX3_onSign 123 = .ok (.ifCond .eq 156, 3) := db_X3_onSign_104.2.2.2.2.2.2.2.2.1
theorem dX3_onSign_126 : decode cX3_onSign 126 = .ok (.iload_n 3, 1) := db_X3_onSign_104.2.2.2.2.2.2.2.2.2.1
theorem dX3_onSign_127 : decode cX3_onSign 127 = .ok (.iload 4, 2) := db_X3_onSign_104.2.2.2.2.2.2.2.2.2.2.1
theorem dX3_onSign_129 : decode cX3_onSign 129 = .ok (.ishr, 1) := db_X3_onSign_104.2.2.2.2.2.2.2.2.2.2.2.1
theorem dX3_onSign_130 : decode cX3_onSign 130 = .ok (.iconst 1, 1) := db_X3_onSign_104.2.2.2.2.2.2.2.2.2.2.2.2.1
theorem dX3_onSign_131 : decode cX3_onSign 131 = .ok (.iand, 1) := db_X3_onSign_104.2.2.2.2.2.2.2.2.2.2.2.2.2.1
theorem dX3_onSign_132 : decode cX3_onSign 132 = .ok (.iconst 1, 1) := db_X3_onSign_104.2.2.2.2.2.2.2.2.2.2.2.2.2.2.1
theorem dX3_onSign_133 : decode cX3_onSign 133 = .ok (.if_icmp .ne 6, 3) := db_X3_onSign_104.2.2.2.2.2.2.2.2.2.2.2.2.2.2.2
theorem db_X3_onSign_139 : decode cX3_onSign 139 = .ok (.aload_n 0, 1) ∧ decode cX3_onSign 140 = .ok (.getfield 11, 3) ∧ decode cX3_onSign 143 = .ok (.iload 4, 2) ∧ decode cX3_onSign 145 = .ok (.aaload, 1) ∧ decode cX3_onSign 146 = .ok (.iconst 1, 1) ∧ decode cX3_onSign 147 = .ok (.iaload, 1) ∧ decode cX3_onSign 148 = .ok (.iload_n 1, 1) ∧ decode cX3_onSign 149 = .ok (.if_icmp .ne 7, 3) ∧ decode cX3_onSign 152 = .ok (.iconst 1, 1) ∧ decode cX3_onSign 153 = .ok (.goto 4, 3) ∧ decode cX3_onSign 156 = .ok (.iconst 0, 1) ∧ decode cX3_onSign 157 = .ok (.istore 5, 2) ∧ decode cX3_onSign 159 = .ok (.aload_n 2, 1) ∧ decode cX3_onSign 160 = .ok (.getfield 142, 3) ∧ decode cX3_onSign 163 = .ok (.iconst 5, 1) ∧ decode cX3_onSign 164 = .ok (.iconst 2, 1) := by decide +kernel
theorem dX3_onSign_139 : decode cX3_onSign 139 = .ok (.aload_n 0, 1) := db_X3_onSign_139.1
theorem dX3_onSign_140 : decode cX3_onSign 140 = .ok (.getfield 11, 3) := db_X3_onSign_139.2.1
theorem dX3_onSign_143 : decode cX3_onSign 143 = .ok (.iload 4, 2) := db_X3_onSign_139.2.2.1
theorem dX3_onSign_145 : decode cX3_onSign 145 = .ok (.aaload, 1) := db_X3_onSign_139.2.2.2.1
theorem dX3_onSign_146 : decode cX3_onSign 146 = .ok (.iconst 1, 1) := db_X3_onSign_139.2.2.2.2.1
theorem dX3_onSign_147 : decode cX3_onSign 147 = .ok (.iaload, 1) := db_X3_onSign_139.2.2.2.2.2.1
theorem dX3_onSign_148 : decode cX3_onSign 148 = .ok (.iload_n 1, 1) := db_X3_onSign_139.2.2.2.2.2.2.1
theorem dX3_onSign_149 : decode cX3_onSign 149 = .ok (.if_icmp .ne 7, 3) := db_X3_onSign_139.2.2.2.2.2.2.2.1
theorem dX3_onSign_152 : decode cX3_onSign 152 = .ok (.iconst 1, 1) := db_X3_onSign_139.2.2.2.2.2.2.2.2.1
theorem dX3_onSign_153 : decode cX3_onSign 153 = .ok (.goto 4, 3) := db_X3_onSign_139.2.2.2.2.2.2.2.2.2.1
theorem dX3_onSign_156 : decode cX3_onSign 156 = .ok (.iconst 0, 1) := db_X3_onSign_139.2.2.2.2.2.2.2.2.2.2.1
theorem dX3_onSign_157 : decode cX3_onSign 157 = .ok (.istore 5, 2) := db_X3_onSign_139.2.2.2.2.2.2.2.2.2.2.2.1
theorem dX3_onSign_159 : decode cX3_onSign 159 = .ok (.aload_n 2, 1) := db_X3_onSign_139.2.2.2.2.2.2.2.2.2.2.2.2.1
theorem dX3_onSign_160 : decode cX3_onSign 160 = .ok (.getfield 142, 3) := db_X3_onSign_139.2.2.2.2.2.2.2.2.2.2.2.2.2.1
theorem dX3_onSign_163 : decode cX3_onSign 163 = .ok (.iconst 5, 1) := db_X3_onSign_139.2.2.2.2.2.2.2.2.2.2.2.2.2.2.1
theorem dX3_onSign_164 : decode cX3_onSign 164 = .ok (.iconst 2, 1) := db_X3_onSign_139.2.2.2.2.2.2.2.2.2.2.2.2.2.2.2
theorem db_X3_onSign_165 : decode cX3_onSign 165 = .ok (.iload 4, 2) ∧ decode cX3_onSign 167 = .ok (.imul, 1) ∧ decode cX3_onSign 168 = .ok (.iadd, 1) ∧ decode cX3_onSign 169 = .ok (.iaload, 1) ∧ decode cX3_onSign 170 = .ok (.istore 6, 2) ∧ decode cX3_onSign 172 = .ok (.aload_n 2, 1) ∧ decode cX3_onSign 173 = .ok (.getfield 142, 3) ∧ decode cX3_onSign 176 = .ok (.iconst 5, 1) ∧ decode cX3_onSign 177 = .ok (.iconst 2, 1) ∧ decode cX3_onSign 178 = .ok (.iload 4, 2) ∧ decode cX3_onSign 180 = .ok (.imul, 1) ∧ decode cX3_onSign 181 = .ok (.iadd, 1) ∧ decode cX3_onSign 182 = .ok (.iconst 1, 1) ∧ decode cX3_onSign 183 = .ok (.iadd, 1) ∧ decode cX3_onSign 184 = .ok (.iaload, 1) ∧ decode cX3_onSign 185 = .ok (.istore 7, 2) := by decide +kernel
theorem dX3_onSign_165 : decode cX3_onSign 165 = .ok (.iload 4, 2) := db_X3_onSign_165.1
theorem dX3_onSign_167 : decode cX3_onSign 167 = .ok (.imul, 1) := db_X3_onSign_165.2.1
theorem dX3_onSign_168 : decode cX3_onSign 168 = .ok (.iadd, 1) := db_X3_onSign_165.2.2.1
theorem dX3_onSign_169 : decode cX3_onSign 169 = .ok (.iaload, 1) := db_X3_onSign_165.2.2.2.1
theorem dX3_onSign_170 : decode cX3_onSign 170 = .ok (.istore 6, 2) := db_X3_onSign_165.2.2.2.2.1
theorem dX3_onSign_172 : decode cX3_onSign 172 = .ok (.aload_n 2, 1) := db_X3_onSign_165.2.2.2.2.2.1
theorem dX3_onSign_173 : decode cX3_onSign 173 = .ok (.getfield 142, 3) := db_X3_onSign_165.2.2.2.2.2.2.1
theorem dX3_onSign_176 : decode cX3_onSign 176 = .ok (.iconst 5, 1) := db_X3_onSign_165.2.2.2.2.2.2.2.1
theorem dX3_onSign_177 : decode cX3_onSign 177 = .ok (.iconst 2, 1) := db_X3_onSign_165.2.2.2.2.2.2.2.2.1
theorem dX3_onSign_178 : decode cX3_onSign 178 = .ok (.iload 4, 2) := db_X3_onSign_165.2.2.2.2.2.2.2.2.2.1
theorem dX3_onSign_180 : decode cX3_onSign 180 = .ok (.imul, 1) := db_X3_onSign_165.2.2.2.2.2.2.2.2.2.2.1
theorem dX3_onSign_181 : decode cX3_onSign 181 = .ok (.iadd, 1) := db_X3_onSign_165.2.2.2.2.2.2.2.2.2.2.2.1
theorem dX3_onSign_182 : decode cX3_onSign 182 = .ok (.iconst 1, 1) := db_X3_onSign_165.2.2.2.2.2.2.2.2.2.2.2.2.1
theorem dX3_onSign_183 : decode cX3_onSign 183 = .ok (.iadd, 1) := db_X3_onSign_165.2.2.2.2.2.2.2.2.2.2.2.2.2.1
theorem dX3_onSign_184 : decode cX3_onSign 184 = .ok (.iaload, 1) := db_X3_onSign_165.2.2.2.2.2.2.2.2.2.2.2.2.2.2.1
theorem dX3_onSign_185 : decode cX3_onSign 185 = .ok (.istore 7, 2) := db_X3_onSign_165.2.2.2.2.2.2.2.2.2.2.2.2.2.2.2
theorem db_X3_onSign_187 : decode cX3_onSign 187 = .ok (.aload_n 2, 1) ∧ decode cX3_onSign 188 = .ok (.getfield 161, 3) ∧ decode cX3_onSign 191 = .ok (.bipush 15, 2) ∧ decode cX3_onSign 193 = .ok (.if_icmp .ne 16, 3) ∧ decode cX3_onSign 209 = .ok (.iload 6, 2) ∧ decode cX3_onSign 211 = .ok (.aload_n 0, 1) ∧ decode cX3_onSign 212 = .ok (.getfield 11, 3) ∧ decode cX3_onSign 215 = .ok (.iload 4, 2) ∧ decode cX3_onSign 217 = .ok (.aaload, 1) ∧ decode cX3_onSign 218 = .ok (.iconst 3, 1) ∧ decode cX3_onSign 219 = .ok (.iaload, 1) ∧ decode cX3_onSign 220 = .ok (.if_icmp .ge 7, 3) ∧ decode cX3_onSign 227 = .ok (.iconst 0, 1) ∧ decode cX3_onSign 228 = .ok (.istore 8, 2) ∧ decode cX3_onSign 230 = .ok (.iload 8, 2) ∧ decode cX3_onSign 232 = .ok (.ifCond .eq 13, 3) := by decide +kernel
theorem dX3_onSign_187 : decode cX3_onSign 187 = .ok (.aload_n 2, 1) := db_X3_onSign_187.1
theorem dX3_onSign_188 : decode cX3_onSign 188 = .ok (.getfield 161, 3) := db_X3_onSign_187.2.1
theorem dX3_onSign_191 : decode cX3_onSign 191 = .ok (.bipush 15, 2) := db_X3_onSign_187.2.2.1
theorem dX3_onSign_193 : decode cX3_onSign 193 = .ok (.if_icmp .ne 16, 3) := db_X3_onSign_187.2.2.2.1
theorem dX3_onSign_209 : decode cX3_onSign 209 = .ok (.iload 6, 2) := db_X3_onSign_187.2.2.2.2.1
theorem dX3_onSign_211 : decode cX3_onSign 211 = .ok (.aload_n 0, 1) := db_X3_onSign_187.2.2.2.2.2.1
theorem dX3_onSign_212 : decode cX3_onSign 212 = .ok (.getfield 11, 3) := db_X3_onSign_187.2.2.2.2.2.2.1
theorem dX3_onSign_215 : decode cX3_onSign 215 = .ok (.iload 4, 2) := db_X3_onSign_187.2.2.2.2.2.2.2.1
theorem dX3_onSign_217 : decode cX3_onSign 217 = .ok (.aaload, 1) := db_X3_onSign_187.2.2.2.2.2.2.2.2.1
theorem dX3_onSign_218 : decode cX3_onSign 218 = .ok (.iconst 3, 1) := db_X3_onSign_187.2.2.2.2.2.2.2.2.2.1
theorem dX3_onSign_219 : decode cX3_onSign 219 = .ok (.iaload, 1) := db_X3_onSign_187.2.2.2.2.2.2.2.2.2.2.1
theorem dX3_onSign_220 : decode cX3_onSign 220 = .ok (.if_icmp .ge 7, 3) := db_X3_onSign_187.2.2.2.2.2.2.2.2.2.2.2.1
theorem dX3_onSign_227 : decode cX3_onSign 227 = .ok (.iconst 0, 1) := db_X3_onSign_187.2.2.2.2.2.2.2.2.2.2.2.2.1
theorem dX3_onSign_228 : decode cX3_onSign 228 = .ok (.istore 8, 2) := db_X3_onSign_187.2.2.2.2.2.2.2.2.2.2.2.2.2.1
theorem dX3_onSign_230 : decode cX3_onSign 230 = .ok (.iload 8, 2) := db_X3_onSign_187.2.2.2.2.2.2.2.2.2.2.2.2.2.2.1
theorem dX3_onSign_232 : decode cX3_onSign 232 = .ok (.ifCond .eq 13, 3) := db_X3_onSign_187.2.2.2.2.2.2.2.2.2.2.2.2.2.2.2
theorem db_X3_onSign_245 : decode cX3_onSign 245 = .ok (.iload 5, 2) ∧ decode cX3_onSign 247 = .ok (.ifCond .eq 32, 3) ∧ decode cX3_onSign 250 = .ok (.aload_n 2, 1) ∧ decode cX3_onSign 251 = .ok (.getfield 161, 3) ∧ decode cX3_onSign 254 = .ok (.bipush 15, 2) ∧ decode cX3_onSign 256 = .ok (.if_icmp .eq 17, 3) ∧ decode cX3_onSign 259 = .ok (.iload 7, 2) ∧ decode cX3_onSign 261 = .ok (.aload_n 0, 1) ∧ decode cX3_onSign 262 = .ok (.getfield 11, 3) ∧ decode cX3_onSign 265 = .ok (.iload 4, 2) ∧ decode cX3_onSign 267 = .ok (.aaload, 1) ∧ decode cX3_onSign 268 = .ok (.iconst 0, 1) ∧ decode cX3_onSign 269 = .ok (.iaload, 1) ∧ decode cX3_onSign 270 = .ok (.if_icmp .eq 9, 3) ∧ decode cX3_onSign 279 = .ok (.iinc 4 1, 3) ∧ decode cX3_onSign 282 = .ok (.goto (-181), 3) := by decide +kernel
theorem dX3_onSign_245 : decode cX3_onSign 245 = .ok (.iload 5, 2) := db_X3_onSign_245.1
theorem dX3_onSign_247 : decode cX3_onSign 247 = .ok (.ifCond .eq 32, 3) := db_X3_onSign_245.2.1
theorem dX3_onSign_250 : decode cX3_onSign 250 = .ok (.aload_n 2, 1) := db_X3_onSign_245.2.2.1
theorem dX3_onSign_251 : decode cX3_onSign 251 = .ok (.getfield 161, 3) := db_X3_onSign_245.2.2.2.1
theorem dX3_onSign_254 : decode cX3_onSign 254 = .ok (.bipush 15, 2) := db_X3_onSign_245.2.2.2.2.1
theorem dX3_onSign_256 : decode cX3_onSign 256 = .ok (.if_icmp .eq 17, 3) := db_X3_onSign_245.2.2.2.2.2.1
theorem dX3_onSign_259 : decode cX3_onSign 259 = .ok (.iload 7, 2) := db_X3_onSign_245.2.2.2.2.2.2.1
theorem dX3_onSign_261 : decode cX3_onSign 261 = .ok (.aload_n 0, 1) := db_X3_onSign_245.2.2.2.2.2.2.2.1
theorem dX3_onSign_262 : decode cX3_onSign 262 = .ok (.getfield 11, 3) := db_X3_onSign_245.2.2.2.2.2.2.2.2.1
theorem dX3_onSign_265 : decode cX3_onSign 265 = .ok (.iload 4, 2) := db_X3_onSign_245.2.2.2.2.2.2.2.2.2.1
theorem dX3_onSign_267 : decode cX3_onSign 267 = .ok (.aaload, 1) := db_X3_onSign_245.2.2.2.2.2.2.2.2.2.2.1
theorem dX3_onSign_268 : decode cX3_onSign 268 = .ok (.iconst 0, 1) := db_X3_onSign_245.2.2.2.2.2.2.2.2.2.2.2.1
theorem dX3_onSign_269 : decode cX3_onSign 269 = .ok (.iaload, 1) := db_X3_onSign_245.2.2.2.2.2.2.2.2.2.2.2.2.1
theorem dX3_onSign_270 : decode cX3_onSign 270 = .ok (.if_icmp .eq 9, 3) := db_X3_onSign_245.2.2.2.2.2.2.2.2.2.2.2.2.2.1
theorem dX3_onSign_279 : decode cX3_onSign 279 = .ok (.iinc 4 1, 3) := db_X3_onSign_245.2.2.2.2.2.2.2.2.2.2.2.2.2.2.1
theorem dX3_onSign_282 : decode cX3_onSign 282 = .ok (.goto (-181), 3) := db_X3_onSign_245.2.2.2.2.2.2.2.2.2.2.2.2.2.2.2
theorem dX3_onSign_285 : decode cX3_onSign 285 = .ok (.return_, 1) := by decide +kernel
theorem db_X3_watch_0 : decode cX3_watch 0 = .ok (.iconst 0, 1) ∧ decode cX3_watch 1 = .ok (.istore_n 1, 1) ∧ decode cX3_watch 2 = .ok (.iload_n 1, 1) ∧ decode cX3_watch 3 = .ok (.aload_n 0, 1) ∧ decode cX3_watch 4 = .ok (.getfield 24, 3) ∧ decode cX3_watch 7 = .ok (.getfield 111, 3) ∧ decode cX3_watch 10 = .ok (.if_icmp .ge 151, 3) ∧ decode cX3_watch 13 = .ok (.aload_n 0, 1) ∧ decode cX3_watch 14 = .ok (.getfield 16, 3) ∧ decode cX3_watch 17 = .ok (.iload_n 1, 1) ∧ decode cX3_watch 18 = .ok (.baload, 1) ∧ decode cX3_watch 19 = .ok (.ifCond .eq 26, 3) ∧ decode cX3_watch 22 = .ok (.aload_n 0, 1) ∧ decode cX3_watch 23 = .ok (.getfield 24, 3) ∧ decode cX3_watch 26 = .ok (.getfield 56, 3) ∧ decode cX3_watch 29 = .ok (.aload_n 0, 1) := by decide +kernel
theorem dX3_watch_0 : decode cX3_watch 0 = .ok (.iconst 0, 1) := db_X3_watch_0.1
theorem dX3_watch_1 : decode cX3_watch 1 = .ok (.istore_n 1, 1) := db_X3_watch_0.2.1
theorem dX3_watch_2 : decode cX3_watch 2 = .ok (.iload_n 1, 1) := db_X3_watch_0.2.2.1
theorem dX3_watch_3 : decode cX3_watch 3 = .ok (.aload_n 0, 1) := db_X3_watch_0.2.2.2.1
theorem dX3_watch_4 : decode cX3_watch 4 = .ok (.getfield 24, 3) := db_X3_watch_0.2.2.2.2.1
theorem dX3_watch_7 : decode cX3_watch 7 = .ok (.getfield 111, 3) := db_X3_watch_0.2.2.2.2.2.1
theorem dX3_watch_10 : decode cX3_watch 10 = .ok (.if_icmp .ge 151, 3) := db_X3_watch_0.2.2.2.2.2.2.1
theorem dX3_watch_13 : decode cX3_watch 13 = .ok (.aload_n 0, 1) := db_X3_watch_0.2.2.2.2.2.2.2.1
theorem dX3_watch_14 : decode cX3_watch 14 = .ok (.getfield 16, 3) := db_X3_watch_0.2.2.2.2.2.2.2.2.1
theorem dX3_watch_17 : decode cX3_watch 17 = .ok (.iload_n 1, 1) := db_X3_watch_0.2.2.2.2.2.2.2.2.2.1
theorem dX3_watch_18 : decode cX3_watch 18 = .ok (.baload, 1) := db_X3_watch_0.2.2.2.2.2.2.2.2.2.2.1
theorem dX3_watch_19 : decode cX3_watch 19 = .ok (.ifCond .eq 26, 3) := db_X3_watch_0.2.2.2.2.2.2.2.2.2.2.2.1
theorem dX3_watch_22 : decode cX3_watch 22 = .ok (.aload_n 0, 1) := db_X3_watch_0.2.2.2.2.2.2.2.2.2.2.2.2.1
theorem dX3_watch_23 : decode cX3_watch 23 = .ok (.getfield 24, 3) := db_X3_watch_0.2.2.2.2.2.2.2.2.2.2.2.2.2.1
theorem dX3_watch_26 : decode cX3_watch 26 = .ok (.getfield 56, 3) := db_X3_watch_0.2.2.2.2.2.2.2.2.2.2.2.2.2.2.1
theorem dX3_watch_29 : decode cX3_watch 29 = .ok (.aload_n 0, 1) := db_X3_watch_0.2.2.2.2.2.2.2.2.2.2.2.2.2.2.2
theorem db_X3_watch_30 : decode cX3_watch 30 = .ok (.getfield 20, 3) ∧ decode cX3_watch 33 = .ok (.iload_n 1, 1) ∧ decode cX3_watch 34 = .ok (.iaload, 1) ∧ decode cX3_watch 35 = .ok (.isub, 1) ∧ decode cX3_watch 36 = .ok (.bipush 8, 2) ∧ decode cX3_watch 38 = .ok (.if_icmp .lt 7, 3) ∧ decode cX3_watch 45 = .ok (.iconst 0, 1) ∧ decode cX3_watch 46 = .ok (.istore_n 2, 1) ∧ decode cX3_watch 47 = .ok (.aload_n 0, 1) ∧ decode cX3_watch 48 = .ok (.getfield 16, 3) ∧ decode cX3_watch 51 = .ok (.iload_n 1, 1) ∧ decode cX3_watch 52 = .ok (.aload_n 0, 1) ∧ decode cX3_watch 53 = .ok (.getfield 16, 3) ∧ decode cX3_watch 56 = .ok (.iload_n 1, 1) ∧ decode cX3_watch 57 = .ok (.baload, 1) ∧ decode cX3_watch 58 = .ok (.ifCond .eq 11, 3) := by decide +kernel
theorem dX3_watch_30 : decode cX3_watch 30 = .ok (.getfield 20, 3) := db_X3_watch_30.1
theorem dX3_watch_33 : decode cX3_watch 33 = .ok (.iload_n 1, 1) := db_X3_watch_30.2.1
theorem dX3_watch_34 : decode cX3_watch 34 = .ok (.iaload, 1) := db_X3_watch_30.2.2.1
theorem dX3_watch_35 : decode cX3_watch 35 = .ok (.isub, 1) := db_X3_watch_30.2.2.2.1
theorem dX3_watch_36 : decode cX3_watch 36 = .ok (.bipush 8, 2) := db_X3_watch_30.2.2.2.2.1
theorem dX3_watch_38 : decode cX3_watch 38 = .ok (.if_icmp .lt 7, 3) := db_X3_watch_30.2.2.2.2.2.1
theorem dX3_watch_45 : decode cX3_watch 45 = .ok (.iconst 0, 1) := db_X3_watch_30.2.2.2.2.2.2.1
theorem dX3_watch_46 : decode cX3_watch 46 = .ok (.istore_n 2, 1) := db_X3_watch_30.2.2.2.2.2.2.2.1
theorem dX3_watch_47 : decode cX3_watch 47 = .ok (.aload_n 0, 1) := db_X3_watch_30.2.2.2.2.2.2.2.2.1
theorem dX3_watch_48 : decode cX3_watch 48 = .ok (.getfield 16, 3) := db_X3_watch_30.2.2.2.2.2.2.2.2.2.1
theorem dX3_watch_51 : decode cX3_watch 51 = .ok (.iload_n 1, 1) := db_X3_watch_30.2.2.2.2.2.2.2.2.2.2.1
theorem dX3_watch_52 : decode cX3_watch 52 = .ok (.aload_n 0, 1) := db_X3_watch_30.2.2.2.2.2.2.2.2.2.2.2.1
theorem dX3_watch_53 : decode cX3_watch 53 = .ok (.getfield 16, 3) := db_X3_watch_30.2.2.2.2.2.2.2.2.2.2.2.2.1
theorem dX3_watch_56 : decode cX3_watch 56 = .ok (.iload_n 1, 1) := db_X3_watch_30.2.2.2.2.2.2.2.2.2.2.2.2.2.1
theorem dX3_watch_57 : decode cX3_watch 57 = .ok (.baload, 1) := db_X3_watch_30.2.2.2.2.2.2.2.2.2.2.2.2.2.2.1
theorem dX3_watch_58 : decode cX3_watch 58 = .ok (.ifCond .eq 11, 3) := db_X3_watch_30.2.2.2.2.2.2.2.2.2.2.2.2.2.2.2
theorem db_X3_watch_61 : decode cX3_watch 61 = .ok (.iload_n 2, 1) ∧ decode cX3_watch 62 = .ok (.ifCond .ne 7, 3) ∧ decode cX3_watch 65 = .ok (.iconst 1, 1) ∧ decode cX3_watch 66 = .ok (.goto 4, 3) ∧ decode cX3_watch 70 = .ok (.bastore, 1) ∧ decode cX3_watch 71 = .ok (.iconst 0, 1) ∧ decode cX3_watch 72 = .ok (.istore_n 3, 1) ∧ decode cX3_watch 73 = .ok (.iload_n 2, 1) ∧ decode cX3_watch 74 = .ok (.ifCond .eq 81, 3) ∧ decode cX3_watch 155 = .ok (.iinc 1 1, 3) ∧ decode cX3_watch 158 = .ok (.goto (-156), 3) ∧ decode cX3_watch 161 = .ok (.return_, 1) := by decide +kernel
theorem dX3_watch_61 : decode cX3_watch 61 = .ok (.iload_n 2, 1) := db_X3_watch_61.1
theorem dX3_watch_62 : decode cX3_watch 62 = .ok (.ifCond .ne 7, 3) := db_X3_watch_61.2.1
theorem dX3_watch_65 : decode cX3_watch 65 = .ok (.iconst 1, 1) := db_X3_watch_61.2.2.1
theorem dX3_watch_66 : decode cX3_watch 66 = .ok (.goto 4, 3) := db_X3_watch_61.2.2.2.1
theorem dX3_watch_70 : decode cX3_watch 70 = .ok (.bastore, 1) := db_X3_watch_61.2.2.2.2.1
theorem dX3_watch_71 : decode cX3_watch 71 = .ok (.iconst 0, 1) := db_X3_watch_61.2.2.2.2.2.1
theorem dX3_watch_72 : decode cX3_watch 72 = .ok (.istore_n 3, 1) := db_X3_watch_61.2.2.2.2.2.2.1
theorem dX3_watch_73 : decode cX3_watch 73 = .ok (.iload_n 2, 1) := db_X3_watch_61.2.2.2.2.2.2.2.1
theorem dX3_watch_74 : decode cX3_watch 74 = .ok (.ifCond .eq 81, 3) := db_X3_watch_61.2.2.2.2.2.2.2.2.1
theorem dX3_watch_155 : decode cX3_watch 155 = .ok (.iinc 1 1, 3) := db_X3_watch_61.2.2.2.2.2.2.2.2.2.1
theorem dX3_watch_158 : decode cX3_watch 158 = .ok (.goto (-156), 3) := db_X3_watch_61.2.2.2.2.2.2.2.2.2.2.1
theorem dX3_watch_161 : decode cX3_watch 161 = .ok (.return_, 1) := db_X3_watch_61.2.2.2.2.2.2.2.2.2.2.2
