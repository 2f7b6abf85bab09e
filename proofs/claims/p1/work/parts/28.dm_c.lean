theorem db_X12_doTick_0 : decode cX12_doTick 0 = .ok (.aload_n 0, 1) ∧ decode cX12_doTick 1 = .ok (.dup, 1) ∧ decode cX12_doTick 2 = .ok (.getfield 330, 3) ∧ decode cX12_doTick 5 = .ok (.iconst 1, 1) ∧ decode cX12_doTick 6 = .ok (.iadd, 1) ∧ decode cX12_doTick 7 = .ok (.putfield 330, 3) ∧ decode cX12_doTick 10 = .ok (.iconst 0, 1) ∧ decode cX12_doTick 11 = .ok (.istore_n 1, 1) ∧ decode cX12_doTick 12 = .ok (.iload_n 1, 1) ∧ decode cX12_doTick 13 = .ok (.aload_n 0, 1) ∧ decode cX12_doTick 14 = .ok (.getfield 321, 3) ∧ decode cX12_doTick 17 = .ok (.if_icmp .ge 23, 3) ∧ decode cX12_doTick 20 = .ok (.aload_n 0, 1) ∧ decode cX12_doTick 21 = .ok (.getfield 77, 3) ∧ decode cX12_doTick 24 = .ok (.iload_n 1, 1) ∧ decode cX12_doTick 25 = .ok (.baload, 1) := by decide +kernel
theorem dX12_doTick_0 : decode cX12_doTick 0 = .ok (.aload_n 0, 1) := db_X12_doTick_0.1
theorem dX12_doTick_1 : decode cX12_doTick 1 = .ok (.dup, 1) := db_X12_doTick_0.2.1
theorem dX12_doTick_2 : decode cX12_doTick 2 = .ok (.getfield 330, 3) := db_X12_doTick_0.2.2.1
theorem dX12_doTick_5 : decode cX12_doTick 5 = .ok (.iconst 1, 1) := db_X12_doTick_0.2.2.2.1
theorem dX12_doTick_6 : decode cX12_doTick 6 = .ok (.iadd, 1) := db_X12_doTick_0.2.2.2.2.1
theorem dX12_doTick_7 : decode cX12_doTick 7 = .ok (.putfield 330, 3) := db_X12_doTick_0.2.2.2.2.2.1
theorem dX12_doTick_10 : decode cX12_doTick 10 = .ok (.iconst 0, 1) := db_X12_doTick_0.2.2.2.2.2.2.1
theorem dX12_doTick_11 : decode cX12_doTick 11 = .ok (.istore_n 1, 1) := db_X12_doTick_0.2.2.2.2.2.2.2.1
theorem dX12_doTick_12 : decode cX12_doTick 12 = .ok (.iload_n 1, 1) := db_X12_doTick_0.2.2.2.2.2.2.2.2.1
theorem dX12_doTick_13 : decode cX12_doTick 13 = .ok (.aload_n 0, 1) := db_X12_doTick_0.2.2.2.2.2.2.2.2.2.1
theorem dX12_doTick_14 : decode cX12_doTick 14 = .ok (.getfield 321, 3) := db_X12_doTick_0.2.2.2.2.2.2.2.2.2.2.1
theorem dX12_doTick_17 : decode cX12_doTick 17 = .ok (.if_icmp .ge 23, 3) := db_X12_doTick_0.2.2.2.2.2.2.2.2.2.2.2.1
theorem dX12_doTick_20 : decode cX12_doTick 20 = .ok (.aload_n 0, 1) := db_X12_doTick_0.2.2.2.2.2.2.2.2.2.2.2.2.1
theorem dX12_doTick_21 : decode cX12_doTick 21 = .ok (.getfield 77, 3) := db_X12_doTick_0.2.2.2.2.2.2.2.2.2.2.2.2.2.1
theorem dX12_doTick_24 : decode cX12_doTick 24 = .ok (.iload_n 1, 1) := db_X12_doTick_0.2.2.2.2.2.2.2.2.2.2.2.2.2.2.1
theorem dX12_doTick_25 : decode cX12_doTick 25 = .ok (.baload, 1) := db_X12_doTick_0.2.2.2.2.2.2.2.2.2.2.2.2.2.2.2
theorem db_X12_doTick_26 : decode cX12_doTick 26 = .ok (.ifCond .eq 8, 3) ∧ decode cX12_doTick 29 = .ok (.aload_n 0, 1) ∧ decode cX12_doTick 30 = .ok (.iload_n 1, 1) ∧ decode cX12_doTick 31 = .ok (.invokevirtual 699, 3) ∧ decode cX12_doTick 34 = .ok (.iinc 1 1, 3) ∧ decode cX12_doTick 37 = .ok (.goto (-25), 3) ∧ decode cX12_doTick 40 = .ok (.aload_n 0, 1) ∧ decode cX12_doTick 41 = .ok (.getfield 77, 3) ∧ decode cX12_doTick 44 = .ok (.aload_n 0, 1) ∧ decode cX12_doTick 45 = .ok (.getfield 321, 3) ∧ decode cX12_doTick 48 = .ok (.baload, 1) ∧ decode cX12_doTick 49 = .ok (.ifCond .eq 7, 3) ∧ decode cX12_doTick 52 = .ok (.aload_n 0, 1) ∧ decode cX12_doTick 53 = .ok (.invokevirtual 702, 3) ∧ decode cX12_doTick 56 = .ok (.aload_n 0, 1) ∧ decode cX12_doTick 57 = .ok (.getfield 330, 3) := by decide +kernel
theorem dX12_doTick_26 : decode cX12_doTick 26 = .ok (.ifCond .eq 8, 3) := db_X12_doTick_26.1
theorem dX12_doTick_29 : decode cX12_doTick 29 = .ok (.aload_n 0, 1) := db_X12_doTick_26.2.1
theorem dX12_doTick_30 : decode cX12_doTick 30 = .ok (.iload_n 1, 1) := db_X12_doTick_26.2.2.1
theorem dX12_doTick_31 : decode cX12_doTick 31 = .ok (.invokevirtual 699, 3) := db_X12_doTick_26.2.2.2.1
theorem dX12_doTick_34 : decode cX12_doTick 34 = .ok (.iinc 1 1, 3) := db_X12_doTick_26.2.2.2.2.1
theorem dX12_doTick_37 : decode cX12_doTick 37 = .ok (.goto (-25), 3) := db_X12_doTick_26.2.2.2.2.2.1
theorem dX12_doTick_40 : decode cX12_doTick 40 = .ok (.aload_n 0, 1) := db_X12_doTick_26.2.2.2.2.2.2.1
theorem dX12_doTick_41 : decode cX12_doTick 41 = .ok (.getfield 77, 3) := db_X12_doTick_26.2.2.2.2.2.2.2.1
theorem dX12_doTick_44 : decode cX12_doTick 44 = .ok (.aload_n 0, 1) := db_X12_doTick_26.2.2.2.2.2.2.2.2.1
theorem dX12_doTick_45 : decode cX12_doTick 45 = .ok (.getfield 321, 3) := db_X12_doTick_26.2.2.2.2.2.2.2.2.2.1
theorem dX12_doTick_48 : decode cX12_doTick 48 = .ok (.baload, 1) := db_X12_doTick_26.2.2.2.2.2.2.2.2.2.2.1
theorem dX12_doTick_49 : decode cX12_doTick 49 = .ok (.ifCond .eq 7, 3) := db_X12_doTick_26.2.2.2.2.2.2.2.2.2.2.2.1
theorem dX12_doTick_52 : decode cX12_doTick 52 = .ok (.aload_n 0, 1) := db_X12_doTick_26.2.2.2.2.2.2.2.2.2.2.2.2.1
theorem dX12_doTick_53 : decode cX12_doTick 53 = .ok (.invokevirtual 702, 3) := db_X12_doTick_26.2.2.2.2.2.2.2.2.2.2.2.2.2.1
theorem dX12_doTick_56 : decode cX12_doTick 56 = .ok (.aload_n 0, 1) := db_X12_doTick_26.2.2.2.2.2.2.2.2.2.2.2.2.2.2.1
theorem dX12_doTick_57 : decode cX12_doTick 57 = .ok (.getfield 330, 3) := db_X12_doTick_26.2.2.2.2.2.2.2.2.2.2.2.2.2.2.2
theorem dX12_doTick_60 : decode cX12_doTick 60 = .ok (.ireturn, 1) := by decide +kernel
theorem db_X12_handle_0 : decode cX12_handle 0 = .ok (.aload_n 0, 1) ∧ decode cX12_handle 1 = .ok (.getfield 222, 3) ∧ decode cX12_handle 4 = .ok (.iconst 0, 1) ∧ decode cX12_handle 5 = .ok (.iaload, 1) ∧ decode cX12_handle 6 = .ok (.tableswitch 255 1 13 #[66, 74, 82, 91, 143, 186, 195, 204, 213, 222, 231, 239, 247], 66) ∧ decode cX12_handle 261 = .ok (.aload_n 0, 1) ∧ decode cX12_handle 262 = .ok (.iload_n 1, 1) ∧ decode cX12_handle 263 = .ok (.iload_n 2, 1) ∧ decode cX12_handle 264 = .ok (.invokevirtual 738, 3) ∧ decode cX12_handle 267 = .ok (.return_, 1) := by decide +kernel
theorem dX12_handle_0 : decode cX12_handle 0 = .ok (.aload_n 0, 1) := db_X12_handle_0.1
theorem dX12_handle_1 : decode cX12_handle 1 = .ok (.getfield 222, 3) := db_X12_handle_0.2.1
theorem dX12_handle_4 : decode cX12_handle 4 = .ok (.iconst 0, 1) := db_X12_handle_0.2.2.1
theorem dX12_handle_5 : decode cX12_handle 5 = .ok (.iaload, 1) := db_X12_handle_0.2.2.2.1
theorem dX12_handle_6 : decode cX12_handle 6 = .ok (.tableswitch 255 1 13 #[66, 74, 82, 91, 143, 186, 195, 204, 213, 222, 231, 239, 247], 66) := db_X12_handle_0.2.2.2.2.1
theorem dX12_handle_261 : decode cX12_handle 261 = .ok (.aload_n 0, 1) := db_X12_handle_0.2.2.2.2.2.1
theorem dX12_handle_262 : decode cX12_handle 262 = .ok (.iload_n 1, 1) := db_X12_handle_0.2.2.2.2.2.2.1
theorem dX12_handle_263 : decode cX12_handle 263 = .ok (.iload_n 2, 1) := db_X12_handle_0.2.2.2.2.2.2.2.1
theorem dX12_handle_264 : decode cX12_handle 264 = .ok (.invokevirtual 738, 3) := db_X12_handle_0.2.2.2.2.2.2.2.2.1
theorem dX12_handle_267 : decode cX12_handle 267 = .ok (.return_, 1) := db_X12_handle_0.2.2.2.2.2.2.2.2.2
theorem db_X12_handleOther_0 : decode cX12_handleOther 0 = .ok (.aload_n 0, 1) ∧ decode cX12_handleOther 1 = .ok (.getfield 222, 3) ∧ decode cX12_handleOther 4 = .ok (.iconst 0, 1) ∧ decode cX12_handleOther 5 = .ok (.iaload, 1) ∧ decode cX12_handleOther 6 = .ok (.tableswitch 141 14 21 #[46, 54, 54, 78, 87, 96, 123, 132], 46) ∧ decode cX12_handleOther 60 = .ok (.aload_n 0, 1) ∧ decode cX12_handleOther 61 = .ok (.iload_n 2, 1) ∧ decode cX12_handleOther 62 = .ok (.aload_n 0, 1) ∧ decode cX12_handleOther 63 = .ok (.getfield 222, 3) ∧ decode cX12_handleOther 66 = .ok (.iconst 0, 1) ∧ decode cX12_handleOther 67 = .ok (.iaload, 1) ∧ decode cX12_handleOther 68 = .ok (.bipush 15, 2) ∧ decode cX12_handleOther 70 = .ok (.if_icmp .ne 7, 3) ∧ decode cX12_handleOther 77 = .ok (.iconst 0, 1) ∧ decode cX12_handleOther 78 = .ok (.invokevirtual 744, 3) ∧ decode cX12_handleOther 81 = .ok (.goto 71, 3) := by decide +kernel
theorem dX12_handleOther_0 : decode cX12_handleOther 0 = .ok (.aload_n 0, 1) := db_X12_handleOther_0.1
theorem dX12_handleOther_1 : decode cX12_handleOther 1 = .ok (.getfield 222, 3) := db_X12_handleOther_0.2.1
theorem dX12_handleOther_4 : decode cX12_handleOther 4 = .ok (.iconst 0, 1) := db_X12_handleOther_0.2.2.1
theorem dX12_handleOther_5 : decode cX12_handleOther 5 = .ok (.iaload, 1) := db_X12_handleOther_0.2.2.2.1
theorem dX12_handleOther_6 : decode cX12_handleOther 6 = .ok (.tableswitch 141 14 21 #[46, 54, 54, 78, 87, 96, 123, 132], 46) := db_X12_handleOther_0.2.2.2.2.1
theorem dX12_handleOther_60 : decode cX12_handleOther 60 = .ok (.aload_n 0, 1) := db_X12_handleOther_0.2.2.2.2.2.1
theorem dX12_handleOther_61 : decode cX12_handleOther 61 = .ok (.iload_n 2, 1) := db_X12_handleOther_0.2.2.2.2.2.2.1
theorem dX12_handleOther_62 : decode cX12_handleOther 62 = .ok (.aload_n 0, 1) := db_X12_handleOther_0.2.2.2.2.2.2.2.1
theorem dX12_handleOther_63 : decode cX12_handleOther 63 = .ok (.getfield 222, 3) := db_X12_handleOther_0.2.2.2.2.2.2.2.2.1
theorem dX12_handleOther_66 : decode cX12_handleOther 66 = .ok (.iconst 0, 1) := db_X12_handleOther_0.2.2.2.2.2.2.2.2.2.1
theorem dX12_handleOther_67 : decode cX12_handleOther 67 = .ok (.iaload, 1) := db_X12_handleOther_0.2.2.2.2.2.2.2.2.2.2.1
theorem dX12_handleOther_68 : decode cX12_handleOther 68 = .ok (.bipush 15, 2) := db_X12_handleOther_0.2.2.2.2.2.2.2.2.2.2.2.1
theorem dX12_handleOther_70 : decode cX12_handleOther 70 = .ok (.if_icmp .ne 7, 3) := db_X12_handleOther_0.2.2.2.2.2.2.2.2.2.2.2.2.1
theorem dX12_handleOther_77 : decode cX12_handleOther 77 = .ok (.iconst 0, 1) := db_X12_handleOther_0.2.2.2.2.2.2.2.2.2.2.2.2.2.1
theorem dX12_handleOther_78 : decode cX12_handleOther 78 = .ok (.invokevirtual 744, 3) := db_X12_handleOther_0.2.2.2.2.2.2.2.2.2.2.2.2.2.2.1
theorem dX12_handleOther_81 : decode cX12_handleOther 81 = .ok (.goto 71, 3) := db_X12_handleOther_0.2.2.2.2.2.2.2.2.2.2.2.2.2.2.2
theorem dX12_handleOther_152 : decode cX12_handleOther 152 = .ok (.return_, 1) := by decide +kernel
theorem db_X12_deliverOne_0 : decode cX12_deliverOne 0 = .ok (.aload_n 0, 1) ∧ decode cX12_deliverOne 1 = .ok (.iload_n 1, 1) ∧ decode cX12_deliverOne 2 = .ok (.iload_n 2, 1) ∧ decode cX12_deliverOne 3 = .ok (.invokevirtual 766, 3) ∧ decode cX12_deliverOne 6 = .ok (.istore_n 3, 1) ∧ decode cX12_deliverOne 7 = .ok (.aload_n 0, 1) ∧ decode cX12_deliverOne 8 = .ok (.dup, 1) ∧ decode cX12_deliverOne 9 = .ok (.getfield 342, 3) ∧ decode cX12_deliverOne 12 = .ok (.iconst 1, 1) ∧ decode cX12_deliverOne 13 = .ok (.iadd, 1) ∧ decode cX12_deliverOne 14 = .ok (.putfield 342, 3) ∧ decode cX12_deliverOne 17 = .ok (.aload_n 0, 1) ∧ decode cX12_deliverOne 18 = .ok (.getfield 77, 3) ∧ decode cX12_deliverOne 21 = .ok (.iload_n 2, 1) ∧ decode cX12_deliverOne 22 = .ok (.baload, 1) ∧ decode cX12_deliverOne 23 = .ok (.ifCond .eq 9, 3) := by decide +kernel
theorem dX12_deliverOne_0 : decode cX12_deliverOne 0 = .ok (.aload_n 0, 1) := db_X12_deliverOne_0.1
theorem dX12_deliverOne_1 : decode cX12_deliverOne 1 = .ok (.iload_n 1, 1) := db_X12_deliverOne_0.2.1
theorem dX12_deliverOne_2 : decode cX12_deliverOne 2 = .ok (.iload_n 2, 1) := db_X12_deliverOne_0.2.2.1
theorem dX12_deliverOne_3 : decode cX12_deliverOne 3 = .ok (.invokevirtual 766, 3) := db_X12_deliverOne_0.2.2.2.1
theorem dX12_deliverOne_6 : decode cX12_deliverOne 6 = .ok (.istore_n 3, 1) := db_X12_deliverOne_0.2.2.2.2.1
theorem dX12_deliverOne_7 : decode cX12_deliverOne 7 = .ok (.aload_n 0, 1) := db_X12_deliverOne_0.2.2.2.2.2.1
theorem dX12_deliverOne_8 : decode cX12_deliverOne 8 = .ok (.dup, 1) := db_X12_deliverOne_0.2.2.2.2.2.2.1
theorem dX12_deliverOne_9 : decode cX12_deliverOne 9 = .ok (.getfield 342, 3) := db_X12_deliverOne_0.2.2.2.2.2.2.2.1
theorem dX12_deliverOne_12 : decode cX12_deliverOne 12 = .ok (.iconst 1, 1) := db_X12_deliverOne_0.2.2.2.2.2.2.2.2.1
theorem dX12_deliverOne_13 : decode cX12_deliverOne 13 = .ok (.iadd, 1) := db_X12_deliverOne_0.2.2.2.2.2.2.2.2.2.1
theorem dX12_deliverOne_14 : decode cX12_deliverOne 14 = .ok (.putfield 342, 3) := db_X12_deliverOne_0.2.2.2.2.2.2.2.2.2.2.1
theorem dX12_deliverOne_17 : decode cX12_deliverOne 17 = .ok (.aload_n 0, 1) := db_X12_deliverOne_0.2.2.2.2.2.2.2.2.2.2.2.1
theorem dX12_deliverOne_18 : decode cX12_deliverOne 18 = .ok (.getfield 77, 3) := db_X12_deliverOne_0.2.2.2.2.2.2.2.2.2.2.2.2.1
theorem dX12_deliverOne_21 : decode cX12_deliverOne 21 = .ok (.iload_n 2, 1) := db_X12_deliverOne_0.2.2.2.2.2.2.2.2.2.2.2.2.2.1
theorem dX12_deliverOne_22 : decode cX12_deliverOne 22 = .ok (.baload, 1) := db_X12_deliverOne_0.2.2.2.2.2.2.2.2.2.2.2.2.2.2.1
theorem dX12_deliverOne_23 : decode cX12_deliverOne 23 = .ok (.ifCond .eq 9, 3) := db_X12_deliverOne_0.2.2.2.2.2.2.2.2.2.2.2.2.2.2.2
theorem db_X12_deliverOne_26 : decode cX12_deliverOne 26 = .ok (.aload_n 0, 1) ∧ decode cX12_deliverOne 27 = .ok (.iload_n 2, 1) ∧ decode cX12_deliverOne 28 = .ok (.iload_n 1, 1) ∧ decode cX12_deliverOne 29 = .ok (.invokevirtual 769, 3) ∧ decode cX12_deliverOne 32 = .ok (.iload_n 3, 1) ∧ decode cX12_deliverOne 33 = .ok (.ireturn, 1) := by decide +kernel
theorem dX12_deliverOne_26 : decode cX12_deliverOne 26 = .ok (.aload_n 0, 1) := db_X12_deliverOne_26.1
theorem dX12_deliverOne_27 : decode cX12_deliverOne 27 = .ok (.iload_n 2, 1) := db_X12_deliverOne_26.2.1
theorem dX12_deliverOne_28 : decode cX12_deliverOne 28 = .ok (.iload_n 1, 1) := db_X12_deliverOne_26.2.2.1
theorem dX12_deliverOne_29 : decode cX12_deliverOne 29 = .ok (.invokevirtual 769, 3) := db_X12_deliverOne_26.2.2.2.1
theorem dX12_deliverOne_32 : decode cX12_deliverOne 32 = .ok (.iload_n 3, 1) := db_X12_deliverOne_26.2.2.2.2.1
theorem dX12_deliverOne_33 : decode cX12_deliverOne 33 = .ok (.ireturn, 1) := db_X12_deliverOne_26.2.2.2.2.2
theorem db_X12_isNode_0 : decode cX12_isNode 0 = .ok (.iload_n 1, 1) ∧ decode cX12_isNode 1 = .ok (.ifCond .lt 15, 3) ∧ decode cX12_isNode 4 = .ok (.iload_n 1, 1) ∧ decode cX12_isNode 5 = .ok (.aload_n 0, 1) ∧ decode cX12_isNode 6 = .ok (.getfield 321, 3) ∧ decode cX12_isNode 9 = .ok (.if_icmp .ge 7, 3) ∧ decode cX12_isNode 12 = .ok (.iconst 1, 1) ∧ decode cX12_isNode 13 = .ok (.goto 4, 3) ∧ decode cX12_isNode 16 = .ok (.iconst 0, 1) ∧ decode cX12_isNode 17 = .ok (.ireturn, 1) := by decide +kernel
theorem dX12_isNode_0 : decode cX12_isNode 0 = .ok (.iload_n 1, 1) := db_X12_isNode_0.1
theorem dX12_isNode_1 : decode cX12_isNode 1 = .ok (.ifCond .lt 15, 3) := db_X12_isNode_0.2.1
theorem dX12_isNode_4 : decode cX12_isNode 4 = .ok (.iload_n 1, 1) := db_X12_isNode_0.2.2.1
theorem dX12_isNode_5 : decode cX12_isNode 5 = .ok (.aload_n 0, 1) := db_X12_isNode_0.2.2.2.1
theorem dX12_isNode_6 : decode cX12_isNode 6 = .ok (.getfield 321, 3) := db_X12_isNode_0.2.2.2.2.1
theorem dX12_isNode_9 : decode cX12_isNode 9 = .ok (.if_icmp .ge 7, 3) := db_X12_isNode_0.2.2.2.2.2.1
theorem dX12_isNode_12 : decode cX12_isNode 12 = .ok (.iconst 1, 1) := db_X12_isNode_0.2.2.2.2.2.2.1
theorem dX12_isNode_13 : decode cX12_isNode 13 = .ok (.goto 4, 3) := db_X12_isNode_0.2.2.2.2.2.2.2.1
theorem dX12_isNode_16 : decode cX12_isNode 16 = .ok (.iconst 0, 1) := db_X12_isNode_0.2.2.2.2.2.2.2.2.1
theorem dX12_isNode_17 : decode cX12_isNode 17 = .ok (.ireturn, 1) := db_X12_isNode_0.2.2.2.2.2.2.2.2.2
theorem db_X12_isPlace_0 : decode cX12_isPlace 0 = .ok (.iload_n 1, 1) ∧ decode cX12_isPlace 1 = .ok (.ifCond .lt 15, 3) ∧ decode cX12_isPlace 4 = .ok (.iload_n 1, 1) ∧ decode cX12_isPlace 5 = .ok (.aload_n 0, 1) ∧ decode cX12_isPlace 6 = .ok (.getfield 321, 3) ∧ decode cX12_isPlace 9 = .ok (.if_icmp .gt 7, 3) ∧ decode cX12_isPlace 12 = .ok (.iconst 1, 1) ∧ decode cX12_isPlace 13 = .ok (.goto 4, 3) ∧ decode cX12_isPlace 16 = .ok (.iconst 0, 1) ∧ decode cX12_isPlace 17 = .ok (.ireturn, 1) := by decide +kernel
theorem dX12_isPlace_0 : decode cX12_isPlace 0 = .ok (.iload_n 1, 1) := db_X12_isPlace_0.1
theorem dX12_isPlace_1 : decode cX12_isPlace 1 = .ok (.ifCond .lt 15, 3) := db_X12_isPlace_0.2.1
theorem dX12_isPlace_4 : decode cX12_isPlace 4 = .ok (.iload_n 1, 1) := db_X12_isPlace_0.2.2.1
theorem dX12_isPlace_5 : decode cX12_isPlace 5 = .ok (.aload_n 0, 1) := db_X12_isPlace_0.2.2.2.1
theorem dX12_isPlace_6 : decode cX12_isPlace 6 = .ok (.getfield 321, 3) := db_X12_isPlace_0.2.2.2.2.1
theorem dX12_isPlace_9 : decode cX12_isPlace 9 = .ok (.if_icmp .gt 7, 3) := db_X12_isPlace_0.2.2.2.2.2.1
theorem dX12_isPlace_12 : decode cX12_isPlace 12 = .ok (.iconst 1, 1) := db_X12_isPlace_0.2.2.2.2.2.2.1
theorem dX12_isPlace_13 : decode cX12_isPlace 13 = .ok (.goto 4, 3) := db_X12_isPlace_0.2.2.2.2.2.2.2.1
theorem dX12_isPlace_16 : decode cX12_isPlace 16 = .ok (.iconst 0, 1) := db_X12_isPlace_0.2.2.2.2.2.2.2.2.1
theorem dX12_isPlace_17 : decode cX12_isPlace 17 = .ok (.ireturn, 1) := db_X12_isPlace_0.2.2.2.2.2.2.2.2.2
theorem db_X12_make_0 : decode cX12_make 0 = .ok (.aload_n 0, 1) ∧ decode cX12_make 1 = .ok (.iload_n 1, 1) ∧ decode cX12_make 2 = .ok (.iconst 1, 1) ∧ decode cX12_make 3 = .ok (.if_icmp .lt 33, 3) ∧ decode cX12_make 6 = .ok (.iload_n 1, 1) ∧ decode cX12_make 7 = .ok (.iconst 5, 1) ∧ decode cX12_make 8 = .ok (.if_icmp .gt 28, 3) ∧ decode cX12_make 11 = .ok (.iload_n 2, 1) ∧ decode cX12_make 12 = .ok (.iconst 1, 1) ∧ decode cX12_make 13 = .ok (.if_icmp .lt 23, 3) ∧ decode cX12_make 16 = .ok (.iload_n 2, 1) ∧ decode cX12_make 17 = .ok (.iconst 4, 1) ∧ decode cX12_make 18 = .ok (.if_icmp .gt 18, 3) ∧ decode cX12_make 21 = .ok (.iload_n 3, 1) ∧ decode cX12_make 22 = .ok (.iconst 1, 1) ∧ decode cX12_make 23 = .ok (.if_icmp .lt 13, 3) := by decide +kernel
theorem dX12_make_0 : decode cX12_make 0 = .ok (.aload_n 0, 1) := db_X12_make_0.1
theorem dX12_make_1 : decode cX12_make 1 = .ok (.iload_n 1, 1) := db_X12_make_0.2.1
theorem dX12_make_2 : decode cX12_make 2 = .ok (.iconst 1, 1) := db_X12_make_0.2.2.1
theorem dX12_make_3 : decode cX12_make 3 = .ok (.if_icmp .lt 33, 3) := db_X12_make_0.2.2.2.1
theorem dX12_make_6 : decode cX12_make 6 = .ok (.iload_n 1, 1) := db_X12_make_0.2.2.2.2.1
theorem dX12_make_7 : decode cX12_make 7 = .ok (.iconst 5, 1) := db_X12_make_0.2.2.2.2.2.1
theorem dX12_make_8 : decode cX12_make 8 = .ok (.if_icmp .gt 28, 3) := db_X12_make_0.2.2.2.2.2.2.1
theorem dX12_make_11 : decode cX12_make 11 = .ok (.iload_n 2, 1) := db_X12_make_0.2.2.2.2.2.2.2.1
theorem dX12_make_12 : decode cX12_make 12 = .ok (.iconst 1, 1) := db_X12_make_0.2.2.2.2.2.2.2.2.1
theorem dX12_make_13 : decode cX12_make 13 = .ok (.if_icmp .lt 23, 3) := db_X12_make_0.2.2.2.2.2.2.2.2.2.1
theorem dX12_make_16 : decode cX12_make 16 = .ok (.iload_n 2, 1) := db_X12_make_0.2.2.2.2.2.2.2.2.2.2.1
theorem dX12_make_17 : decode cX12_make 17 = .ok (.iconst 4, 1) := db_X12_make_0.2.2.2.2.2.2.2.2.2.2.2.1
theorem dX12_make_18 : decode cX12_make 18 = .ok (.if_icmp .gt 18, 3) := db_X12_make_0.2.2.2.2.2.2.2.2.2.2.2.2.1
theorem dX12_make_21 : decode cX12_make 21 = .ok (.iload_n 3, 1) := db_X12_make_0.2.2.2.2.2.2.2.2.2.2.2.2.2.1
theorem dX12_make_22 : decode cX12_make 22 = .ok (.iconst 1, 1) := db_X12_make_0.2.2.2.2.2.2.2.2.2.2.2.2.2.2.1
theorem dX12_make_23 : decode cX12_make 23 = .ok (.if_icmp .lt 13, 3) := db_X12_make_0.2.2.2.2.2.2.2.2.2.2.2.2.2.2.2
theorem db_X12_make_26 : decode cX12_make 26 = .ok (.iload_n 3, 1) ∧ decode cX12_make 27 = .ok (.iconst 3, 1) ∧ decode cX12_make 28 = .ok (.if_icmp .gt 8, 3) ∧ decode cX12_make 31 = .ok (.iload_n 3, 1) ∧ decode cX12_make 32 = .ok (.iload_n 1, 1) ∧ decode cX12_make 33 = .ok (.if_icmp .le 7, 3) ∧ decode cX12_make 36 = .ok (.iconst 1, 1) ∧ decode cX12_make 37 = .ok (.goto 4, 3) ∧ decode cX12_make 40 = .ok (.iconst 0, 1) ∧ decode cX12_make 41 = .ok (.putfield 317, 3) ∧ decode cX12_make 44 = .ok (.aload_n 0, 1) ∧ decode cX12_make 45 = .ok (.getfield 317, 3) ∧ decode cX12_make 48 = .ok (.ifCond .le 5, 3) ∧ decode cX12_make 51 = .ok (.iconst 0, 1) ∧ decode cX12_make 52 = .ok (.ireturn, 1) ∧ decode cX12_make 53 = .ok (.aload_n 0, 1) := by decide +kernel
theorem dX12_make_26 : decode cX12_make 26 = .ok (.iload_n 3, 1) := db_X12_make_26.1
theorem dX12_make_27 : decode cX12_make 27 = .ok (.iconst 3, 1) := db_X12_make_26.2.1
theorem dX12_make_28 : decode cX12_make 28 = .ok (.if_icmp .gt 8, 3) := db_X12_make_26.2.2.1
theorem dX12_make_31 : decode cX12_make 31 = .ok (.iload_n 3, 1) := db_X12_make_26.2.2.2.1
theorem dX12_make_32 : decode cX12_make 32 = .ok (.iload_n 1, 1) := db_X12_make_26.2.2.2.2.1
theorem dX12_make_33 : decode cX12_make 33 = .ok (.if_icmp .le 7, 3) := db_X12_make_26.2.2.2.2.2.1
theorem dX12_make_36 : decode cX12_make 36 = .ok (.iconst 1, 1) := db_X12_make_26.2.2.2.2.2.2.1
theorem dX12_make_37 : decode cX12_make 37 = .ok (.goto 4, 3) := db_X12_make_26.2.2.2.2.2.2.2.1
theorem dX12_make_40 : decode cX12_make 40 = .ok (.iconst 0, 1) := db_X12_make_26.2.2.2.2.2.2.2.2.1
theorem dX12_make_41 : decode cX12_make 41 = .ok (.putfield 317, 3) := db_X12_make_26.2.2.2.2.2.2.2.2.2.1
theorem dX12_make_44 : decode cX12_make 44 = .ok (.aload_n 0, 1) := db_X12_make_26.2.2.2.2.2.2.2.2.2.2.1
theorem dX12_make_45 : decode cX12_make 45 = .ok (.getfield 317, 3) := db_X12_make_26.2.2.2.2.2.2.2.2.2.2.2.1
theorem dX12_make_48 : decode cX12_make 48 = .ok (.ifCond .le 5, 3) := db_X12_make_26.2.2.2.2.2.2.2.2.2.2.2.2.1
theorem dX12_make_51 : decode cX12_make 51 = .ok (.iconst 0, 1) := db_X12_make_26.2.2.2.2.2.2.2.2.2.2.2.2.2.1
theorem dX12_make_52 : decode cX12_make 52 = .ok (.ireturn, 1) := db_X12_make_26.2.2.2.2.2.2.2.2.2.2.2.2.2.2.1
theorem dX12_make_53 : decode cX12_make 53 = .ok (.aload_n 0, 1) := db_X12_make_26.2.2.2.2.2.2.2.2.2.2.2.2.2.2.2
theorem db_X12_make_54 : decode cX12_make 54 = .ok (.iload_n 1, 1) ∧ decode cX12_make 55 = .ok (.iload_n 2, 1) ∧ decode cX12_make 56 = .ok (.iload_n 3, 1) ∧ decode cX12_make 57 = .ok (.invokevirtual 313, 3) ∧ decode cX12_make 60 = .ok (.iload_n 2, 1) ∧ decode cX12_make 61 = .ok (.iload_n 3, 1) ∧ decode cX12_make 62 = .ok (.imul, 1) ∧ decode cX12_make 63 = .ok (.ireturn, 1) := by decide +kernel
theorem dX12_make_54 : decode cX12_make 54 = .ok (.iload_n 1, 1) := db_X12_make_54.1
theorem dX12_make_55 : decode cX12_make 55 = .ok (.iload_n 2, 1) := db_X12_make_54.2.1
theorem dX12_make_56 : decode cX12_make 56 = .ok (.iload_n 3, 1) := db_X12_make_54.2.2.1
theorem dX12_make_57 : decode cX12_make 57 = .ok (.invokevirtual 313, 3) := db_X12_make_54.2.2.2.1
theorem dX12_make_60 : decode cX12_make 60 = .ok (.iload_n 2, 1) := db_X12_make_54.2.2.2.2.1
theorem dX12_make_61 : decode cX12_make 61 = .ok (.iload_n 3, 1) := db_X12_make_54.2.2.2.2.2.1
theorem dX12_make_62 : decode cX12_make 62 = .ok (.imul, 1) := db_X12_make_54.2.2.2.2.2.2.1
theorem dX12_make_63 : decode cX12_make 63 = .ok (.ireturn, 1) := db_X12_make_54.2.2.2.2.2.2.2
theorem db_X12_draft_0 : decode cX12_draft 0 = .ok (.aload_n 0, 1) ∧ decode cX12_draft 1 = .ok (.iload_n 1, 1) ∧ decode cX12_draft 2 = .ok (.iconst 1, 1) ∧ decode cX12_draft 3 = .ok (.if_icmp .lt 20, 3) ∧ decode cX12_draft 6 = .ok (.iload_n 1, 1) ∧ decode cX12_draft 7 = .ok (.bipush 8, 2) ∧ decode cX12_draft 9 = .ok (.if_icmp .gt 14, 3) ∧ decode cX12_draft 12 = .ok (.aload_n 0, 1) ∧ decode cX12_draft 13 = .ok (.getfield 772, 3) ∧ decode cX12_draft 16 = .ok (.iload_n 1, 1) ∧ decode cX12_draft 17 = .ok (.iadd, 1) ∧ decode cX12_draft 18 = .ok (.bipush 60, 2) ∧ decode cX12_draft 20 = .ok (.if_icmp .le 7, 3) ∧ decode cX12_draft 23 = .ok (.iconst 1, 1) ∧ decode cX12_draft 24 = .ok (.goto 4, 3) ∧ decode cX12_draft 27 = .ok (.iconst 0, 1) := by decide +kernel
theorem dX12_draft_0 : decode cX12_draft 0 = .ok (.aload_n 0, 1) := db_X12_draft_0.1
theorem dX12_draft_1 : decode cX12_draft 1 = .ok (.iload_n 1, 1) := db_X12_draft_0.2.1
theorem dX12_draft_2 : decode cX12_draft 2 = .ok (.iconst 1, 1) := db_X12_draft_0.2.2.1
theorem dX12_draft_3 : decode cX12_draft 3 = .ok (.if_icmp .lt 20, 3) := db_X12_draft_0.2.2.2.1
theorem dX12_draft_6 : decode cX12_draft 6 = .ok (.iload_n 1, 1) := db_X12_draft_0.2.2.2.2.1
theorem dX12_draft_7 : decode cX12_draft 7 = .ok (.bipush 8, 2) := db_X12_draft_0.2.2.2.2.2.1
theorem dX12_draft_9 : decode cX12_draft 9 = .ok (.if_icmp .gt 14, 3) := db_X12_draft_0.2.2.2.2.2.2.1
theorem dX12_draft_12 : decode cX12_draft 12 = .ok (.aload_n 0, 1) := db_X12_draft_0.2.2.2.2.2.2.2.1
theorem dX12_draft_13 : decode cX12_draft 13 = .ok (.getfield 772, 3) := db_X12_draft_0.2.2.2.2.2.2.2.2.1
theorem dX12_draft_16 : decode cX12_draft 16 = .ok (.iload_n 1, 1) := db_X12_draft_0.2.2.2.2.2.2.2.2.2.1
theorem dX12_draft_17 : decode cX12_draft 17 = .ok (.iadd, 1) := db_X12_draft_0.2.2.2.2.2.2.2.2.2.2.1
theorem dX12_draft_18 : decode cX12_draft 18 = .ok (.bipush 60, 2) := db_X12_draft_0.2.2.2.2.2.2.2.2.2.2.2.1
theorem dX12_draft_20 : decode cX12_draft 20 = .ok (.if_icmp .le 7, 3) := db_X12_draft_0.2.2.2.2.2.2.2.2.2.2.2.2.1
theorem dX12_draft_23 : decode cX12_draft 23 = .ok (.iconst 1, 1) := db_X12_draft_0.2.2.2.2.2.2.2.2.2.2.2.2.2.1
theorem dX12_draft_24 : decode cX12_draft 24 = .ok (.goto 4, 3) := db_X12_draft_0.2.2.2.2.2.2.2.2.2.2.2.2.2.2.1
theorem dX12_draft_27 : decode cX12_draft 27 = .ok (.iconst 0, 1) := db_X12_draft_0.2.2.2.2.2.2.2.2.2.2.2.2.2.2.2
theorem db_X12_draft_28 : decode cX12_draft 28 = .ok (.putfield 317, 3) ∧ decode cX12_draft 31 = .ok (.iconst 0, 1) ∧ decode cX12_draft 32 = .ok (.istore 4, 2) ∧ decode cX12_draft 34 = .ok (.iload 4, 2) ∧ decode cX12_draft 36 = .ok (.iload_n 1, 1) ∧ decode cX12_draft 37 = .ok (.if_icmp .ge 47, 3) ∧ decode cX12_draft 40 = .ok (.aload_n 0, 1) ∧ decode cX12_draft 41 = .ok (.getfield 317, 3) ∧ decode cX12_draft 44 = .ok (.ifCond .ne 40, 3) ∧ decode cX12_draft 47 = .ok (.aload_n 0, 1) ∧ decode cX12_draft 48 = .ok (.getfield 53, 3) ∧ decode cX12_draft 51 = .ok (.aload_n 0, 1) ∧ decode cX12_draft 52 = .ok (.getfield 772, 3) ∧ decode cX12_draft 55 = .ok (.lload_n 2, 1) ∧ decode cX12_draft 56 = .ok (.bipush 8, 2) ∧ decode cX12_draft 58 = .ok (.iload 4, 2) := by decide +kernel
theorem dX12_draft_28 : decode cX12_draft 28 = .ok (.putfield 317, 3) := db_X12_draft_28.1
theorem dX12_draft_31 : decode cX12_draft 31 = .ok (.iconst 0, 1) := db_X12_draft_28.2.1
theorem dX12_draft_32 : decode cX12_draft 32 = .ok (.istore 4, 2) := db_X12_draft_28.2.2.1
theorem dX12_draft_34 : decode cX12_draft 34 = .ok (.iload 4, 2) := db_X12_draft_28.2.2.2.1
theorem dX12_draft_36 : decode cX12_draft 36 = .ok (.iload_n 1, 1) := db_X12_draft_28.2.2.2.2.1
theorem dX12_draft_37 : decode cX12_draft 37 = .ok (.if_icmp .ge 47, 3) := db_X12_draft_28.2.2.2.2.2.1
theorem dX12_draft_40 : decode cX12_draft 40 = .ok (.aload_n 0, 1) := db_X12_draft_28.2.2.2.2.2.2.1
theorem dX12_draft_41 : decode cX12_draft 41 = .ok (.getfield 317, 3) := db_X12_draft_28.2.2.2.2.2.2.2.1
theorem dX12_draft_44 : decode cX12_draft 44 = .ok (.ifCond .ne 40, 3) := db_X12_draft_28.2.2.2.2.2.2.2.2.1
theorem dX12_draft_47 : decode cX12_draft 47 = .ok (.aload_n 0, 1) := db_X12_draft_28.2.2.2.2.2.2.2.2.2.1
theorem dX12_draft_48 : decode cX12_draft 48 = .ok (.getfield 53, 3) := db_X12_draft_28.2.2.2.2.2.2.2.2.2.2.1
theorem dX12_draft_51 : decode cX12_draft 51 = .ok (.aload_n 0, 1) := db_X12_draft_28.2.2.2.2.2.2.2.2.2.2.2.1
theorem dX12_draft_52 : decode cX12_draft 52 = .ok (.getfield 772, 3) := db_X12_draft_28.2.2.2.2.2.2.2.2.2.2.2.2.1
theorem dX12_draft_55 : decode cX12_draft 55 = .ok (.lload_n 2, 1) := db_X12_draft_28.2.2.2.2.2.2.2.2.2.2.2.2.2.1
theorem dX12_draft_56 : decode cX12_draft 56 = .ok (.bipush 8, 2) := db_X12_draft_28.2.2.2.2.2.2.2.2.2.2.2.2.2.2.1
theorem dX12_draft_58 : decode cX12_draft 58 = .ok (.iload 4, 2) := db_X12_draft_28.2.2.2.2.2.2.2.2.2.2.2.2.2.2.2
theorem db_X12_draft_60 : decode cX12_draft 60 = .ok (.imul, 1) ∧ decode cX12_draft 61 = .ok (.lshr, 1) ∧ decode cX12_draft 62 = .ok (.ldc2_w 775, 3) ∧ decode cX12_draft 65 = .ok (.land, 1) ∧ decode cX12_draft 66 = .ok (.l2i, 1) ∧ decode cX12_draft 67 = .ok (.iastore, 1) ∧ decode cX12_draft 68 = .ok (.aload_n 0, 1) ∧ decode cX12_draft 69 = .ok (.dup, 1) ∧ decode cX12_draft 70 = .ok (.getfield 772, 3) ∧ decode cX12_draft 73 = .ok (.iconst 1, 1) ∧ decode cX12_draft 74 = .ok (.iadd, 1) ∧ decode cX12_draft 75 = .ok (.putfield 772, 3) ∧ decode cX12_draft 78 = .ok (.iinc 4 1, 3) ∧ decode cX12_draft 81 = .ok (.goto (-47), 3) ∧ decode cX12_draft 84 = .ok (.aload_n 0, 1) ∧ decode cX12_draft 85 = .ok (.getfield 772, 3) := by decide +kernel
theorem dX12_draft_60 : decode cX12_draft 60 = .ok (.imul, 1) := db_X12_draft_60.1
theorem dX12_draft_61 : decode cX12_draft 61 = .ok (.lshr, 1) := db_X12_draft_60.2.1
theorem dX12_draft_62 : decode cX12_draft 62 = .ok (.ldc2_w 775, 3) := db_X12_draft_60.2.2.1
theorem dX12_draft_65 : decode cX12_draft 65 = .ok (.land, 1) := db_X12_draft_60.2.2.2.1
theorem dX12_draft_66 : decode cX12_draft 66 = .ok (.l2i, 1) := db_X12_draft_60.2.2.2.2.1
theorem dX12_draft_67 : decode cX12_draft 67 = .ok (.iastore, 1) := db_X12_draft_60.2.2.2.2.2.1
theorem dX12_draft_68 : decode cX12_draft 68 = .ok (.aload_n 0, 1) := db_X12_draft_60.2.2.2.2.2.2.1
theorem dX12_draft_69 : decode cX12_draft 69 = .ok (.dup, 1) := db_X12_draft_60.2.2.2.2.2.2.2.1
theorem dX12_draft_70 : decode cX12_draft 70 = .ok (.getfield 772, 3) := db_X12_draft_60.2.2.2.2.2.2.2.2.1
theorem dX12_draft_73 : decode cX12_draft 73 = .ok (.iconst 1, 1) := db_X12_draft_60.2.2.2.2.2.2.2.2.2.1
theorem dX12_draft_74 : decode cX12_draft 74 = .ok (.iadd, 1) := db_X12_draft_60.2.2.2.2.2.2.2.2.2.2.1
theorem dX12_draft_75 : decode cX12_draft 75 = .ok (.putfield 772, 3) := db_X12_draft_60.2.2.2.2.2.2.2.2.2.2.2.1
theorem dX12_draft_78 : decode cX12_draft 78 = .ok (.iinc 4 1, 3) := db_X12_draft_60.2.2.2.2.2.2.2.2.2.2.2.2.1
theorem dX12_draft_81 : decode cX12_draft 81 = .ok (.goto (-47), 3) := db_X12_draft_60.2.2.2.2.2.2.2.2.2.2.2.2.2.1
theorem dX12_draft_84 : decode cX12_draft 84 = .ok (.aload_n 0, 1) := db_X12_draft_60.2.2.2.2.2.2.2.2.2.2.2.2.2.2.1
theorem dX12_draft_85 : decode cX12_draft 85 = .ok (.getfield 772, 3) := db_X12_draft_60.2.2.2.2.2.2.2.2.2.2.2.2.2.2.2
theorem dX12_draft_88 : decode cX12_draft 88 = .ok (.ireturn, 1) := by decide +kernel
theorem db_X12_come_0 : decode cX12_come 0 = .ok (.aload_n 0, 1) ∧ decode cX12_come 1 = .ok (.getfield 333, 3) ∧ decode cX12_come 4 = .ok (.istore 4, 2) ∧ decode cX12_come 6 = .ok (.aload_n 0, 1) ∧ decode cX12_come 7 = .ok (.dup, 1) ∧ decode cX12_come 8 = .ok (.getfield 333, 3) ∧ decode cX12_come 11 = .ok (.iconst 1, 1) ∧ decode cX12_come 12 = .ok (.iadd, 1) ∧ decode cX12_come 13 = .ok (.putfield 333, 3) ∧ decode cX12_come 16 = .ok (.aload_n 0, 1) ∧ decode cX12_come 17 = .ok (.getfield 7, 3) ∧ decode cX12_come 20 = .ok (.iload 4, 2) ∧ decode cX12_come 22 = .ok (.iload_n 2, 1) ∧ decode cX12_come 23 = .ok (.iastore, 1) ∧ decode cX12_come 24 = .ok (.aload_n 0, 1) ∧ decode cX12_come 25 = .ok (.getfield 13, 3) := by decide +kernel
theorem dX12_come_0 : decode cX12_come 0 = .ok (.aload_n 0, 1) := db_X12_come_0.1
theorem dX12_come_1 : decode cX12_come 1 = .ok (.getfield 333, 3) := db_X12_come_0.2.1
theorem dX12_come_4 : decode cX12_come 4 = .ok (.istore 4, 2) := db_X12_come_0.2.2.1
theorem dX12_come_6 : decode cX12_come 6 = .ok (.aload_n 0, 1) := db_X12_come_0.2.2.2.1
theorem dX12_come_7 : decode cX12_come 7 = .ok (.dup, 1) := db_X12_come_0.2.2.2.2.1
theorem dX12_come_8 : decode cX12_come 8 = .ok (.getfield 333, 3) := db_X12_come_0.2.2.2.2.2.1
theorem dX12_come_11 : decode cX12_come 11 = .ok (.iconst 1, 1) := db_X12_come_0.2.2.2.2.2.2.1
theorem dX12_come_12 : decode cX12_come 12 = .ok (.iadd, 1) := db_X12_come_0.2.2.2.2.2.2.2.1
theorem dX12_come_13 : decode cX12_come 13 = .ok (.putfield 333, 3) := db_X12_come_0.2.2.2.2.2.2.2.2.1
theorem dX12_come_16 : decode cX12_come 16 = .ok (.aload_n 0, 1) := db_X12_come_0.2.2.2.2.2.2.2.2.2.1
theorem dX12_come_17 : decode cX12_come 17 = .ok (.getfield 7, 3) := db_X12_come_0.2.2.2.2.2.2.2.2.2.2.1
theorem dX12_come_20 : decode cX12_come 20 = .ok (.iload 4, 2) := db_X12_come_0.2.2.2.2.2.2.2.2.2.2.2.1
theorem dX12_come_22 : decode cX12_come 22 = .ok (.iload_n 2, 1) := db_X12_come_0.2.2.2.2.2.2.2.2.2.2.2.2.1
theorem dX12_come_23 : decode cX12_come 23 = .ok (.iastore, 1) := db_X12_come_0.2.2.2.2.2.2.2.2.2.2.2.2.2.1
theorem dX12_come_24 : decode cX12_come 24 = .ok (.aload_n 0, 1) := db_X12_come_0.2.2.2.2.2.2.2.2.2.2.2.2.2.2.1
theorem dX12_come_25 : decode cX12_come 25 = .ok (.getfield 13, 3) := db_X12_come_0.2.2.2.2.2.2.2.2.2.2.2.2.2.2.2
theorem db_X12_come_28 : decode cX12_come 28 = .ok (.iload 4, 2) ∧ decode cX12_come 30 = .ok (.iload_n 3, 1) ∧ decode cX12_come 31 = .ok (.iastore, 1) ∧ decode cX12_come 32 = .ok (.aload_n 0, 1) ∧ decode cX12_come 33 = .ok (.getfield 19, 3) ∧ decode cX12_come 36 = .ok (.iload 4, 2) ∧ decode cX12_come 38 = .ok (.iload_n 1, 1) ∧ decode cX12_come 39 = .ok (.iastore, 1) ∧ decode cX12_come 40 = .ok (.aload_n 0, 1) ∧ decode cX12_come 41 = .ok (.getfield 22, 3) ∧ decode cX12_come 44 = .ok (.iload 4, 2) ∧ decode cX12_come 46 = .ok (.iconst 0, 1) ∧ decode cX12_come 47 = .ok (.iastore, 1) ∧ decode cX12_come 48 = .ok (.aload_n 0, 1) ∧ decode cX12_come 49 = .ok (.getfield 25, 3) ∧ decode cX12_come 52 = .ok (.iload 4, 2) := by decide +kernel
theorem dX12_come_28 : decode cX12_come 28 = .ok (.iload 4, 2) := db_X12_come_28.1
theorem dX12_come_30 : decode cX12_come 30 = .ok (.iload_n 3, 1) := db_X12_come_28.2.1
theorem dX12_come_31 : decode cX12_come 31 = .ok (.iastore, 1) := db_X12_come_28.2.2.1
theorem dX12_come_32 : decode cX12_come 32 = .ok (.aload_n 0, 1) := db_X12_come_28.2.2.2.1
theorem dX12_come_33 : decode cX12_come 33 = .ok (.getfield 19, 3) := db_X12_come_28.2.2.2.2.1
theorem dX12_come_36 : decode cX12_come 36 = .ok (.iload 4, 2) := db_X12_come_28.2.2.2.2.2.1
theorem dX12_come_38 : decode cX12_come 38 = .ok (.iload_n 1, 1) := db_X12_come_28.2.2.2.2.2.2.1
theorem dX12_come_39 : decode cX12_come 39 = .ok (.iastore, 1) := db_X12_come_28.2.2.2.2.2.2.2.1
theorem dX12_come_40 : decode cX12_come 40 = .ok (.aload_n 0, 1) := db_X12_come_28.2.2.2.2.2.2.2.2.1
theorem dX12_come_41 : decode cX12_come 41 = .ok (.getfield 22, 3) := db_X12_come_28.2.2.2.2.2.2.2.2.2.1
theorem dX12_come_44 : decode cX12_come 44 = .ok (.iload 4, 2) := db_X12_come_28.2.2.2.2.2.2.2.2.2.2.1
theorem dX12_come_46 : decode cX12_come 46 = .ok (.iconst 0, 1) := db_X12_come_28.2.2.2.2.2.2.2.2.2.2.2.1
theorem dX12_come_47 : decode cX12_come 47 = .ok (.iastore, 1) := db_X12_come_28.2.2.2.2.2.2.2.2.2.2.2.2.1
theorem dX12_come_48 : decode cX12_come 48 = .ok (.aload_n 0, 1) := db_X12_come_28.2.2.2.2.2.2.2.2.2.2.2.2.2.1
theorem dX12_come_49 : decode cX12_come 49 = .ok (.getfield 25, 3) := db_X12_come_28.2.2.2.2.2.2.2.2.2.2.2.2.2.2.1
theorem dX12_come_52 : decode cX12_come 52 = .ok (.iload 4, 2) := db_X12_come_28.2.2.2.2.2.2.2.2.2.2.2.2.2.2.2
theorem db_X12_come_54 : decode cX12_come 54 = .ok (.aload_n 0, 1) ∧ decode cX12_come 55 = .ok (.getfield 330, 3) ∧ decode cX12_come 58 = .ok (.iastore, 1) ∧ decode cX12_come 59 = .ok (.aload_n 0, 1) ∧ decode cX12_come 60 = .ok (.getfield 28, 3) ∧ decode cX12_come 63 = .ok (.iload 4, 2) ∧ decode cX12_come 65 = .ok (.aload_n 0, 1) ∧ decode cX12_come 66 = .ok (.getfield 330, 3) ∧ decode cX12_come 69 = .ok (.iastore, 1) ∧ decode cX12_come 70 = .ok (.aload_n 0, 1) ∧ decode cX12_come 71 = .ok (.getfield 31, 3) ∧ decode cX12_come 74 = .ok (.iload 4, 2) ∧ decode cX12_come 76 = .ok (.iconst 0, 1) ∧ decode cX12_come 77 = .ok (.iastore, 1) ∧ decode cX12_come 78 = .ok (.aload_n 0, 1) ∧ decode cX12_come 79 = .ok (.getfield 34, 3) := by decide +kernel
theorem dX12_come_54 : decode cX12_come 54 = .ok (.aload_n 0, 1) := db_X12_come_54.1
theorem dX12_come_55 : decode cX12_come 55 = .ok (.getfield 330, 3) := db_X12_come_54.2.1
theorem dX12_come_58 : decode cX12_come 58 = .ok (.iastore, 1) := db_X12_come_54.2.2.1
theorem dX12_come_59 : decode cX12_come 59 = .ok (.aload_n 0, 1) := db_X12_come_54.2.2.2.1
theorem dX12_come_60 : decode cX12_come 60 = .ok (.getfield 28, 3) := db_X12_come_54.2.2.2.2.1
theorem dX12_come_63 : decode cX12_come 63 = .ok (.iload 4, 2) := db_X12_come_54.2.2.2.2.2.1
theorem dX12_come_65 : decode cX12_come 65 = .ok (.aload_n 0, 1) := db_X12_come_54.2.2.2.2.2.2.1
theorem dX12_come_66 : decode cX12_come 66 = .ok (.getfield 330, 3) := db_X12_come_54.2.2.2.2.2.2.2.1
theorem dX12_come_69 : decode cX12_come 69 = .ok (.iastore, 1) := db_X12_come_54.2.2.2.2.2.2.2.2.1
theorem dX12_come_70 : decode cX12_come 70 = .ok (.aload_n 0, 1) := db_X12_come_54.2.2.2.2.2.2.2.2.2.1
theorem dX12_come_71 : decode cX12_come 71 = .ok (.getfield 31, 3) := db_X12_come_54.2.2.2.2.2.2.2.2.2.2.1
theorem dX12_come_74 : decode cX12_come 74 = .ok (.iload 4, 2) := db_X12_come_54.2.2.2.2.2.2.2.2.2.2.2.1
theorem dX12_come_76 : decode cX12_come 76 = .ok (.iconst 0, 1) := db_X12_come_54.2.2.2.2.2.2.2.2.2.2.2.2.1
theorem dX12_come_77 : decode cX12_come 77 = .ok (.iastore, 1) := db_X12_come_54.2.2.2.2.2.2.2.2.2.2.2.2.2.1
theorem dX12_come_78 : decode cX12_come 78 = .ok (.aload_n 0, 1) := db_X12_come_54.2.2.2.2.2.2.2.2.2.2.2.2.2.2.1
theorem dX12_come_79 : decode cX12_come 79 = .ok (.getfield 34, 3) := db_X12_come_54.2.2.2.2.2.2.2.2.2.2.2.2.2.2.2
theorem db_X12_come_82 : decode cX12_come 82 = .ok (.iload 4, 2) ∧ decode cX12_come 84 = .ok (.iconst 0, 1) ∧ decode cX12_come 85 = .ok (.bastore, 1) ∧ decode cX12_come 86 = .ok (.aload_n 0, 1) ∧ decode cX12_come 87 = .ok (.getfield 38, 3) ∧ decode cX12_come 90 = .ok (.iload 4, 2) ∧ decode cX12_come 92 = .ok (.iconst 0, 1) ∧ decode cX12_come 93 = .ok (.iastore, 1) ∧ decode cX12_come 94 = .ok (.aload_n 0, 1) ∧ decode cX12_come 95 = .ok (.getfield 50, 3) ∧ decode cX12_come 98 = .ok (.iload 4, 2) ∧ decode cX12_come 100 = .ok (.iconst 0, 1) ∧ decode cX12_come 101 = .ok (.iastore, 1) ∧ decode cX12_come 102 = .ok (.aload_n 0, 1) ∧ decode cX12_come 103 = .ok (.iload_n 1, 1) ∧ decode cX12_come 104 = .ok (.aload_n 0, 1) := by decide +kernel
theorem dX12_come_82 : decode cX12_come 82 = .ok (.iload 4, 2) := db_X12_come_82.1
theorem dX12_come_84 : decode cX12_come 84 = .ok (.iconst 0, 1) := db_X12_come_82.2.1
theorem dX12_come_85 : decode cX12_come 85 = .ok (.bastore, 1) := db_X12_come_82.2.2.1
theorem dX12_come_86 : decode cX12_come 86 = .ok (.aload_n 0, 1) := db_X12_come_82.2.2.2.1
theorem dX12_come_87 : decode cX12_come 87 = .ok (.getfield 38, 3) := db_X12_come_82.2.2.2.2.1
theorem dX12_come_90 : decode cX12_come 90 = .ok (.iload 4, 2) := db_X12_come_82.2.2.2.2.2.1
theorem dX12_come_92 : decode cX12_come 92 = .ok (.iconst 0, 1) := db_X12_come_82.2.2.2.2.2.2.1
theorem dX12_come_93 : decode cX12_come 93 = .ok (.iastore, 1) := db_X12_come_82.2.2.2.2.2.2.2.1
theorem dX12_come_94 : decode cX12_come 94 = .ok (.aload_n 0, 1) := db_X12_come_82.2.2.2.2.2.2.2.2.1
theorem dX12_come_95 : decode cX12_come 95 = .ok (.getfield 50, 3) := db_X12_come_82.2.2.2.2.2.2.2.2.2.1
theorem dX12_come_98 : decode cX12_come 98 = .ok (.iload 4, 2) := db_X12_come_82.2.2.2.2.2.2.2.2.2.2.1
theorem dX12_come_100 : decode cX12_come 100 = .ok (.iconst 0, 1) := db_X12_come_82.2.2.2.2.2.2.2.2.2.2.2.1
theorem dX12_come_101 : decode cX12_come 101 = .ok (.iastore, 1) := db_X12_come_82.2.2.2.2.2.2.2.2.2.2.2.2.1
theorem dX12_come_102 : decode cX12_come 102 = .ok (.aload_n 0, 1) := db_X12_come_82.2.2.2.2.2.2.2.2.2.2.2.2.2.1
theorem dX12_come_103 : decode cX12_come 103 = .ok (.iload_n 1, 1) := db_X12_come_82.2.2.2.2.2.2.2.2.2.2.2.2.2.2.1
theorem dX12_come_104 : decode cX12_come 104 = .ok (.aload_n 0, 1) := db_X12_come_82.2.2.2.2.2.2.2.2.2.2.2.2.2.2.2
theorem db_X12_come_105 : decode cX12_come 105 = .ok (.getfield 321, 3) ∧ decode cX12_come 108 = .ok (.iconst 1, 1) ∧ decode cX12_come 109 = .ok (.iload 4, 2) ∧ decode cX12_come 111 = .ok (.iconst 0, 1) ∧ decode cX12_come 112 = .ok (.invokevirtual 589, 3) ∧ decode cX12_come 115 = .ok (.iload 4, 2) ∧ decode cX12_come 117 = .ok (.ireturn, 1) := by decide +kernel
theorem dX12_come_105 : decode cX12_come 105 = .ok (.getfield 321, 3) := db_X12_come_105.1
theorem dX12_come_108 : decode cX12_come 108 = .ok (.iconst 1, 1) := db_X12_come_105.2.1
theorem dX12_come_109 : decode cX12_come 109 = .ok (.iload 4, 2) := db_X12_come_105.2.2.1
theorem dX12_come_111 : decode cX12_come 111 = .ok (.iconst 0, 1) := db_X12_come_105.2.2.2.1
theorem dX12_come_112 : decode cX12_come 112 = .ok (.invokevirtual 589, 3) := db_X12_come_105.2.2.2.2.1
theorem dX12_come_115 : decode cX12_come 115 = .ok (.iload 4, 2) := db_X12_come_105.2.2.2.2.2.1
theorem dX12_come_117 : decode cX12_come 117 = .ok (.ireturn, 1) := db_X12_come_105.2.2.2.2.2.2
theorem db_X12_takeDraft_0 : decode cX12_takeDraft 0 = .ok (.iconst 0, 1) ∧ decode cX12_takeDraft 1 = .ok (.istore_n 2, 1) ∧ decode cX12_takeDraft 2 = .ok (.iload_n 2, 1) ∧ decode cX12_takeDraft 3 = .ok (.aload_n 0, 1) ∧ decode cX12_takeDraft 4 = .ok (.getfield 772, 3) ∧ decode cX12_takeDraft 7 = .ok (.if_icmp .ge 26, 3) ∧ decode cX12_takeDraft 33 = .ok (.aload_n 0, 1) ∧ decode cX12_takeDraft 34 = .ok (.getfield 50, 3) ∧ decode cX12_takeDraft 37 = .ok (.iload_n 1, 1) ∧ decode cX12_takeDraft 38 = .ok (.aload_n 0, 1) ∧ decode cX12_takeDraft 39 = .ok (.getfield 772, 3) ∧ decode cX12_takeDraft 42 = .ok (.iastore, 1) ∧ decode cX12_takeDraft 43 = .ok (.aload_n 0, 1) ∧ decode cX12_takeDraft 44 = .ok (.iconst 0, 1) ∧ decode cX12_takeDraft 45 = .ok (.putfield 772, 3) ∧ decode cX12_takeDraft 48 = .ok (.return_, 1) := by decide +kernel
theorem dX12_takeDraft_0 : decode cX12_takeDraft 0 = .ok (.iconst 0, 1) := db_X12_takeDraft_0.1
theorem dX12_takeDraft_1 : decode cX12_takeDraft 1 = .ok (.istore_n 2, 1) := db_X12_takeDraft_0.2.1
theorem dX12_takeDraft_2 : decode cX12_takeDraft 2 = .ok (.iload_n 2, 1) := db_X12_takeDraft_0.2.2.1
theorem dX12_takeDraft_3 : decode cX12_takeDraft 3 = .ok (.aload_n 0, 1) := db_X12_takeDraft_0.2.2.2.1
theorem dX12_takeDraft_4 : decode cX12_takeDraft 4 = .ok (.getfield 772, 3) := db_X12_takeDraft_0.2.2.2.2.1
theorem dX12_takeDraft_7 : decode cX12_takeDraft 7 = .ok (.if_icmp .ge 26, 3) := db_X12_takeDraft_0.2.2.2.2.2.1
theorem dX12_takeDraft_33 : decode cX12_takeDraft 33 = .ok (.aload_n 0, 1) := db_X12_takeDraft_0.2.2.2.2.2.2.1
theorem dX12_takeDraft_34 : decode cX12_takeDraft 34 = .ok (.getfield 50, 3) := db_X12_takeDraft_0.2.2.2.2.2.2.2.1
theorem dX12_takeDraft_37 : decode cX12_takeDraft 37 = .ok (.iload_n 1, 1) := db_X12_takeDraft_0.2.2.2.2.2.2.2.2.1
theorem dX12_takeDraft_38 : decode cX12_takeDraft 38 = .ok (.aload_n 0, 1) := db_X12_takeDraft_0.2.2.2.2.2.2.2.2.2.1
theorem dX12_takeDraft_39 : decode cX12_takeDraft 39 = .ok (.getfield 772, 3) := db_X12_takeDraft_0.2.2.2.2.2.2.2.2.2.2.1
theorem dX12_takeDraft_42 : decode cX12_takeDraft 42 = .ok (.iastore, 1) := db_X12_takeDraft_0.2.2.2.2.2.2.2.2.2.2.2.1
theorem dX12_takeDraft_43 : decode cX12_takeDraft 43 = .ok (.aload_n 0, 1) := db_X12_takeDraft_0.2.2.2.2.2.2.2.2.2.2.2.2.1
theorem dX12_takeDraft_44 : decode cX12_takeDraft 44 = .ok (.iconst 0, 1) := db_X12_takeDraft_0.2.2.2.2.2.2.2.2.2.2.2.2.2.1
theorem dX12_takeDraft_45 : decode cX12_takeDraft 45 = .ok (.putfield 772, 3) := db_X12_takeDraft_0.2.2.2.2.2.2.2.2.2.2.2.2.2.2.1
theorem dX12_takeDraft_48 : decode cX12_takeDraft 48 = .ok (.return_, 1) := db_X12_takeDraft_0.2.2.2.2.2.2.2.2.2.2.2.2.2.2.2
theorem db_X12_isText_0 : decode cX12_isText 0 = .ok (.aload_n 0, 1) ∧ decode cX12_isText 1 = .ok (.getfield 772, 3) ∧ decode cX12_isText 4 = .ok (.iload_n 1, 1) ∧ decode cX12_isText 5 = .ok (.if_icmp .gt 7, 3) ∧ decode cX12_isText 8 = .ok (.iconst 1, 1) ∧ decode cX12_isText 9 = .ok (.goto 4, 3) ∧ decode cX12_isText 13 = .ok (.istore_n 2, 1) ∧ decode cX12_isText 14 = .ok (.iconst 0, 1) ∧ decode cX12_isText 15 = .ok (.istore_n 3, 1) ∧ decode cX12_isText 16 = .ok (.iload_n 3, 1) ∧ decode cX12_isText 17 = .ok (.aload_n 0, 1) ∧ decode cX12_isText 18 = .ok (.getfield 772, 3) ∧ decode cX12_isText 21 = .ok (.if_icmp .ge 41, 3) ∧ decode cX12_isText 62 = .ok (.iload_n 2, 1) ∧ decode cX12_isText 63 = .ok (.ireturn, 1) := by decide +kernel
theorem dX12_isText_0 : decode cX12_isText 0 = .ok (.aload_n 0, 1) := db_X12_isText_0.1
theorem dX12_isText_1 : decode cX12_isText 1 = .ok (.getfield 772, 3) := db_X12_isText_0.2.1
theorem dX12_isText_4 : decode cX12_isText 4 = .ok (.iload_n 1, 1) := db_X12_isText_0.2.2.1
theorem dX12_isText_5 : decode cX12_isText 5 = .ok (.if_icmp .gt 7, 3) := db_X12_isText_0.2.2.2.1
theorem dX12_isText_8 : decode cX12_isText 8 = .ok (.iconst 1, 1) := db_X12_isText_0.2.2.2.2.1
theorem dX12_isText_9 : decode cX12_isText 9 = .ok (.goto 4, 3) := db_X12_isText_0.2.2.2.2.2.1
theorem dX12_isText_13 : decode cX12_isText 13 = .ok (.istore_n 2, 1) := db_X12_isText_0.2.2.2.2.2.2.1
theorem dX12_isText_14 : decode cX12_isText 14 = .ok (.iconst 0, 1) := db_X12_isText_0.2.2.2.2.2.2.2.1
theorem dX12_isText_15 : decode cX12_isText 15 = .ok (.istore_n 3, 1) := db_X12_isText_0.2.2.2.2.2.2.2.2.1
theorem dX12_isText_16 : decode cX12_isText 16 = .ok (.iload_n 3, 1) := db_X12_isText_0.2.2.2.2.2.2.2.2.2.1
theorem dX12_isText_17 : decode cX12_isText 17 = .ok (.aload_n 0, 1) := db_X12_isText_0.2.2.2.2.2.2.2.2.2.2.1
theorem dX12_isText_18 : decode cX12_isText 18 = .ok (.getfield 772, 3) := db_X12_isText_0.2.2.2.2.2.2.2.2.2.2.2.1
theorem dX12_isText_21 : decode cX12_isText 21 = .ok (.if_icmp .ge 41, 3) := db_X12_isText_0.2.2.2.2.2.2.2.2.2.2.2.2.1
theorem dX12_isText_62 : decode cX12_isText 62 = .ok (.iload_n 2, 1) := db_X12_isText_0.2.2.2.2.2.2.2.2.2.2.2.2.2.1
theorem dX12_isText_63 : decode cX12_isText 63 = .ok (.ireturn, 1) := db_X12_isText_0.2.2.2.2.2.2.2.2.2.2.2.2.2.2
theorem db_X12_put_0 : decode cX12_put 0 = .ok (.aload_n 0, 1) ∧ decode cX12_put 1 = .ok (.aload_n 0, 1) ∧ decode cX12_put 2 = .ok (.iload_n 1, 1) ∧ decode cX12_put 3 = .ok (.invokevirtual 777, 3) ∧ decode cX12_put 6 = .ok (.ifCond .eq 13, 3) ∧ decode cX12_put 9 = .ok (.iload_n 2, 1) ∧ decode cX12_put 10 = .ok (.ifCond .lt 9, 3) ∧ decode cX12_put 13 = .ok (.iload_n 2, 1) ∧ decode cX12_put 14 = .ok (.bipush 99, 2) ∧ decode cX12_put 16 = .ok (.if_icmp .le 7, 3) ∧ decode cX12_put 19 = .ok (.iconst 1, 1) ∧ decode cX12_put 20 = .ok (.goto 40, 3) ∧ decode cX12_put 23 = .ok (.aload_n 0, 1) ∧ decode cX12_put 24 = .ok (.bipush 40, 2) ∧ decode cX12_put 26 = .ok (.invokevirtual 780, 3) ∧ decode cX12_put 29 = .ok (.ifCond .ne 7, 3) := by decide +kernel
theorem dX12_put_0 : decode cX12_put 0 = .ok (.aload_n 0, 1) := db_X12_put_0.1
theorem dX12_put_1 : decode cX12_put 1 = .ok (.aload_n 0, 1) := db_X12_put_0.2.1
theorem dX12_put_2 : decode cX12_put 2 = .ok (.iload_n 1, 1) := db_X12_put_0.2.2.1
theorem dX12_put_3 : decode cX12_put 3 = .ok (.invokevirtual 777, 3) := db_X12_put_0.2.2.2.1
theorem dX12_put_6 : decode cX12_put 6 = .ok (.ifCond .eq 13, 3) := db_X12_put_0.2.2.2.2.1
theorem dX12_put_9 : decode cX12_put 9 = .ok (.iload_n 2, 1) := db_X12_put_0.2.2.2.2.2.1
theorem dX12_put_10 : decode cX12_put 10 = .ok (.ifCond .lt 9, 3) := db_X12_put_0.2.2.2.2.2.2.1
theorem dX12_put_13 : decode cX12_put 13 = .ok (.iload_n 2, 1) := db_X12_put_0.2.2.2.2.2.2.2.1
theorem dX12_put_14 : decode cX12_put 14 = .ok (.bipush 99, 2) := db_X12_put_0.2.2.2.2.2.2.2.2.1
theorem dX12_put_16 : decode cX12_put 16 = .ok (.if_icmp .le 7, 3) := db_X12_put_0.2.2.2.2.2.2.2.2.2.1
theorem dX12_put_19 : decode cX12_put 19 = .ok (.iconst 1, 1) := db_X12_put_0.2.2.2.2.2.2.2.2.2.2.1
theorem dX12_put_20 : decode cX12_put 20 = .ok (.goto 40, 3) := db_X12_put_0.2.2.2.2.2.2.2.2.2.2.2.1
theorem dX12_put_23 : decode cX12_put 23 = .ok (.aload_n 0, 1) := db_X12_put_0.2.2.2.2.2.2.2.2.2.2.2.2.1
theorem dX12_put_24 : decode cX12_put 24 = .ok (.bipush 40, 2) := db_X12_put_0.2.2.2.2.2.2.2.2.2.2.2.2.2.1
theorem dX12_put_26 : decode cX12_put 26 = .ok (.invokevirtual 780, 3) := db_X12_put_0.2.2.2.2.2.2.2.2.2.2.2.2.2.2.1
theorem dX12_put_29 : decode cX12_put 29 = .ok (.ifCond .ne 7, 3) := db_X12_put_0.2.2.2.2.2.2.2.2.2.2.2.2.2.2.2
theorem db_X12_put_36 : decode cX12_put 36 = .ok (.aload_n 0, 1) ∧ decode cX12_put 37 = .ok (.getfield 77, 3) ∧ decode cX12_put 40 = .ok (.iload_n 1, 1) ∧ decode cX12_put 41 = .ok (.baload, 1) ∧ decode cX12_put 42 = .ok (.ifCond .eq 13, 3) ∧ decode cX12_put 45 = .ok (.aload_n 0, 1) ∧ decode cX12_put 46 = .ok (.getfield 333, 3) ∧ decode cX12_put 49 = .ok (.sipush 500, 3) ∧ decode cX12_put 52 = .ok (.if_icmp .ne 7, 3) ∧ decode cX12_put 59 = .ok (.iconst 0, 1) ∧ decode cX12_put 60 = .ok (.putfield 317, 3) ∧ decode cX12_put 63 = .ok (.aload_n 0, 1) ∧ decode cX12_put 64 = .ok (.getfield 317, 3) ∧ decode cX12_put 67 = .ok (.ifCond .le 5, 3) ∧ decode cX12_put 70 = .ok (.iconst 0, 1) ∧ decode cX12_put 71 = .ok (.ireturn, 1) := by decide +kernel
theorem dX12_put_36 : decode cX12_put 36 = .ok (.aload_n 0, 1) := db_X12_put_36.1
theorem dX12_put_37 : decode cX12_put 37 = .ok (.getfield 77, 3) := db_X12_put_36.2.1
theorem dX12_put_40 : decode cX12_put 40 = .ok (.iload_n 1, 1) := db_X12_put_36.2.2.1
theorem dX12_put_41 : decode cX12_put 41 = .ok (.baload, 1) := db_X12_put_36.2.2.2.1
theorem dX12_put_42 : decode cX12_put 42 = .ok (.ifCond .eq 13, 3) := db_X12_put_36.2.2.2.2.1
theorem dX12_put_45 : decode cX12_put 45 = .ok (.aload_n 0, 1) := db_X12_put_36.2.2.2.2.2.1
theorem dX12_put_46 : decode cX12_put 46 = .ok (.getfield 333, 3) := db_X12_put_36.2.2.2.2.2.2.1
theorem dX12_put_49 : decode cX12_put 49 = .ok (.sipush 500, 3) := db_X12_put_36.2.2.2.2.2.2.2.1
theorem dX12_put_52 : decode cX12_put 52 = .ok (.if_icmp .ne 7, 3) := db_X12_put_36.2.2.2.2.2.2.2.2.1
theorem dX12_put_59 : decode cX12_put 59 = .ok (.iconst 0, 1) := db_X12_put_36.2.2.2.2.2.2.2.2.2.1
theorem dX12_put_60 : decode cX12_put 60 = .ok (.putfield 317, 3) := db_X12_put_36.2.2.2.2.2.2.2.2.2.2.1
theorem dX12_put_63 : decode cX12_put 63 = .ok (.aload_n 0, 1) := db_X12_put_36.2.2.2.2.2.2.2.2.2.2.2.1
theorem dX12_put_64 : decode cX12_put 64 = .ok (.getfield 317, 3) := db_X12_put_36.2.2.2.2.2.2.2.2.2.2.2.2.1
theorem dX12_put_67 : decode cX12_put 67 = .ok (.ifCond .le 5, 3) := db_X12_put_36.2.2.2.2.2.2.2.2.2.2.2.2.2.1
theorem dX12_put_70 : decode cX12_put 70 = .ok (.iconst 0, 1) := db_X12_put_36.2.2.2.2.2.2.2.2.2.2.2.2.2.2.1
theorem dX12_put_71 : decode cX12_put 71 = .ok (.ireturn, 1) := db_X12_put_36.2.2.2.2.2.2.2.2.2.2.2.2.2.2.2
theorem db_X12_put_72 : decode cX12_put 72 = .ok (.aload_n 0, 1) ∧ decode cX12_put 73 = .ok (.iload_n 1, 1) ∧ decode cX12_put 74 = .ok (.iconst 0, 1) ∧ decode cX12_put 75 = .ok (.iload_n 2, 1) ∧ decode cX12_put 76 = .ok (.invokevirtual 783, 3) ∧ decode cX12_put 79 = .ok (.istore_n 3, 1) ∧ decode cX12_put 80 = .ok (.aload_n 0, 1) ∧ decode cX12_put 81 = .ok (.iload_n 3, 1) ∧ decode cX12_put 82 = .ok (.invokevirtual 786, 3) ∧ decode cX12_put 85 = .ok (.iload_n 3, 1) ∧ decode cX12_put 86 = .ok (.ireturn, 1) := by decide +kernel
theorem dX12_put_72 : decode cX12_put 72 = .ok (.aload_n 0, 1) := db_X12_put_72.1
theorem dX12_put_73 : decode cX12_put 73 = .ok (.iload_n 1, 1) := db_X12_put_72.2.1
theorem dX12_put_74 : decode cX12_put 74 = .ok (.iconst 0, 1) := db_X12_put_72.2.2.1
theorem dX12_put_75 : decode cX12_put 75 = .ok (.iload_n 2, 1) := db_X12_put_72.2.2.2.1
theorem dX12_put_76 : decode cX12_put 76 = .ok (.invokevirtual 783, 3) := db_X12_put_72.2.2.2.2.1
theorem dX12_put_79 : decode cX12_put 79 = .ok (.istore_n 3, 1) := db_X12_put_72.2.2.2.2.2.1
theorem dX12_put_80 : decode cX12_put 80 = .ok (.aload_n 0, 1) := db_X12_put_72.2.2.2.2.2.2.1
theorem dX12_put_81 : decode cX12_put 81 = .ok (.iload_n 3, 1) := db_X12_put_72.2.2.2.2.2.2.2.1
theorem dX12_put_82 : decode cX12_put 82 = .ok (.invokevirtual 786, 3) := db_X12_put_72.2.2.2.2.2.2.2.2.1
theorem dX12_put_85 : decode cX12_put 85 = .ok (.iload_n 3, 1) := db_X12_put_72.2.2.2.2.2.2.2.2.2.1
theorem dX12_put_86 : decode cX12_put 86 = .ok (.ireturn, 1) := db_X12_put_72.2.2.2.2.2.2.2.2.2.2
theorem db_X12_drop_0 : decode cX12_drop 0 = .ok (.aload_n 0, 1) ∧ decode cX12_drop 1 = .ok (.aload_n 0, 1) ∧ decode cX12_drop 2 = .ok (.iload_n 1, 1) ∧ decode cX12_drop 3 = .ok (.invokevirtual 777, 3) ∧ decode cX12_drop 6 = .ok (.ifCond .eq 13, 3) ∧ decode cX12_drop 9 = .ok (.iload_n 2, 1) ∧ decode cX12_drop 10 = .ok (.ifCond .lt 9, 3) ∧ decode cX12_drop 13 = .ok (.iload_n 2, 1) ∧ decode cX12_drop 14 = .ok (.bipush 99, 2) ∧ decode cX12_drop 16 = .ok (.if_icmp .le 7, 3) ∧ decode cX12_drop 19 = .ok (.iconst 1, 1) ∧ decode cX12_drop 20 = .ok (.goto 27, 3) ∧ decode cX12_drop 23 = .ok (.aload_n 0, 1) ∧ decode cX12_drop 24 = .ok (.getfield 77, 3) ∧ decode cX12_drop 27 = .ok (.iload_n 1, 1) ∧ decode cX12_drop 28 = .ok (.baload, 1) := by decide +kernel
theorem dX12_drop_0 : decode cX12_drop 0 = .ok (.aload_n 0, 1) := db_X12_drop_0.1
theorem dX12_drop_1 : decode cX12_drop 1 = .ok (.aload_n 0, 1) := db_X12_drop_0.2.1
theorem dX12_drop_2 : decode cX12_drop 2 = .ok (.iload_n 1, 1) := db_X12_drop_0.2.2.1
theorem dX12_drop_3 : decode cX12_drop 3 = .ok (.invokevirtual 777, 3) := db_X12_drop_0.2.2.2.1
theorem dX12_drop_6 : decode cX12_drop 6 = .ok (.ifCond .eq 13, 3) := db_X12_drop_0.2.2.2.2.1
theorem dX12_drop_9 : decode cX12_drop 9 = .ok (.iload_n 2, 1) := db_X12_drop_0.2.2.2.2.2.1
theorem dX12_drop_10 : decode cX12_drop 10 = .ok (.ifCond .lt 9, 3) := db_X12_drop_0.2.2.2.2.2.2.1
theorem dX12_drop_13 : decode cX12_drop 13 = .ok (.iload_n 2, 1) := db_X12_drop_0.2.2.2.2.2.2.2.1
theorem dX12_drop_14 : decode cX12_drop 14 = .ok (.bipush 99, 2) := db_X12_drop_0.2.2.2.2.2.2.2.2.1
theorem dX12_drop_16 : decode cX12_drop 16 = .ok (.if_icmp .le 7, 3) := db_X12_drop_0.2.2.2.2.2.2.2.2.2.1
theorem dX12_drop_19 : decode cX12_drop 19 = .ok (.iconst 1, 1) := db_X12_drop_0.2.2.2.2.2.2.2.2.2.2.1
theorem dX12_drop_20 : decode cX12_drop 20 = .ok (.goto 27, 3) := db_X12_drop_0.2.2.2.2.2.2.2.2.2.2.2.1
theorem dX12_drop_23 : decode cX12_drop 23 = .ok (.aload_n 0, 1) := db_X12_drop_0.2.2.2.2.2.2.2.2.2.2.2.2.1
theorem dX12_drop_24 : decode cX12_drop 24 = .ok (.getfield 77, 3) := db_X12_drop_0.2.2.2.2.2.2.2.2.2.2.2.2.2.1
theorem dX12_drop_27 : decode cX12_drop 27 = .ok (.iload_n 1, 1) := db_X12_drop_0.2.2.2.2.2.2.2.2.2.2.2.2.2.2.1
theorem dX12_drop_28 : decode cX12_drop 28 = .ok (.baload, 1) := db_X12_drop_0.2.2.2.2.2.2.2.2.2.2.2.2.2.2.2
theorem db_X12_drop_29 : decode cX12_drop 29 = .ok (.ifCond .eq 13, 3) ∧ decode cX12_drop 32 = .ok (.aload_n 0, 1) ∧ decode cX12_drop 33 = .ok (.getfield 333, 3) ∧ decode cX12_drop 36 = .ok (.sipush 500, 3) ∧ decode cX12_drop 39 = .ok (.if_icmp .ne 7, 3) ∧ decode cX12_drop 46 = .ok (.iconst 0, 1) ∧ decode cX12_drop 47 = .ok (.putfield 317, 3) ∧ decode cX12_drop 50 = .ok (.aload_n 0, 1) ∧ decode cX12_drop 51 = .ok (.getfield 317, 3) ∧ decode cX12_drop 54 = .ok (.ifCond .le 7, 3) ∧ decode cX12_drop 57 = .ok (.iconst 0, 1) ∧ decode cX12_drop 58 = .ok (.goto 10, 3) ∧ decode cX12_drop 61 = .ok (.aload_n 0, 1) ∧ decode cX12_drop 62 = .ok (.iload_n 1, 1) ∧ decode cX12_drop 63 = .ok (.iconst 1, 1) ∧ decode cX12_drop 64 = .ok (.iload_n 2, 1) := by decide +kernel
theorem dX12_drop_29 : decode cX12_drop 29 = .ok (.ifCond .eq 13, 3) := db_X12_drop_29.1
theorem dX12_drop_32 : decode cX12_drop 32 = .ok (.aload_n 0, 1) := db_X12_drop_29.2.1
theorem dX12_drop_33 : decode cX12_drop 33 = .ok (.getfield 333, 3) := db_X12_drop_29.2.2.1
theorem dX12_drop_36 : decode cX12_drop 36 = .ok (.sipush 500, 3) := db_X12_drop_29.2.2.2.1
theorem dX12_drop_39 : decode cX12_drop 39 = .ok (.if_icmp .ne 7, 3) := db_X12_drop_29.2.2.2.2.1
theorem dX12_drop_46 : decode cX12_drop 46 = .ok (.iconst 0, 1) := db_X12_drop_29.2.2.2.2.2.1
theorem dX12_drop_47 : decode cX12_drop 47 = .ok (.putfield 317, 3) := db_X12_drop_29.2.2.2.2.2.2.1
theorem dX12_drop_50 : decode cX12_drop 50 = .ok (.aload_n 0, 1) := db_X12_drop_29.2.2.2.2.2.2.2.1
theorem dX12_drop_51 : decode cX12_drop 51 = .ok (.getfield 317, 3) := db_X12_drop_29.2.2.2.2.2.2.2.2.1
theorem dX12_drop_54 : decode cX12_drop 54 = .ok (.ifCond .le 7, 3) := db_X12_drop_29.2.2.2.2.2.2.2.2.2.1
theorem dX12_drop_57 : decode cX12_drop 57 = .ok (.iconst 0, 1) := db_X12_drop_29.2.2.2.2.2.2.2.2.2.2.1
theorem dX12_drop_58 : decode cX12_drop 58 = .ok (.goto 10, 3) := db_X12_drop_29.2.2.2.2.2.2.2.2.2.2.2.1
theorem dX12_drop_61 : decode cX12_drop 61 = .ok (.aload_n 0, 1) := db_X12_drop_29.2.2.2.2.2.2.2.2.2.2.2.2.1
theorem dX12_drop_62 : decode cX12_drop 62 = .ok (.iload_n 1, 1) := db_X12_drop_29.2.2.2.2.2.2.2.2.2.2.2.2.2.1
theorem dX12_drop_63 : decode cX12_drop 63 = .ok (.iconst 1, 1) := db_X12_drop_29.2.2.2.2.2.2.2.2.2.2.2.2.2.2.1
theorem dX12_drop_64 : decode cX12_drop 64 = .ok (.iload_n 2, 1) := db_X12_drop_29.2.2.2.2.2.2.2.2.2.2.2.2.2.2.2
theorem dX12_drop_65 : decode cX12_drop 65 = .ok (.invokevirtual 783, 3) := by decide +kernel
theorem dX12_drop_68 : decode cX12_drop 68 = .ok (.ireturn, 1) := by decide +kernel
theorem db_X12_refresh_0 : decode cX12_refresh 0 = .ok (.aload_n 0, 1) ∧ decode cX12_refresh 1 = .ok (.aload_n 0, 1) ∧ decode cX12_refresh 2 = .ok (.iload_n 1, 1) ∧ decode cX12_refresh 3 = .ok (.invokevirtual 777, 3) ∧ decode cX12_refresh 6 = .ok (.ifCond .eq 15, 3) ∧ decode cX12_refresh 9 = .ok (.iload_n 2, 1) ∧ decode cX12_refresh 10 = .ok (.ifCond .lt 11, 3) ∧ decode cX12_refresh 13 = .ok (.iload_n 2, 1) ∧ decode cX12_refresh 14 = .ok (.aload_n 0, 1) ∧ decode cX12_refresh 15 = .ok (.getfield 327, 3) ∧ decode cX12_refresh 18 = .ok (.if_icmp .lt 7, 3) ∧ decode cX12_refresh 21 = .ok (.iconst 1, 1) ∧ decode cX12_refresh 22 = .ok (.goto 27, 3) ∧ decode cX12_refresh 25 = .ok (.aload_n 0, 1) ∧ decode cX12_refresh 26 = .ok (.getfield 77, 3) ∧ decode cX12_refresh 29 = .ok (.iload_n 1, 1) := by decide +kernel
theorem dX12_refresh_0 : decode cX12_refresh 0 = .ok (.aload_n 0, 1) := db_X12_refresh_0.1
theorem dX12_refresh_1 : decode cX12_refresh 1 = .ok (.aload_n 0, 1) := db_X12_refresh_0.2.1
theorem dX12_refresh_2 : decode cX12_refresh 2 = .ok (.iload_n 1, 1) := db_X12_refresh_0.2.2.1
theorem dX12_refresh_3 : decode cX12_refresh 3 = .ok (.invokevirtual 777, 3) := db_X12_refresh_0.2.2.2.1
theorem dX12_refresh_6 : decode cX12_refresh 6 = .ok (.ifCond .eq 15, 3) := db_X12_refresh_0.2.2.2.2.1
theorem dX12_refresh_9 : decode cX12_refresh 9 = .ok (.iload_n 2, 1) := db_X12_refresh_0.2.2.2.2.2.1
theorem dX12_refresh_10 : decode cX12_refresh 10 = .ok (.ifCond .lt 11, 3) := db_X12_refresh_0.2.2.2.2.2.2.1
theorem dX12_refresh_13 : decode cX12_refresh 13 = .ok (.iload_n 2, 1) := db_X12_refresh_0.2.2.2.2.2.2.2.1
theorem dX12_refresh_14 : decode cX12_refresh 14 = .ok (.aload_n 0, 1) := db_X12_refresh_0.2.2.2.2.2.2.2.2.1
theorem dX12_refresh_15 : decode cX12_refresh 15 = .ok (.getfield 327, 3) := db_X12_refresh_0.2.2.2.2.2.2.2.2.2.1
theorem dX12_refresh_18 : decode cX12_refresh 18 = .ok (.if_icmp .lt 7, 3) := db_X12_refresh_0.2.2.2.2.2.2.2.2.2.2.1
theorem dX12_refresh_21 : decode cX12_refresh 21 = .ok (.iconst 1, 1) := db_X12_refresh_0.2.2.2.2.2.2.2.2.2.2.2.1
theorem dX12_refresh_22 : decode cX12_refresh 22 = .ok (.goto 27, 3) := db_X12_refresh_0.2.2.2.2.2.2.2.2.2.2.2.2.1
theorem dX12_refresh_25 : decode cX12_refresh 25 = .ok (.aload_n 0, 1) := db_X12_refresh_0.2.2.2.2.2.2.2.2.2.2.2.2.2.1
theorem dX12_refresh_26 : decode cX12_refresh 26 = .ok (.getfield 77, 3) := db_X12_refresh_0.2.2.2.2.2.2.2.2.2.2.2.2.2.2.1
theorem dX12_refresh_29 : decode cX12_refresh 29 = .ok (.iload_n 1, 1) := db_X12_refresh_0.2.2.2.2.2.2.2.2.2.2.2.2.2.2.2
theorem db_X12_refresh_30 : decode cX12_refresh 30 = .ok (.baload, 1) ∧ decode cX12_refresh 31 = .ok (.ifCond .eq 13, 3) ∧ decode cX12_refresh 34 = .ok (.aload_n 0, 1) ∧ decode cX12_refresh 35 = .ok (.getfield 333, 3) ∧ decode cX12_refresh 38 = .ok (.sipush 500, 3) ∧ decode cX12_refresh 41 = .ok (.if_icmp .ne 7, 3) ∧ decode cX12_refresh 48 = .ok (.iconst 0, 1) ∧ decode cX12_refresh 49 = .ok (.putfield 317, 3) ∧ decode cX12_refresh 52 = .ok (.aload_n 0, 1) ∧ decode cX12_refresh 53 = .ok (.getfield 317, 3) ∧ decode cX12_refresh 56 = .ok (.ifCond .le 7, 3) ∧ decode cX12_refresh 59 = .ok (.iconst 0, 1) ∧ decode cX12_refresh 60 = .ok (.goto 10, 3) ∧ decode cX12_refresh 63 = .ok (.aload_n 0, 1) ∧ decode cX12_refresh 64 = .ok (.iload_n 1, 1) ∧ decode cX12_refresh 65 = .ok (.iconst 2, 1) := by decide +kernel
theorem dX12_refresh_30 : decode cX12_refresh 30 = .ok (.baload, 1) := db_X12_refresh_30.1
theorem dX12_refresh_31 : decode cX12_refresh 31 = .ok (.ifCond .eq 13, 3) := db_X12_refresh_30.2.1
theorem dX12_refresh_34 : decode cX12_refresh 34 = .ok (.aload_n 0, 1) := db_X12_refresh_30.2.2.1
theorem dX12_refresh_35 : decode cX12_refresh 35 = .ok (.getfield 333, 3) := db_X12_refresh_30.2.2.2.1
theorem dX12_refresh_38 : decode cX12_refresh 38 = .ok (.sipush 500, 3) := db_X12_refresh_30.2.2.2.2.1
theorem dX12_refresh_41 : decode cX12_refresh 41 = .ok (.if_icmp .ne 7, 3) := db_X12_refresh_30.2.2.2.2.2.1
theorem dX12_refresh_48 : decode cX12_refresh 48 = .ok (.iconst 0, 1) := db_X12_refresh_30.2.2.2.2.2.2.1
theorem dX12_refresh_49 : decode cX12_refresh 49 = .ok (.putfield 317, 3) := db_X12_refresh_30.2.2.2.2.2.2.2.1
theorem dX12_refresh_52 : decode cX12_refresh 52 = .ok (.aload_n 0, 1) := db_X12_refresh_30.2.2.2.2.2.2.2.2.1
theorem dX12_refresh_53 : decode cX12_refresh 53 = .ok (.getfield 317, 3) := db_X12_refresh_30.2.2.2.2.2.2.2.2.2.1
theorem dX12_refresh_56 : decode cX12_refresh 56 = .ok (.ifCond .le 7, 3) := db_X12_refresh_30.2.2.2.2.2.2.2.2.2.2.1
theorem dX12_refresh_59 : decode cX12_refresh 59 = .ok (.iconst 0, 1) := db_X12_refresh_30.2.2.2.2.2.2.2.2.2.2.2.1
theorem dX12_refresh_60 : decode cX12_refresh 60 = .ok (.goto 10, 3) := db_X12_refresh_30.2.2.2.2.2.2.2.2.2.2.2.2.1
theorem dX12_refresh_63 : decode cX12_refresh 63 = .ok (.aload_n 0, 1) := db_X12_refresh_30.2.2.2.2.2.2.2.2.2.2.2.2.2.1
theorem dX12_refresh_64 : decode cX12_refresh 64 = .ok (.iload_n 1, 1) := db_X12_refresh_30.2.2.2.2.2.2.2.2.2.2.2.2.2.2.1
theorem dX12_refresh_65 : decode cX12_refresh 65 = .ok (.iconst 2, 1) := db_X12_refresh_30.2.2.2.2.2.2.2.2.2.2.2.2.2.2.2
theorem db_X12_refresh_66 : decode cX12_refresh 66 = .ok (.iload_n 2, 1) ∧ decode cX12_refresh 67 = .ok (.invokevirtual 783, 3) ∧ decode cX12_refresh 70 = .ok (.ireturn, 1) := by decide +kernel
theorem dX12_refresh_66 : decode cX12_refresh 66 = .ok (.iload_n 2, 1) := db_X12_refresh_66.1
theorem dX12_refresh_67 : decode cX12_refresh 67 = .ok (.invokevirtual 783, 3) := db_X12_refresh_66.2.1
theorem dX12_refresh_70 : decode cX12_refresh 70 = .ok (.ireturn, 1) := db_X12_refresh_66.2.2
theorem db_X12_find_0 : decode cX12_find 0 = .ok (.aload_n 0, 1) ∧ decode cX12_find 1 = .ok (.aload_n 0, 1) ∧ decode cX12_find 2 = .ok (.iload_n 1, 1) ∧ decode cX12_find 3 = .ok (.invokevirtual 777, 3) ∧ decode cX12_find 6 = .ok (.ifCond .ne 7, 3) ∧ decode cX12_find 9 = .ok (.iconst 1, 1) ∧ decode cX12_find 10 = .ok (.goto 42, 3) ∧ decode cX12_find 13 = .ok (.iload_n 2, 1) ∧ decode cX12_find 14 = .ok (.iconst 1, 1) ∧ decode cX12_find 15 = .ok (.if_icmp .lt 9, 3) ∧ decode cX12_find 18 = .ok (.iload_n 2, 1) ∧ decode cX12_find 19 = .ok (.bipush 10, 2) ∧ decode cX12_find 21 = .ok (.if_icmp .le 7, 3) ∧ decode cX12_find 24 = .ok (.iconst 2, 1) ∧ decode cX12_find 25 = .ok (.goto 27, 3) ∧ decode cX12_find 28 = .ok (.aload_n 0, 1) := by decide +kernel
theorem dX12_find_0 : decode cX12_find 0 = .ok (.aload_n 0, 1) := db_X12_find_0.1
theorem dX12_find_1 : decode cX12_find 1 = .ok (.aload_n 0, 1) := db_X12_find_0.2.1
theorem dX12_find_2 : decode cX12_find 2 = .ok (.iload_n 1, 1) := db_X12_find_0.2.2.1
theorem dX12_find_3 : decode cX12_find 3 = .ok (.invokevirtual 777, 3) := db_X12_find_0.2.2.2.1
theorem dX12_find_6 : decode cX12_find 6 = .ok (.ifCond .ne 7, 3) := db_X12_find_0.2.2.2.2.1
theorem dX12_find_9 : decode cX12_find 9 = .ok (.iconst 1, 1) := db_X12_find_0.2.2.2.2.2.1
theorem dX12_find_10 : decode cX12_find 10 = .ok (.goto 42, 3) := db_X12_find_0.2.2.2.2.2.2.1
theorem dX12_find_13 : decode cX12_find 13 = .ok (.iload_n 2, 1) := db_X12_find_0.2.2.2.2.2.2.2.1
theorem dX12_find_14 : decode cX12_find 14 = .ok (.iconst 1, 1) := db_X12_find_0.2.2.2.2.2.2.2.2.1
theorem dX12_find_15 : decode cX12_find 15 = .ok (.if_icmp .lt 9, 3) := db_X12_find_0.2.2.2.2.2.2.2.2.2.1
theorem dX12_find_18 : decode cX12_find 18 = .ok (.iload_n 2, 1) := db_X12_find_0.2.2.2.2.2.2.2.2.2.2.1
theorem dX12_find_19 : decode cX12_find 19 = .ok (.bipush 10, 2) := db_X12_find_0.2.2.2.2.2.2.2.2.2.2.2.1
theorem dX12_find_21 : decode cX12_find 21 = .ok (.if_icmp .le 7, 3) := db_X12_find_0.2.2.2.2.2.2.2.2.2.2.2.2.1
theorem dX12_find_24 : decode cX12_find 24 = .ok (.iconst 2, 1) := db_X12_find_0.2.2.2.2.2.2.2.2.2.2.2.2.2.1
theorem dX12_find_25 : decode cX12_find 25 = .ok (.goto 27, 3) := db_X12_find_0.2.2.2.2.2.2.2.2.2.2.2.2.2.2.1
theorem dX12_find_28 : decode cX12_find 28 = .ok (.aload_n 0, 1) := db_X12_find_0.2.2.2.2.2.2.2.2.2.2.2.2.2.2.2
theorem db_X12_find_29 : decode cX12_find 29 = .ok (.getfield 77, 3) ∧ decode cX12_find 32 = .ok (.iload_n 1, 1) ∧ decode cX12_find 33 = .ok (.baload, 1) ∧ decode cX12_find 34 = .ok (.ifCond .eq 13, 3) ∧ decode cX12_find 37 = .ok (.aload_n 0, 1) ∧ decode cX12_find 38 = .ok (.getfield 333, 3) ∧ decode cX12_find 41 = .ok (.sipush 500, 3) ∧ decode cX12_find 44 = .ok (.if_icmp .ne 7, 3) ∧ decode cX12_find 51 = .ok (.iconst 0, 1) ∧ decode cX12_find 52 = .ok (.putfield 317, 3) ∧ decode cX12_find 55 = .ok (.aload_n 0, 1) ∧ decode cX12_find 56 = .ok (.getfield 317, 3) ∧ decode cX12_find 59 = .ok (.ifCond .le 5, 3) ∧ decode cX12_find 62 = .ok (.iconst 0, 1) ∧ decode cX12_find 63 = .ok (.ireturn, 1) ∧ decode cX12_find 64 = .ok (.aload_n 0, 1) := by decide +kernel
theorem dX12_find_29 : decode cX12_find 29 = .ok (.getfield 77, 3) := db_X12_find_29.1
theorem dX12_find_32 : decode cX12_find 32 = .ok (.iload_n 1, 1) := db_X12_find_29.2.1
theorem dX12_find_33 : decode cX12_find 33 = .ok (.baload, 1) := db_X12_find_29.2.2.1
theorem dX12_find_34 : decode cX12_find 34 = .ok (.ifCond .eq 13, 3) := db_X12_find_29.2.2.2.1
theorem dX12_find_37 : decode cX12_find 37 = .ok (.aload_n 0, 1) := db_X12_find_29.2.2.2.2.1
theorem dX12_find_38 : decode cX12_find 38 = .ok (.getfield 333, 3) := db_X12_find_29.2.2.2.2.2.1
theorem dX12_find_41 : decode cX12_find 41 = .ok (.sipush 500, 3) := db_X12_find_29.2.2.2.2.2.2.1
theorem dX12_find_44 : decode cX12_find 44 = .ok (.if_icmp .ne 7, 3) := db_X12_find_29.2.2.2.2.2.2.2.1
theorem dX12_find_51 : decode cX12_find 51 = .ok (.iconst 0, 1) := db_X12_find_29.2.2.2.2.2.2.2.2.1
theorem dX12_find_52 : decode cX12_find 52 = .ok (.putfield 317, 3) := db_X12_find_29.2.2.2.2.2.2.2.2.2.1
theorem dX12_find_55 : decode cX12_find 55 = .ok (.aload_n 0, 1) := db_X12_find_29.2.2.2.2.2.2.2.2.2.2.1
theorem dX12_find_56 : decode cX12_find 56 = .ok (.getfield 317, 3) := db_X12_find_29.2.2.2.2.2.2.2.2.2.2.2.1
theorem dX12_find_59 : decode cX12_find 59 = .ok (.ifCond .le 5, 3) := db_X12_find_29.2.2.2.2.2.2.2.2.2.2.2.2.1
theorem dX12_find_62 : decode cX12_find 62 = .ok (.iconst 0, 1) := db_X12_find_29.2.2.2.2.2.2.2.2.2.2.2.2.2.1
theorem dX12_find_63 : decode cX12_find 63 = .ok (.ireturn, 1) := db_X12_find_29.2.2.2.2.2.2.2.2.2.2.2.2.2.2.1
theorem dX12_find_64 : decode cX12_find 64 = .ok (.aload_n 0, 1) := db_X12_find_29.2.2.2.2.2.2.2.2.2.2.2.2.2.2.2
theorem db_X12_find_65 : decode cX12_find 65 = .ok (.getfield 333, 3) ∧ decode cX12_find 68 = .ok (.istore_n 3, 1) ∧ decode cX12_find 69 = .ok (.aload_n 0, 1) ∧ decode cX12_find 70 = .ok (.getfield 772, 3) ∧ decode cX12_find 73 = .ok (.istore 4, 2) ∧ decode cX12_find 75 = .ok (.iconst 0, 1) ∧ decode cX12_find 76 = .ok (.istore 5, 2) ∧ decode cX12_find 78 = .ok (.iload 5, 2) ∧ decode cX12_find 80 = .ok (.iload 4, 2) ∧ decode cX12_find 82 = .ok (.if_icmp .ge 28, 3) ∧ decode cX12_find 110 = .ok (.aload_n 0, 1) ∧ decode cX12_find 111 = .ok (.bipush 60, 2) ∧ decode cX12_find 113 = .ok (.iload_n 3, 1) ∧ decode cX12_find 114 = .ok (.imul, 1) ∧ decode cX12_find 115 = .ok (.iload 4, 2) ∧ decode cX12_find 117 = .ok (.invokevirtual 566, 3) := by decide +kernel
theorem dX12_find_65 : decode cX12_find 65 = .ok (.getfield 333, 3) := db_X12_find_65.1
theorem dX12_find_68 : decode cX12_find 68 = .ok (.istore_n 3, 1) := db_X12_find_65.2.1
theorem dX12_find_69 : decode cX12_find 69 = .ok (.aload_n 0, 1) := db_X12_find_65.2.2.1
theorem dX12_find_70 : decode cX12_find 70 = .ok (.getfield 772, 3) := db_X12_find_65.2.2.2.1
theorem dX12_find_73 : decode cX12_find 73 = .ok (.istore 4, 2) := db_X12_find_65.2.2.2.2.1
theorem dX12_find_75 : decode cX12_find 75 = .ok (.iconst 0, 1) := db_X12_find_65.2.2.2.2.2.1
theorem dX12_find_76 : decode cX12_find 76 = .ok (.istore 5, 2) := db_X12_find_65.2.2.2.2.2.2.1
theorem dX12_find_78 : decode cX12_find 78 = .ok (.iload 5, 2) := db_X12_find_65.2.2.2.2.2.2.2.1
theorem dX12_find_80 : decode cX12_find 80 = .ok (.iload 4, 2) := db_X12_find_65.2.2.2.2.2.2.2.2.1
theorem dX12_find_82 : decode cX12_find 82 = .ok (.if_icmp .ge 28, 3) := db_X12_find_65.2.2.2.2.2.2.2.2.2.1
theorem dX12_find_110 : decode cX12_find 110 = .ok (.aload_n 0, 1) := db_X12_find_65.2.2.2.2.2.2.2.2.2.2.1
theorem dX12_find_111 : decode cX12_find 111 = .ok (.bipush 60, 2) := db_X12_find_65.2.2.2.2.2.2.2.2.2.2.2.1
theorem dX12_find_113 : decode cX12_find 113 = .ok (.iload_n 3, 1) := db_X12_find_65.2.2.2.2.2.2.2.2.2.2.2.2.1
theorem dX12_find_114 : decode cX12_find 114 = .ok (.imul, 1) := db_X12_find_65.2.2.2.2.2.2.2.2.2.2.2.2.2.1
theorem dX12_find_115 : decode cX12_find 115 = .ok (.iload 4, 2) := db_X12_find_65.2.2.2.2.2.2.2.2.2.2.2.2.2.2.1
theorem dX12_find_117 : decode cX12_find 117 = .ok (.invokevirtual 566, 3) := db_X12_find_65.2.2.2.2.2.2.2.2.2.2.2.2.2.2.2
theorem db_X12_find_120 : decode cX12_find 120 = .ok (.aload_n 0, 1) ∧ decode cX12_find 121 = .ok (.getfield 550, 3) ∧ decode cX12_find 124 = .ok (.iconst (-1), 1) ∧ decode cX12_find 125 = .ok (.if_icmp .eq 16, 3) ∧ decode cX12_find 128 = .ok (.aload_n 0, 1) ∧ decode cX12_find 129 = .ok (.iconst 0, 1) ∧ decode cX12_find 130 = .ok (.putfield 772, 3) ∧ decode cX12_find 133 = .ok (.bipush (-2), 2) ∧ decode cX12_find 135 = .ok (.aload_n 0, 1) ∧ decode cX12_find 136 = .ok (.getfield 550, 3) ∧ decode cX12_find 139 = .ok (.isub, 1) ∧ decode cX12_find 140 = .ok (.ireturn, 1) := by decide +kernel
theorem dX12_find_120 : decode cX12_find 120 = .ok (.aload_n 0, 1) := db_X12_find_120.1
theorem dX12_find_121 : decode cX12_find 121 = .ok (.getfield 550, 3) := db_X12_find_120.2.1
theorem dX12_find_124 : decode cX12_find 124 = .ok (.iconst (-1), 1) := db_X12_find_120.2.2.1
theorem dX12_find_125 : decode cX12_find 125 = .ok (.if_icmp .eq 16, 3) := db_X12_find_120.2.2.2.1
theorem dX12_find_128 : decode cX12_find 128 = .ok (.aload_n 0, 1) := db_X12_find_120.2.2.2.2.1
theorem dX12_find_129 : decode cX12_find 129 = .ok (.iconst 0, 1) := db_X12_find_120.2.2.2.2.2.1
theorem dX12_find_130 : decode cX12_find 130 = .ok (.putfield 772, 3) := db_X12_find_120.2.2.2.2.2.2.1
theorem dX12_find_133 : decode cX12_find 133 = .ok (.bipush (-2), 2) := db_X12_find_120.2.2.2.2.2.2.2.1
theorem dX12_find_135 : decode cX12_find 135 = .ok (.aload_n 0, 1) := db_X12_find_120.2.2.2.2.2.2.2.2.1
theorem dX12_find_136 : decode cX12_find 136 = .ok (.getfield 550, 3) := db_X12_find_120.2.2.2.2.2.2.2.2.2.1
theorem dX12_find_139 : decode cX12_find 139 = .ok (.isub, 1) := db_X12_find_120.2.2.2.2.2.2.2.2.2.2.1
theorem dX12_find_140 : decode cX12_find 140 = .ok (.ireturn, 1) := db_X12_find_120.2.2.2.2.2.2.2.2.2.2.2
theorem db_X12_request_0 : decode cX12_request 0 = .ok (.aload_n 0, 1) ∧ decode cX12_request 1 = .ok (.iload_n 1, 1) ∧ decode cX12_request 2 = .ok (.ifCond .lt 20, 3) ∧ decode cX12_request 5 = .ok (.iload_n 1, 1) ∧ decode cX12_request 6 = .ok (.aload_n 0, 1) ∧ decode cX12_request 7 = .ok (.getfield 333, 3) ∧ decode cX12_request 10 = .ok (.if_icmp .ge 12, 3) ∧ decode cX12_request 22 = .ok (.iconst 1, 1) ∧ decode cX12_request 23 = .ok (.goto 4, 3) ∧ decode cX12_request 27 = .ok (.putfield 317, 3) ∧ decode cX12_request 30 = .ok (.aload_n 0, 1) ∧ decode cX12_request 31 = .ok (.getfield 317, 3) ∧ decode cX12_request 34 = .ok (.ifCond .le 5, 3) ∧ decode cX12_request 37 = .ok (.iconst 0, 1) ∧ decode cX12_request 38 = .ok (.ireturn, 1) := by decide +kernel
theorem dX12_request_0 : decode cX12_request 0 = .ok (.aload_n 0, 1) := db_X12_request_0.1
theorem dX12_request_1 : decode cX12_request 1 = .ok (.iload_n 1, 1) := db_X12_request_0.2.1
theorem dX12_request_2 : decode cX12_request 2 = .ok (.ifCond .lt 20, 3) := db_X12_request_0.2.2.1
theorem dX12_request_5 : decode cX12_request 5 = .ok (.iload_n 1, 1) := db_X12_request_0.2.2.2.1
theorem dX12_request_6 : decode cX12_request 6 = .ok (.aload_n 0, 1) := db_X12_request_0.2.2.2.2.1
theorem dX12_request_7 : decode cX12_request 7 = .ok (.getfield 333, 3) := db_X12_request_0.2.2.2.2.2.1
theorem dX12_request_10 : decode cX12_request 10 = .ok (.if_icmp .ge 12, 3) := db_X12_request_0.2.2.2.2.2.2.1
theorem dX12_request_22 : decode cX12_request 22 = .ok (.iconst 1, 1) := db_X12_request_0.2.2.2.2.2.2.2.1
theorem dX12_request_23 : decode cX12_request 23 = .ok (.goto 4, 3) := db_X12_request_0.2.2.2.2.2.2.2.2.1
theorem dX12_request_27 : decode cX12_request 27 = .ok (.putfield 317, 3) := db_X12_request_0.2.2.2.2.2.2.2.2.2.1
theorem dX12_request_30 : decode cX12_request 30 = .ok (.aload_n 0, 1) := db_X12_request_0.2.2.2.2.2.2.2.2.2.2.1
theorem dX12_request_31 : decode cX12_request 31 = .ok (.getfield 317, 3) := db_X12_request_0.2.2.2.2.2.2.2.2.2.2.2.1
theorem dX12_request_34 : decode cX12_request 34 = .ok (.ifCond .le 5, 3) := db_X12_request_0.2.2.2.2.2.2.2.2.2.2.2.2.1
theorem dX12_request_37 : decode cX12_request 37 = .ok (.iconst 0, 1) := db_X12_request_0.2.2.2.2.2.2.2.2.2.2.2.2.2.1
theorem dX12_request_38 : decode cX12_request 38 = .ok (.ireturn, 1) := db_X12_request_0.2.2.2.2.2.2.2.2.2.2.2.2.2.2
theorem db_X12_hit_0 : decode cX12_hit 0 = .ok (.iload_n 1, 1) ∧ decode cX12_hit 1 = .ok (.ifCond .lt 58, 3) ∧ decode cX12_hit 4 = .ok (.iload_n 1, 1) ∧ decode cX12_hit 5 = .ok (.aload_n 0, 1) ∧ decode cX12_hit 6 = .ok (.getfield 333, 3) ∧ decode cX12_hit 9 = .ok (.if_icmp .ge 50, 3) ∧ decode cX12_hit 59 = .ok (.iconst 0, 1) ∧ decode cX12_hit 60 = .ok (.istore 4, 2) ∧ decode cX12_hit 62 = .ok (.aload_n 0, 1) ∧ decode cX12_hit 63 = .ok (.iload 4, 2) ∧ decode cX12_hit 65 = .ok (.ifCond .eq 7, 3) ∧ decode cX12_hit 72 = .ok (.iconst 1, 1) ∧ decode cX12_hit 73 = .ok (.putfield 317, 3) ∧ decode cX12_hit 76 = .ok (.iload 4, 2) ∧ decode cX12_hit 78 = .ok (.ifCond .ne 7, 3) ∧ decode cX12_hit 81 = .ok (.iconst 0, 1) := by decide +kernel
theorem dX12_hit_0 : decode cX12_hit 0 = .ok (.iload_n 1, 1) := db_X12_hit_0.1
theorem dX12_hit_1 : decode cX12_hit 1 = .ok (.ifCond .lt 58, 3) := db_X12_hit_0.2.1
theorem dX12_hit_4 : decode cX12_hit 4 = .ok (.iload_n 1, 1) := db_X12_hit_0.2.2.1
theorem dX12_hit_5 : decode cX12_hit 5 = .ok (.aload_n 0, 1) := db_X12_hit_0.2.2.2.1
theorem dX12_hit_6 : decode cX12_hit 6 = .ok (.getfield 333, 3) := db_X12_hit_0.2.2.2.2.1
theorem dX12_hit_9 : decode cX12_hit 9 = .ok (.if_icmp .ge 50, 3) := db_X12_hit_0.2.2.2.2.2.1
theorem dX12_hit_59 : decode cX12_hit 59 = .ok (.iconst 0, 1) := db_X12_hit_0.2.2.2.2.2.2.1
theorem dX12_hit_60 : decode cX12_hit 60 = .ok (.istore 4, 2) := db_X12_hit_0.2.2.2.2.2.2.2.1
theorem dX12_hit_62 : decode cX12_hit 62 = .ok (.aload_n 0, 1) := db_X12_hit_0.2.2.2.2.2.2.2.2.1
theorem dX12_hit_63 : decode cX12_hit 63 = .ok (.iload 4, 2) := db_X12_hit_0.2.2.2.2.2.2.2.2.2.1
theorem dX12_hit_65 : decode cX12_hit 65 = .ok (.ifCond .eq 7, 3) := db_X12_hit_0.2.2.2.2.2.2.2.2.2.2.1
theorem dX12_hit_72 : decode cX12_hit 72 = .ok (.iconst 1, 1) := db_X12_hit_0.2.2.2.2.2.2.2.2.2.2.2.1
theorem dX12_hit_73 : decode cX12_hit 73 = .ok (.putfield 317, 3) := db_X12_hit_0.2.2.2.2.2.2.2.2.2.2.2.2.1
theorem dX12_hit_76 : decode cX12_hit 76 = .ok (.iload 4, 2) := db_X12_hit_0.2.2.2.2.2.2.2.2.2.2.2.2.2.1
theorem dX12_hit_78 : decode cX12_hit 78 = .ok (.ifCond .ne 7, 3) := db_X12_hit_0.2.2.2.2.2.2.2.2.2.2.2.2.2.2.1
theorem dX12_hit_81 : decode cX12_hit 81 = .ok (.iconst 0, 1) := db_X12_hit_0.2.2.2.2.2.2.2.2.2.2.2.2.2.2.2
theorem dX12_hit_82 : decode cX12_hit 82 = .ok (.goto 32, 3) := by decide +kernel
theorem dX12_hit_114 : decode cX12_hit 114 = .ok (.ireturn, 1) := by decide +kernel
theorem db_X12_link_0 : decode cX12_link 0 = .ok (.aload_n 0, 1) ∧ decode cX12_link 1 = .ok (.aload_n 0, 1) ∧ decode cX12_link 2 = .ok (.iload_n 1, 1) ∧ decode cX12_link 3 = .ok (.invokevirtual 789, 3) ∧ decode cX12_link 6 = .ok (.ifCond .eq 15, 3) ∧ decode cX12_link 9 = .ok (.aload_n 0, 1) ∧ decode cX12_link 10 = .ok (.iload_n 2, 1) ∧ decode cX12_link 11 = .ok (.invokevirtual 789, 3) ∧ decode cX12_link 14 = .ok (.ifCond .eq 7, 3) ∧ decode cX12_link 17 = .ok (.iconst 0, 1) ∧ decode cX12_link 18 = .ok (.goto 4, 3) ∧ decode cX12_link 21 = .ok (.iconst 1, 1) ∧ decode cX12_link 22 = .ok (.putfield 317, 3) ∧ decode cX12_link 25 = .ok (.aload_n 0, 1) ∧ decode cX12_link 26 = .ok (.getfield 317, 3) ∧ decode cX12_link 29 = .ok (.ifCond .le 7, 3) := by decide +kernel
theorem dX12_link_0 : decode cX12_link 0 = .ok (.aload_n 0, 1) := db_X12_link_0.1
theorem dX12_link_1 : decode cX12_link 1 = .ok (.aload_n 0, 1) := db_X12_link_0.2.1
theorem dX12_link_2 : decode cX12_link 2 = .ok (.iload_n 1, 1) := db_X12_link_0.2.2.1
theorem dX12_link_3 : decode cX12_link 3 = .ok (.invokevirtual 789, 3) := db_X12_link_0.2.2.2.1
theorem dX12_link_6 : decode cX12_link 6 = .ok (.ifCond .eq 15, 3) := db_X12_link_0.2.2.2.2.1
theorem dX12_link_9 : decode cX12_link 9 = .ok (.aload_n 0, 1) := db_X12_link_0.2.2.2.2.2.1
theorem dX12_link_10 : decode cX12_link 10 = .ok (.iload_n 2, 1) := db_X12_link_0.2.2.2.2.2.2.1
theorem dX12_link_11 : decode cX12_link 11 = .ok (.invokevirtual 789, 3) := db_X12_link_0.2.2.2.2.2.2.2.1
theorem dX12_link_14 : decode cX12_link 14 = .ok (.ifCond .eq 7, 3) := db_X12_link_0.2.2.2.2.2.2.2.2.1
theorem dX12_link_17 : decode cX12_link 17 = .ok (.iconst 0, 1) := db_X12_link_0.2.2.2.2.2.2.2.2.2.1
theorem dX12_link_18 : decode cX12_link 18 = .ok (.goto 4, 3) := db_X12_link_0.2.2.2.2.2.2.2.2.2.2.1
theorem dX12_link_21 : decode cX12_link 21 = .ok (.iconst 1, 1) := db_X12_link_0.2.2.2.2.2.2.2.2.2.2.2.1
theorem dX12_link_22 : decode cX12_link 22 = .ok (.putfield 317, 3) := db_X12_link_0.2.2.2.2.2.2.2.2.2.2.2.2.1
theorem dX12_link_25 : decode cX12_link 25 = .ok (.aload_n 0, 1) := db_X12_link_0.2.2.2.2.2.2.2.2.2.2.2.2.2.1
theorem dX12_link_26 : decode cX12_link 26 = .ok (.getfield 317, 3) := db_X12_link_0.2.2.2.2.2.2.2.2.2.2.2.2.2.2.1
theorem dX12_link_29 : decode cX12_link 29 = .ok (.ifCond .le 7, 3) := db_X12_link_0.2.2.2.2.2.2.2.2.2.2.2.2.2.2.2
theorem db_X12_link_32 : decode cX12_link 32 = .ok (.iconst 0, 1) ∧ decode cX12_link 33 = .ok (.goto 14, 3) ∧ decode cX12_link 36 = .ok (.aload_n 0, 1) ∧ decode cX12_link 37 = .ok (.getfield 209, 3) ∧ decode cX12_link 40 = .ok (.bipush 6, 2) ∧ decode cX12_link 42 = .ok (.iload_n 1, 1) ∧ decode cX12_link 43 = .ok (.imul, 1) ∧ decode cX12_link 44 = .ok (.iload_n 2, 1) ∧ decode cX12_link 45 = .ok (.iadd, 1) ∧ decode cX12_link 46 = .ok (.iaload, 1) ∧ decode cX12_link 47 = .ok (.ireturn, 1) := by decide +kernel
theorem dX12_link_32 : decode cX12_link 32 = .ok (.iconst 0, 1) := db_X12_link_32.1
theorem dX12_link_33 : decode cX12_link 33 = .ok (.goto 14, 3) := db_X12_link_32.2.1
theorem dX12_link_36 : decode cX12_link 36 = .ok (.aload_n 0, 1) := db_X12_link_32.2.2.1
theorem dX12_link_37 : decode cX12_link 37 = .ok (.getfield 209, 3) := db_X12_link_32.2.2.2.1
theorem dX12_link_40 : decode cX12_link 40 = .ok (.bipush 6, 2) := db_X12_link_32.2.2.2.2.1
theorem dX12_link_42 : decode cX12_link 42 = .ok (.iload_n 1, 1) := db_X12_link_32.2.2.2.2.2.1
theorem dX12_link_43 : decode cX12_link 43 = .ok (.imul, 1) := db_X12_link_32.2.2.2.2.2.2.1
theorem dX12_link_44 : decode cX12_link 44 = .ok (.iload_n 2, 1) := db_X12_link_32.2.2.2.2.2.2.2.1
theorem dX12_link_45 : decode cX12_link 45 = .ok (.iadd, 1) := db_X12_link_32.2.2.2.2.2.2.2.2.1
theorem dX12_link_46 : decode cX12_link 46 = .ok (.iaload, 1) := db_X12_link_32.2.2.2.2.2.2.2.2.2.1
theorem dX12_link_47 : decode cX12_link 47 = .ok (.ireturn, 1) := db_X12_link_32.2.2.2.2.2.2.2.2.2.2
theorem db_X12_message_0 : decode cX12_message 0 = .ok (.aload_n 0, 1) ∧ decode cX12_message 1 = .ok (.aload_n 0, 1) ∧ decode cX12_message 2 = .ok (.iload_n 1, 1) ∧ decode cX12_message 3 = .ok (.invokevirtual 789, 3) ∧ decode cX12_message 6 = .ok (.ifCond .eq 45, 3) ∧ decode cX12_message 9 = .ok (.aload_n 0, 1) ∧ decode cX12_message 10 = .ok (.iload_n 2, 1) ∧ decode cX12_message 11 = .ok (.invokevirtual 789, 3) ∧ decode cX12_message 14 = .ok (.ifCond .eq 37, 3) ∧ decode cX12_message 17 = .ok (.iload_n 3, 1) ∧ decode cX12_message 18 = .ok (.ifCond .lt 33, 3) ∧ decode cX12_message 21 = .ok (.iload 4, 2) ∧ decode cX12_message 23 = .ok (.ifCond .lt 28, 3) ∧ decode cX12_message 26 = .ok (.iload 4, 2) ∧ decode cX12_message 28 = .ok (.iconst 5, 1) ∧ decode cX12_message 29 = .ok (.if_icmp .gt 22, 3) := by decide +kernel
theorem dX12_message_0 : decode cX12_message 0 = .ok (.aload_n 0, 1) := db_X12_message_0.1
theorem dX12_message_1 : decode cX12_message 1 = .ok (.aload_n 0, 1) := db_X12_message_0.2.1
theorem dX12_message_2 : decode cX12_message 2 = .ok (.iload_n 1, 1) := db_X12_message_0.2.2.1
theorem dX12_message_3 : decode cX12_message 3 = .ok (.invokevirtual 789, 3) := db_X12_message_0.2.2.2.1
theorem dX12_message_6 : decode cX12_message 6 = .ok (.ifCond .eq 45, 3) := db_X12_message_0.2.2.2.2.1
theorem dX12_message_9 : decode cX12_message 9 = .ok (.aload_n 0, 1) := db_X12_message_0.2.2.2.2.2.1
theorem dX12_message_10 : decode cX12_message 10 = .ok (.iload_n 2, 1) := db_X12_message_0.2.2.2.2.2.2.1
theorem dX12_message_11 : decode cX12_message 11 = .ok (.invokevirtual 789, 3) := db_X12_message_0.2.2.2.2.2.2.2.1
theorem dX12_message_14 : decode cX12_message 14 = .ok (.ifCond .eq 37, 3) := db_X12_message_0.2.2.2.2.2.2.2.2.1
theorem dX12_message_17 : decode cX12_message 17 = .ok (.iload_n 3, 1) := db_X12_message_0.2.2.2.2.2.2.2.2.2.1
theorem dX12_message_18 : decode cX12_message 18 = .ok (.ifCond .lt 33, 3) := db_X12_message_0.2.2.2.2.2.2.2.2.2.2.1
theorem dX12_message_21 : decode cX12_message 21 = .ok (.iload 4, 2) := db_X12_message_0.2.2.2.2.2.2.2.2.2.2.2.1
theorem dX12_message_23 : decode cX12_message 23 = .ok (.ifCond .lt 28, 3) := db_X12_message_0.2.2.2.2.2.2.2.2.2.2.2.2.1
theorem dX12_message_26 : decode cX12_message 26 = .ok (.iload 4, 2) := db_X12_message_0.2.2.2.2.2.2.2.2.2.2.2.2.2.1
theorem dX12_message_28 : decode cX12_message 28 = .ok (.iconst 5, 1) := db_X12_message_0.2.2.2.2.2.2.2.2.2.2.2.2.2.2.1
theorem dX12_message_29 : decode cX12_message 29 = .ok (.if_icmp .gt 22, 3) := db_X12_message_0.2.2.2.2.2.2.2.2.2.2.2.2.2.2.2
theorem db_X12_message_32 : decode cX12_message 32 = .ok (.iload_n 3, 1) ∧ decode cX12_message 33 = .ok (.aload_n 0, 1) ∧ decode cX12_message 34 = .ok (.getfield 209, 3) ∧ decode cX12_message 37 = .ok (.bipush 6, 2) ∧ decode cX12_message 39 = .ok (.iload_n 1, 1) ∧ decode cX12_message 40 = .ok (.imul, 1) ∧ decode cX12_message 41 = .ok (.iload_n 2, 1) ∧ decode cX12_message 42 = .ok (.iadd, 1) ∧ decode cX12_message 43 = .ok (.iaload, 1) ∧ decode cX12_message 44 = .ok (.if_icmp .ge 7, 3) ∧ decode cX12_message 51 = .ok (.iconst 1, 1) ∧ decode cX12_message 52 = .ok (.putfield 317, 3) ∧ decode cX12_message 55 = .ok (.aload_n 0, 1) ∧ decode cX12_message 56 = .ok (.getfield 317, 3) ∧ decode cX12_message 59 = .ok (.ifCond .le 5, 3) ∧ decode cX12_message 62 = .ok (.iconst 0, 1) := by decide +kernel
theorem dX12_message_32 : decode cX12_message 32 = .ok (.iload_n 3, 1) := db_X12_message_32.1
theorem dX12_message_33 : decode cX12_message 33 = .ok (.aload_n 0, 1) := db_X12_message_32.2.1
theorem dX12_message_34 : decode cX12_message 34 = .ok (.getfield 209, 3) := db_X12_message_32.2.2.1
theorem dX12_message_37 : decode cX12_message 37 = .ok (.bipush 6, 2) := db_X12_message_32.2.2.2.1
theorem dX12_message_39 : decode cX12_message 39 = .ok (.iload_n 1, 1) := db_X12_message_32.2.2.2.2.1
theorem dX12_message_40 : decode cX12_message 40 = .ok (.imul, 1) := db_X12_message_32.2.2.2.2.2.1
theorem dX12_message_41 : decode cX12_message 41 = .ok (.iload_n 2, 1) := db_X12_message_32.2.2.2.2.2.2.1
theorem dX12_message_42 : decode cX12_message 42 = .ok (.iadd, 1) := db_X12_message_32.2.2.2.2.2.2.2.1
theorem dX12_message_43 : decode cX12_message 43 = .ok (.iaload, 1) := db_X12_message_32.2.2.2.2.2.2.2.2.1
theorem dX12_message_44 : decode cX12_message 44 = .ok (.if_icmp .ge 7, 3) := db_X12_message_32.2.2.2.2.2.2.2.2.2.1
theorem dX12_message_51 : decode cX12_message 51 = .ok (.iconst 1, 1) := db_X12_message_32.2.2.2.2.2.2.2.2.2.2.1
theorem dX12_message_52 : decode cX12_message 52 = .ok (.putfield 317, 3) := db_X12_message_32.2.2.2.2.2.2.2.2.2.2.2.1
theorem dX12_message_55 : decode cX12_message 55 = .ok (.aload_n 0, 1) := db_X12_message_32.2.2.2.2.2.2.2.2.2.2.2.2.1
theorem dX12_message_56 : decode cX12_message 56 = .ok (.getfield 317, 3) := db_X12_message_32.2.2.2.2.2.2.2.2.2.2.2.2.2.1
theorem dX12_message_59 : decode cX12_message 59 = .ok (.ifCond .le 5, 3) := db_X12_message_32.2.2.2.2.2.2.2.2.2.2.2.2.2.2.1
theorem dX12_message_62 : decode cX12_message 62 = .ok (.iconst 0, 1) := db_X12_message_32.2.2.2.2.2.2.2.2.2.2.2.2.2.2.2
theorem dX12_message_63 : decode cX12_message 63 = .ok (.ireturn, 1) := by decide +kernel
theorem db_X12_deliver_0 : decode cX12_deliver 0 = .ok (.aload_n 0, 1) ∧ decode cX12_deliver 1 = .ok (.aload_n 0, 1) ∧ decode cX12_deliver 2 = .ok (.iload_n 1, 1) ∧ decode cX12_deliver 3 = .ok (.invokevirtual 789, 3) ∧ decode cX12_deliver 6 = .ok (.ifCond .eq 15, 3) ∧ decode cX12_deliver 9 = .ok (.aload_n 0, 1) ∧ decode cX12_deliver 10 = .ok (.iload_n 2, 1) ∧ decode cX12_deliver 11 = .ok (.invokevirtual 789, 3) ∧ decode cX12_deliver 14 = .ok (.ifCond .eq 7, 3) ∧ decode cX12_deliver 17 = .ok (.iconst 0, 1) ∧ decode cX12_deliver 18 = .ok (.goto 4, 3) ∧ decode cX12_deliver 21 = .ok (.iconst 1, 1) ∧ decode cX12_deliver 22 = .ok (.putfield 317, 3) ∧ decode cX12_deliver 25 = .ok (.aload_n 0, 1) ∧ decode cX12_deliver 26 = .ok (.getfield 317, 3) ∧ decode cX12_deliver 29 = .ok (.ifCond .gt 17, 3) := by decide +kernel
theorem dX12_deliver_0 : decode cX12_deliver 0 = .ok (.aload_n 0, 1) := db_X12_deliver_0.1
theorem dX12_deliver_1 : decode cX12_deliver 1 = .ok (.aload_n 0, 1) := db_X12_deliver_0.2.1
theorem dX12_deliver_2 : decode cX12_deliver 2 = .ok (.iload_n 1, 1) := db_X12_deliver_0.2.2.1
theorem dX12_deliver_3 : decode cX12_deliver 3 = .ok (.invokevirtual 789, 3) := db_X12_deliver_0.2.2.2.1
theorem dX12_deliver_6 : decode cX12_deliver 6 = .ok (.ifCond .eq 15, 3) := db_X12_deliver_0.2.2.2.2.1
theorem dX12_deliver_9 : decode cX12_deliver 9 = .ok (.aload_n 0, 1) := db_X12_deliver_0.2.2.2.2.2.1
theorem dX12_deliver_10 : decode cX12_deliver 10 = .ok (.iload_n 2, 1) := db_X12_deliver_0.2.2.2.2.2.2.1
theorem dX12_deliver_11 : decode cX12_deliver 11 = .ok (.invokevirtual 789, 3) := db_X12_deliver_0.2.2.2.2.2.2.2.1
theorem dX12_deliver_14 : decode cX12_deliver 14 = .ok (.ifCond .eq 7, 3) := db_X12_deliver_0.2.2.2.2.2.2.2.2.1
theorem dX12_deliver_17 : decode cX12_deliver 17 = .ok (.iconst 0, 1) := db_X12_deliver_0.2.2.2.2.2.2.2.2.2.1
theorem dX12_deliver_18 : decode cX12_deliver 18 = .ok (.goto 4, 3) := db_X12_deliver_0.2.2.2.2.2.2.2.2.2.2.1
theorem dX12_deliver_21 : decode cX12_deliver 21 = .ok (.iconst 1, 1) := db_X12_deliver_0.2.2.2.2.2.2.2.2.2.2.2.1
theorem dX12_deliver_22 : decode cX12_deliver 22 = .ok (.putfield 317, 3) := db_X12_deliver_0.2.2.2.2.2.2.2.2.2.2.2.2.1
theorem dX12_deliver_25 : decode cX12_deliver 25 = .ok (.aload_n 0, 1) := db_X12_deliver_0.2.2.2.2.2.2.2.2.2.2.2.2.2.1
theorem dX12_deliver_26 : decode cX12_deliver 26 = .ok (.getfield 317, 3) := db_X12_deliver_0.2.2.2.2.2.2.2.2.2.2.2.2.2.2.1
theorem dX12_deliver_29 : decode cX12_deliver 29 = .ok (.ifCond .gt 17, 3) := db_X12_deliver_0.2.2.2.2.2.2.2.2.2.2.2.2.2.2.2
theorem db_X12_deliver_32 : decode cX12_deliver 32 = .ok (.aload_n 0, 1) ∧ decode cX12_deliver 33 = .ok (.getfield 209, 3) ∧ decode cX12_deliver 36 = .ok (.bipush 6, 2) ∧ decode cX12_deliver 38 = .ok (.iload_n 1, 1) ∧ decode cX12_deliver 39 = .ok (.imul, 1) ∧ decode cX12_deliver 40 = .ok (.iload_n 2, 1) ∧ decode cX12_deliver 41 = .ok (.iadd, 1) ∧ decode cX12_deliver 42 = .ok (.iaload, 1) ∧ decode cX12_deliver 43 = .ok (.ifCond .ne 7, 3) ∧ decode cX12_deliver 46 = .ok (.iconst 0, 1) ∧ decode cX12_deliver 47 = .ok (.goto 9, 3) ∧ decode cX12_deliver 56 = .ok (.ireturn, 1) := by decide +kernel
theorem dX12_deliver_32 : decode cX12_deliver 32 = .ok (.aload_n 0, 1) := db_X12_deliver_32.1
theorem dX12_deliver_33 : decode cX12_deliver 33 = .ok (.getfield 209, 3) := db_X12_deliver_32.2.1
theorem dX12_deliver_36 : decode cX12_deliver 36 = .ok (.bipush 6, 2) := db_X12_deliver_32.2.2.1
theorem dX12_deliver_38 : decode cX12_deliver 38 = .ok (.iload_n 1, 1) := db_X12_deliver_32.2.2.2.1
theorem dX12_deliver_39 : decode cX12_deliver 39 = .ok (.imul, 1) := db_X12_deliver_32.2.2.2.2.1
theorem dX12_deliver_40 : decode cX12_deliver 40 = .ok (.iload_n 2, 1) := db_X12_deliver_32.2.2.2.2.2.1
theorem dX12_deliver_41 : decode cX12_deliver 41 = .ok (.iadd, 1) := db_X12_deliver_32.2.2.2.2.2.2.1
theorem dX12_deliver_42 : decode cX12_deliver 42 = .ok (.iaload, 1) := db_X12_deliver_32.2.2.2.2.2.2.2.1
theorem dX12_deliver_43 : decode cX12_deliver 43 = .ok (.ifCond .ne 7, 3) := db_X12_deliver_32.2.2.2.2.2.2.2.2.1
theorem dX12_deliver_46 : decode cX12_deliver 46 = .ok (.iconst 0, 1) := db_X12_deliver_32.2.2.2.2.2.2.2.2.2.1
theorem dX12_deliver_47 : decode cX12_deliver 47 = .ok (.goto 9, 3) := db_X12_deliver_32.2.2.2.2.2.2.2.2.2.2.1
theorem dX12_deliver_56 : decode cX12_deliver 56 = .ok (.ireturn, 1) := db_X12_deliver_32.2.2.2.2.2.2.2.2.2.2.2
theorem db_X12_lose_0 : decode cX12_lose 0 = .ok (.aload_n 0, 1) ∧ decode cX12_lose 1 = .ok (.aload_n 0, 1) ∧ decode cX12_lose 2 = .ok (.iload_n 1, 1) ∧ decode cX12_lose 3 = .ok (.invokevirtual 789, 3) ∧ decode cX12_lose 6 = .ok (.ifCond .eq 15, 3) ∧ decode cX12_lose 9 = .ok (.aload_n 0, 1) ∧ decode cX12_lose 10 = .ok (.iload_n 2, 1) ∧ decode cX12_lose 11 = .ok (.invokevirtual 789, 3) ∧ decode cX12_lose 14 = .ok (.ifCond .eq 7, 3) ∧ decode cX12_lose 17 = .ok (.iconst 0, 1) ∧ decode cX12_lose 18 = .ok (.goto 4, 3) ∧ decode cX12_lose 21 = .ok (.iconst 1, 1) ∧ decode cX12_lose 22 = .ok (.putfield 317, 3) ∧ decode cX12_lose 25 = .ok (.aload_n 0, 1) ∧ decode cX12_lose 26 = .ok (.getfield 317, 3) ∧ decode cX12_lose 29 = .ok (.ifCond .gt 17, 3) := by decide +kernel
theorem dX12_lose_0 : decode cX12_lose 0 = .ok (.aload_n 0, 1) := db_X12_lose_0.1
theorem dX12_lose_1 : decode cX12_lose 1 = .ok (.aload_n 0, 1) := db_X12_lose_0.2.1
theorem dX12_lose_2 : decode cX12_lose 2 = .ok (.iload_n 1, 1) := db_X12_lose_0.2.2.1
theorem dX12_lose_3 : decode cX12_lose 3 = .ok (.invokevirtual 789, 3) := db_X12_lose_0.2.2.2.1
theorem dX12_lose_6 : decode cX12_lose 6 = .ok (.ifCond .eq 15, 3) := db_X12_lose_0.2.2.2.2.1
theorem dX12_lose_9 : decode cX12_lose 9 = .ok (.aload_n 0, 1) := db_X12_lose_0.2.2.2.2.2.1
theorem dX12_lose_10 : decode cX12_lose 10 = .ok (.iload_n 2, 1) := db_X12_lose_0.2.2.2.2.2.2.1
theorem dX12_lose_11 : decode cX12_lose 11 = .ok (.invokevirtual 789, 3) := db_X12_lose_0.2.2.2.2.2.2.2.1
theorem dX12_lose_14 : decode cX12_lose 14 = .ok (.ifCond .eq 7, 3) := db_X12_lose_0.2.2.2.2.2.2.2.2.1
theorem dX12_lose_17 : decode cX12_lose 17 = .ok (.iconst 0, 1) := db_X12_lose_0.2.2.2.2.2.2.2.2.2.1
theorem dX12_lose_18 : decode cX12_lose 18 = .ok (.goto 4, 3) := db_X12_lose_0.2.2.2.2.2.2.2.2.2.2.1
theorem dX12_lose_21 : decode cX12_lose 21 = .ok (.iconst 1, 1) := db_X12_lose_0.2.2.2.2.2.2.2.2.2.2.2.1
theorem dX12_lose_22 : decode cX12_lose 22 = .ok (.putfield 317, 3) := db_X12_lose_0.2.2.2.2.2.2.2.2.2.2.2.2.1
theorem dX12_lose_25 : decode cX12_lose 25 = .ok (.aload_n 0, 1) := db_X12_lose_0.2.2.2.2.2.2.2.2.2.2.2.2.2.1
theorem dX12_lose_26 : decode cX12_lose 26 = .ok (.getfield 317, 3) := db_X12_lose_0.2.2.2.2.2.2.2.2.2.2.2.2.2.2.1
theorem dX12_lose_29 : decode cX12_lose 29 = .ok (.ifCond .gt 17, 3) := db_X12_lose_0.2.2.2.2.2.2.2.2.2.2.2.2.2.2.2
theorem db_X12_lose_32 : decode cX12_lose 32 = .ok (.aload_n 0, 1) ∧ decode cX12_lose 33 = .ok (.getfield 209, 3) ∧ decode cX12_lose 36 = .ok (.bipush 6, 2) ∧ decode cX12_lose 38 = .ok (.iload_n 1, 1) ∧ decode cX12_lose 39 = .ok (.imul, 1) ∧ decode cX12_lose 40 = .ok (.iload_n 2, 1) ∧ decode cX12_lose 41 = .ok (.iadd, 1) ∧ decode cX12_lose 42 = .ok (.iaload, 1) ∧ decode cX12_lose 43 = .ok (.ifCond .ne 7, 3) ∧ decode cX12_lose 46 = .ok (.iconst 0, 1) ∧ decode cX12_lose 47 = .ok (.goto 9, 3) ∧ decode cX12_lose 56 = .ok (.ireturn, 1) := by decide +kernel
theorem dX12_lose_32 : decode cX12_lose 32 = .ok (.aload_n 0, 1) := db_X12_lose_32.1
theorem dX12_lose_33 : decode cX12_lose 33 = .ok (.getfield 209, 3) := db_X12_lose_32.2.1
theorem dX12_lose_36 : decode cX12_lose 36 = .ok (.bipush 6, 2) := db_X12_lose_32.2.2.1
theorem dX12_lose_38 : decode cX12_lose 38 = .ok (.iload_n 1, 1) := db_X12_lose_32.2.2.2.1
theorem dX12_lose_39 : decode cX12_lose 39 = .ok (.imul, 1) := db_X12_lose_32.2.2.2.2.1
theorem dX12_lose_40 : decode cX12_lose 40 = .ok (.iload_n 2, 1) := db_X12_lose_32.2.2.2.2.2.1
theorem dX12_lose_41 : decode cX12_lose 41 = .ok (.iadd, 1) := db_X12_lose_32.2.2.2.2.2.2.1
theorem dX12_lose_42 : decode cX12_lose 42 = .ok (.iaload, 1) := db_X12_lose_32.2.2.2.2.2.2.2.1
theorem dX12_lose_43 : decode cX12_lose 43 = .ok (.ifCond .ne 7, 3) := db_X12_lose_32.2.2.2.2.2.2.2.2.1
theorem dX12_lose_46 : decode cX12_lose 46 = .ok (.iconst 0, 1) := db_X12_lose_32.2.2.2.2.2.2.2.2.2.1
theorem dX12_lose_47 : decode cX12_lose 47 = .ok (.goto 9, 3) := db_X12_lose_32.2.2.2.2.2.2.2.2.2.2.1
theorem dX12_lose_56 : decode cX12_lose 56 = .ok (.ireturn, 1) := db_X12_lose_32.2.2.2.2.2.2.2.2.2.2.2
theorem db_X12_tick_0 : decode cX12_tick 0 = .ok (.aload_n 0, 1) ∧ decode cX12_tick 1 = .ok (.iconst 0, 1) ∧ decode cX12_tick 2 = .ok (.putfield 317, 3) ∧ decode cX12_tick 5 = .ok (.aload_n 0, 1) ∧ decode cX12_tick 6 = .ok (.invokevirtual 795, 3) ∧ decode cX12_tick 9 = .ok (.ireturn, 1) := by decide +kernel
theorem dX12_tick_0 : decode cX12_tick 0 = .ok (.aload_n 0, 1) := db_X12_tick_0.1
theorem dX12_tick_1 : decode cX12_tick 1 = .ok (.iconst 0, 1) := db_X12_tick_0.2.1
theorem dX12_tick_2 : decode cX12_tick 2 = .ok (.putfield 317, 3) := db_X12_tick_0.2.2.1
theorem dX12_tick_5 : decode cX12_tick 5 = .ok (.aload_n 0, 1) := db_X12_tick_0.2.2.2.1
theorem dX12_tick_6 : decode cX12_tick 6 = .ok (.invokevirtual 795, 3) := db_X12_tick_0.2.2.2.2.1
theorem dX12_tick_9 : decode cX12_tick 9 = .ok (.ireturn, 1) := db_X12_tick_0.2.2.2.2.2
theorem db_X12_run_0 : decode cX12_run 0 = .ok (.aload_n 0, 1) ∧ decode cX12_run 1 = .ok (.iload_n 1, 1) ∧ decode cX12_run 2 = .ok (.ifCond .lt 9, 3) ∧ decode cX12_run 5 = .ok (.iload_n 1, 1) ∧ decode cX12_run 6 = .ok (.bipush 60, 2) ∧ decode cX12_run 8 = .ok (.if_icmp .le 7, 3) ∧ decode cX12_run 11 = .ok (.iconst 1, 1) ∧ decode cX12_run 12 = .ok (.goto 4, 3) ∧ decode cX12_run 15 = .ok (.iconst 0, 1) ∧ decode cX12_run 16 = .ok (.putfield 317, 3) ∧ decode cX12_run 19 = .ok (.aload_n 0, 1) ∧ decode cX12_run 20 = .ok (.getfield 342, 3) ∧ decode cX12_run 23 = .ok (.istore_n 2, 1) ∧ decode cX12_run 24 = .ok (.iconst 0, 1) ∧ decode cX12_run 25 = .ok (.istore_n 3, 1) ∧ decode cX12_run 26 = .ok (.iload_n 3, 1) := by decide +kernel
theorem dX12_run_0 : decode cX12_run 0 = .ok (.aload_n 0, 1) := db_X12_run_0.1
theorem dX12_run_1 : decode cX12_run 1 = .ok (.iload_n 1, 1) := db_X12_run_0.2.1
theorem dX12_run_2 : decode cX12_run 2 = .ok (.ifCond .lt 9, 3) := db_X12_run_0.2.2.1
theorem dX12_run_5 : decode cX12_run 5 = .ok (.iload_n 1, 1) := db_X12_run_0.2.2.2.1
theorem dX12_run_6 : decode cX12_run 6 = .ok (.bipush 60, 2) := db_X12_run_0.2.2.2.2.1
theorem dX12_run_8 : decode cX12_run 8 = .ok (.if_icmp .le 7, 3) := db_X12_run_0.2.2.2.2.2.1
theorem dX12_run_11 : decode cX12_run 11 = .ok (.iconst 1, 1) := db_X12_run_0.2.2.2.2.2.2.1
theorem dX12_run_12 : decode cX12_run 12 = .ok (.goto 4, 3) := db_X12_run_0.2.2.2.2.2.2.2.1
theorem dX12_run_15 : decode cX12_run 15 = .ok (.iconst 0, 1) := db_X12_run_0.2.2.2.2.2.2.2.2.1
theorem dX12_run_16 : decode cX12_run 16 = .ok (.putfield 317, 3) := db_X12_run_0.2.2.2.2.2.2.2.2.2.1
theorem dX12_run_19 : decode cX12_run 19 = .ok (.aload_n 0, 1) := db_X12_run_0.2.2.2.2.2.2.2.2.2.2.1
theorem dX12_run_20 : decode cX12_run 20 = .ok (.getfield 342, 3) := db_X12_run_0.2.2.2.2.2.2.2.2.2.2.2.1
theorem dX12_run_23 : decode cX12_run 23 = .ok (.istore_n 2, 1) := db_X12_run_0.2.2.2.2.2.2.2.2.2.2.2.2.1
theorem dX12_run_24 : decode cX12_run 24 = .ok (.iconst 0, 1) := db_X12_run_0.2.2.2.2.2.2.2.2.2.2.2.2.2.1
theorem dX12_run_25 : decode cX12_run 25 = .ok (.istore_n 3, 1) := db_X12_run_0.2.2.2.2.2.2.2.2.2.2.2.2.2.2.1
theorem dX12_run_26 : decode cX12_run 26 = .ok (.iload_n 3, 1) := db_X12_run_0.2.2.2.2.2.2.2.2.2.2.2.2.2.2.2
theorem db_X12_run_27 : decode cX12_run 27 = .ok (.iload_n 1, 1) ∧ decode cX12_run 28 = .ok (.if_icmp .ge 99, 3) ∧ decode cX12_run 31 = .ok (.aload_n 0, 1) ∧ decode cX12_run 32 = .ok (.getfield 317, 3) ∧ decode cX12_run 35 = .ok (.ifCond .ne 92, 3) ∧ decode cX12_run 38 = .ok (.iconst 0, 1) ∧ decode cX12_run 39 = .ok (.istore 4, 2) ∧ decode cX12_run 41 = .ok (.iload 4, 2) ∧ decode cX12_run 43 = .ok (.aload_n 0, 1) ∧ decode cX12_run 44 = .ok (.getfield 321, 3) ∧ decode cX12_run 47 = .ok (.if_icmp .gt 68, 3) ∧ decode cX12_run 50 = .ok (.iconst 0, 1) ∧ decode cX12_run 51 = .ok (.istore 5, 2) ∧ decode cX12_run 53 = .ok (.iload 5, 2) ∧ decode cX12_run 55 = .ok (.aload_n 0, 1) ∧ decode cX12_run 56 = .ok (.getfield 321, 3) := by decide +kernel
theorem dX12_run_27 : decode cX12_run 27 = .ok (.iload_n 1, 1) := db_X12_run_27.1
theorem dX12_run_28 : decode cX12_run 28 = .ok (.if_icmp .ge 99, 3) := db_X12_run_27.2.1
theorem dX12_run_31 : decode cX12_run 31 = .ok (.aload_n 0, 1) := db_X12_run_27.2.2.1
theorem dX12_run_32 : decode cX12_run 32 = .ok (.getfield 317, 3) := db_X12_run_27.2.2.2.1
theorem dX12_run_35 : decode cX12_run 35 = .ok (.ifCond .ne 92, 3) := db_X12_run_27.2.2.2.2.1
theorem dX12_run_38 : decode cX12_run 38 = .ok (.iconst 0, 1) := db_X12_run_27.2.2.2.2.2.1
theorem dX12_run_39 : decode cX12_run 39 = .ok (.istore 4, 2) := db_X12_run_27.2.2.2.2.2.2.1
theorem dX12_run_41 : decode cX12_run 41 = .ok (.iload 4, 2) := db_X12_run_27.2.2.2.2.2.2.2.1
theorem dX12_run_43 : decode cX12_run 43 = .ok (.aload_n 0, 1) := db_X12_run_27.2.2.2.2.2.2.2.2.1
theorem dX12_run_44 : decode cX12_run 44 = .ok (.getfield 321, 3) := db_X12_run_27.2.2.2.2.2.2.2.2.2.1
theorem dX12_run_47 : decode cX12_run 47 = .ok (.if_icmp .gt 68, 3) := db_X12_run_27.2.2.2.2.2.2.2.2.2.2.1
theorem dX12_run_50 : decode cX12_run 50 = .ok (.iconst 0, 1) := db_X12_run_27.2.2.2.2.2.2.2.2.2.2.2.1
theorem dX12_run_51 : decode cX12_run 51 = .ok (.istore 5, 2) := db_X12_run_27.2.2.2.2.2.2.2.2.2.2.2.2.1
theorem dX12_run_53 : decode cX12_run 53 = .ok (.iload 5, 2) := db_X12_run_27.2.2.2.2.2.2.2.2.2.2.2.2.2.1
theorem dX12_run_55 : decode cX12_run 55 = .ok (.aload_n 0, 1) := db_X12_run_27.2.2.2.2.2.2.2.2.2.2.2.2.2.2.1
theorem dX12_run_56 : decode cX12_run 56 = .ok (.getfield 321, 3) := db_X12_run_27.2.2.2.2.2.2.2.2.2.2.2.2.2.2.2
theorem db_X12_run_59 : decode cX12_run 59 = .ok (.if_icmp .gt 50, 3) ∧ decode cX12_run 62 = .ok (.aload_n 0, 1) ∧ decode cX12_run 63 = .ok (.getfield 209, 3) ∧ decode cX12_run 66 = .ok (.bipush 6, 2) ∧ decode cX12_run 68 = .ok (.iload 4, 2) ∧ decode cX12_run 70 = .ok (.imul, 1) ∧ decode cX12_run 71 = .ok (.iload 5, 2) ∧ decode cX12_run 73 = .ok (.iadd, 1) ∧ decode cX12_run 74 = .ok (.iaload, 1) ∧ decode cX12_run 75 = .ok (.istore 6, 2) ∧ decode cX12_run 77 = .ok (.iconst 0, 1) ∧ decode cX12_run 78 = .ok (.istore 7, 2) ∧ decode cX12_run 80 = .ok (.iload 7, 2) ∧ decode cX12_run 82 = .ok (.iload 6, 2) ∧ decode cX12_run 84 = .ok (.if_icmp .ge 19, 3) ∧ decode cX12_run 87 = .ok (.aload_n 0, 1) := by decide +kernel
theorem dX12_run_59 : decode cX12_run 59 = .ok (.if_icmp .gt 50, 3) := db_X12_run_59.1
theorem dX12_run_62 : decode cX12_run 62 = .ok (.aload_n 0, 1) := db_X12_run_59.2.1
theorem dX12_run_63 : decode cX12_run 63 = .ok (.getfield 209, 3) := db_X12_run_59.2.2.1
theorem dX12_run_66 : decode cX12_run 66 = .ok (.bipush 6, 2) := db_X12_run_59.2.2.2.1
theorem dX12_run_68 : decode cX12_run 68 = .ok (.iload 4, 2) := db_X12_run_59.2.2.2.2.1
theorem dX12_run_70 : decode cX12_run 70 = .ok (.imul, 1) := db_X12_run_59.2.2.2.2.2.1
theorem dX12_run_71 : decode cX12_run 71 = .ok (.iload 5, 2) := db_X12_run_59.2.2.2.2.2.2.1
theorem dX12_run_73 : decode cX12_run 73 = .ok (.iadd, 1) := db_X12_run_59.2.2.2.2.2.2.2.1
theorem dX12_run_74 : decode cX12_run 74 = .ok (.iaload, 1) := db_X12_run_59.2.2.2.2.2.2.2.2.1
theorem dX12_run_75 : decode cX12_run 75 = .ok (.istore 6, 2) := db_X12_run_59.2.2.2.2.2.2.2.2.2.1
theorem dX12_run_77 : decode cX12_run 77 = .ok (.iconst 0, 1) := db_X12_run_59.2.2.2.2.2.2.2.2.2.2.1
theorem dX12_run_78 : decode cX12_run 78 = .ok (.istore 7, 2) := db_X12_run_59.2.2.2.2.2.2.2.2.2.2.2.1
theorem dX12_run_80 : decode cX12_run 80 = .ok (.iload 7, 2) := db_X12_run_59.2.2.2.2.2.2.2.2.2.2.2.2.1
theorem dX12_run_82 : decode cX12_run 82 = .ok (.iload 6, 2) := db_X12_run_59.2.2.2.2.2.2.2.2.2.2.2.2.2.1
theorem dX12_run_84 : decode cX12_run 84 = .ok (.if_icmp .ge 19, 3) := db_X12_run_59.2.2.2.2.2.2.2.2.2.2.2.2.2.2.1
theorem dX12_run_87 : decode cX12_run 87 = .ok (.aload_n 0, 1) := db_X12_run_59.2.2.2.2.2.2.2.2.2.2.2.2.2.2.2
theorem db_X12_run_88 : decode cX12_run 88 = .ok (.iload 4, 2) ∧ decode cX12_run 90 = .ok (.iload 5, 2) ∧ decode cX12_run 92 = .ok (.invokevirtual 792, 3) ∧ decode cX12_run 95 = .ok (.istore 8, 2) ∧ decode cX12_run 97 = .ok (.iinc 7 1, 3) ∧ decode cX12_run 100 = .ok (.goto (-20), 3) ∧ decode cX12_run 103 = .ok (.iinc 5 1, 3) ∧ decode cX12_run 106 = .ok (.goto (-53), 3) ∧ decode cX12_run 109 = .ok (.iinc 4 1, 3) ∧ decode cX12_run 112 = .ok (.goto (-71), 3) ∧ decode cX12_run 115 = .ok (.aload_n 0, 1) ∧ decode cX12_run 116 = .ok (.invokevirtual 795, 3) ∧ decode cX12_run 119 = .ok (.istore 4, 2) ∧ decode cX12_run 121 = .ok (.iinc 3 1, 3) ∧ decode cX12_run 124 = .ok (.goto (-98), 3) ∧ decode cX12_run 127 = .ok (.aload_n 0, 1) := by decide +kernel
theorem dX12_run_88 : decode cX12_run 88 = .ok (.iload 4, 2) := db_X12_run_88.1
theorem dX12_run_90 : decode cX12_run 90 = .ok (.iload 5, 2) := db_X12_run_88.2.1
theorem dX12_run_92 : decode cX12_run 92 = .ok (.invokevirtual 792, 3) := db_X12_run_88.2.2.1
theorem dX12_run_95 : decode cX12_run 95 = .ok (.istore 8, 2) := db_X12_run_88.2.2.2.1
theorem dX12_run_97 : decode cX12_run 97 = .ok (.iinc 7 1, 3) := db_X12_run_88.2.2.2.2.1
theorem dX12_run_100 : decode cX12_run 100 = .ok (.goto (-20), 3) := db_X12_run_88.2.2.2.2.2.1
theorem dX12_run_103 : decode cX12_run 103 = .ok (.iinc 5 1, 3) := db_X12_run_88.2.2.2.2.2.2.1
theorem dX12_run_106 : decode cX12_run 106 = .ok (.goto (-53), 3) := db_X12_run_88.2.2.2.2.2.2.2.1
theorem dX12_run_109 : decode cX12_run 109 = .ok (.iinc 4 1, 3) := db_X12_run_88.2.2.2.2.2.2.2.2.1
theorem dX12_run_112 : decode cX12_run 112 = .ok (.goto (-71), 3) := db_X12_run_88.2.2.2.2.2.2.2.2.2.1
theorem dX12_run_115 : decode cX12_run 115 = .ok (.aload_n 0, 1) := db_X12_run_88.2.2.2.2.2.2.2.2.2.2.1
theorem dX12_run_116 : decode cX12_run 116 = .ok (.invokevirtual 795, 3) := db_X12_run_88.2.2.2.2.2.2.2.2.2.2.2.1
theorem dX12_run_119 : decode cX12_run 119 = .ok (.istore 4, 2) := db_X12_run_88.2.2.2.2.2.2.2.2.2.2.2.2.1
theorem dX12_run_121 : decode cX12_run 121 = .ok (.iinc 3 1, 3) := db_X12_run_88.2.2.2.2.2.2.2.2.2.2.2.2.2.1
theorem dX12_run_124 : decode cX12_run 124 = .ok (.goto (-98), 3) := db_X12_run_88.2.2.2.2.2.2.2.2.2.2.2.2.2.2.1
theorem dX12_run_127 : decode cX12_run 127 = .ok (.aload_n 0, 1) := db_X12_run_88.2.2.2.2.2.2.2.2.2.2.2.2.2.2.2
theorem db_X12_run_128 : decode cX12_run 128 = .ok (.getfield 342, 3) ∧ decode cX12_run 131 = .ok (.iload_n 2, 1) ∧ decode cX12_run 132 = .ok (.isub, 1) ∧ decode cX12_run 133 = .ok (.ireturn, 1) := by decide +kernel
theorem dX12_run_128 : decode cX12_run 128 = .ok (.getfield 342, 3) := db_X12_run_128.1
theorem dX12_run_131 : decode cX12_run 131 = .ok (.iload_n 2, 1) := db_X12_run_128.2.1
theorem dX12_run_132 : decode cX12_run 132 = .ok (.isub, 1) := db_X12_run_128.2.2.1
theorem dX12_run_133 : decode cX12_run 133 = .ok (.ireturn, 1) := db_X12_run_128.2.2.2
theorem db_X12_up_0 : decode cX12_up 0 = .ok (.aload_n 0, 1) ∧ decode cX12_up 1 = .ok (.aload_n 0, 1) ∧ decode cX12_up 2 = .ok (.iload_n 1, 1) ∧ decode cX12_up 3 = .ok (.invokevirtual 789, 3) ∧ decode cX12_up 6 = .ok (.ifCond .eq 7, 3) ∧ decode cX12_up 9 = .ok (.iconst 0, 1) ∧ decode cX12_up 10 = .ok (.goto 4, 3) ∧ decode cX12_up 13 = .ok (.iconst 1, 1) ∧ decode cX12_up 14 = .ok (.putfield 317, 3) ∧ decode cX12_up 17 = .ok (.aload_n 0, 1) ∧ decode cX12_up 18 = .ok (.getfield 317, 3) ∧ decode cX12_up 21 = .ok (.ifCond .ne 16, 3) ∧ decode cX12_up 24 = .ok (.aload_n 0, 1) ∧ decode cX12_up 25 = .ok (.getfield 77, 3) ∧ decode cX12_up 28 = .ok (.iload_n 1, 1) ∧ decode cX12_up 29 = .ok (.baload, 1) := by decide +kernel
theorem dX12_up_0 : decode cX12_up 0 = .ok (.aload_n 0, 1) := db_X12_up_0.1
theorem dX12_up_1 : decode cX12_up 1 = .ok (.aload_n 0, 1) := db_X12_up_0.2.1
theorem dX12_up_2 : decode cX12_up 2 = .ok (.iload_n 1, 1) := db_X12_up_0.2.2.1
theorem dX12_up_3 : decode cX12_up 3 = .ok (.invokevirtual 789, 3) := db_X12_up_0.2.2.2.1
theorem dX12_up_6 : decode cX12_up 6 = .ok (.ifCond .eq 7, 3) := db_X12_up_0.2.2.2.2.1
theorem dX12_up_9 : decode cX12_up 9 = .ok (.iconst 0, 1) := db_X12_up_0.2.2.2.2.2.1
theorem dX12_up_10 : decode cX12_up 10 = .ok (.goto 4, 3) := db_X12_up_0.2.2.2.2.2.2.1
theorem dX12_up_13 : decode cX12_up 13 = .ok (.iconst 1, 1) := db_X12_up_0.2.2.2.2.2.2.2.1
theorem dX12_up_14 : decode cX12_up 14 = .ok (.putfield 317, 3) := db_X12_up_0.2.2.2.2.2.2.2.2.1
theorem dX12_up_17 : decode cX12_up 17 = .ok (.aload_n 0, 1) := db_X12_up_0.2.2.2.2.2.2.2.2.2.1
theorem dX12_up_18 : decode cX12_up 18 = .ok (.getfield 317, 3) := db_X12_up_0.2.2.2.2.2.2.2.2.2.2.1
theorem dX12_up_21 : decode cX12_up 21 = .ok (.ifCond .ne 16, 3) := db_X12_up_0.2.2.2.2.2.2.2.2.2.2.2.1
theorem dX12_up_24 : decode cX12_up 24 = .ok (.aload_n 0, 1) := db_X12_up_0.2.2.2.2.2.2.2.2.2.2.2.2.1
theorem dX12_up_25 : decode cX12_up 25 = .ok (.getfield 77, 3) := db_X12_up_0.2.2.2.2.2.2.2.2.2.2.2.2.2.1
theorem dX12_up_28 : decode cX12_up 28 = .ok (.iload_n 1, 1) := db_X12_up_0.2.2.2.2.2.2.2.2.2.2.2.2.2.2.1
theorem dX12_up_29 : decode cX12_up 29 = .ok (.baload, 1) := db_X12_up_0.2.2.2.2.2.2.2.2.2.2.2.2.2.2.2
theorem db_X12_up_30 : decode cX12_up 30 = .ok (.ifCond .eq 7, 3) ∧ decode cX12_up 33 = .ok (.iconst 1, 1) ∧ decode cX12_up 34 = .ok (.goto 4, 3) ∧ decode cX12_up 37 = .ok (.iconst 0, 1) ∧ decode cX12_up 38 = .ok (.ireturn, 1) := by decide +kernel
theorem dX12_up_30 : decode cX12_up 30 = .ok (.ifCond .eq 7, 3) := db_X12_up_30.1
theorem dX12_up_33 : decode cX12_up 33 = .ok (.iconst 1, 1) := db_X12_up_30.2.1
theorem dX12_up_34 : decode cX12_up 34 = .ok (.goto 4, 3) := db_X12_up_30.2.2.1
theorem dX12_up_37 : decode cX12_up 37 = .ok (.iconst 0, 1) := db_X12_up_30.2.2.2.1
theorem dX12_up_38 : decode cX12_up 38 = .ok (.ireturn, 1) := db_X12_up_30.2.2.2.2
theorem db_X12_down_0 : decode cX12_down 0 = .ok (.aload_n 0, 1) ∧ decode cX12_down 1 = .ok (.aload_n 0, 1) ∧ decode cX12_down 2 = .ok (.iload_n 1, 1) ∧ decode cX12_down 3 = .ok (.invokevirtual 789, 3) ∧ decode cX12_down 6 = .ok (.ifCond .eq 7, 3) ∧ decode cX12_down 9 = .ok (.iconst 0, 1) ∧ decode cX12_down 10 = .ok (.goto 4, 3) ∧ decode cX12_down 13 = .ok (.iconst 1, 1) ∧ decode cX12_down 14 = .ok (.putfield 317, 3) ∧ decode cX12_down 17 = .ok (.aload_n 0, 1) ∧ decode cX12_down 18 = .ok (.getfield 317, 3) ∧ decode cX12_down 21 = .ok (.ifCond .le 7, 3) ∧ decode cX12_down 24 = .ok (.iconst 0, 1) ∧ decode cX12_down 25 = .ok (.goto 8, 3) ∧ decode cX12_down 28 = .ok (.aload_n 0, 1) ∧ decode cX12_down 29 = .ok (.iload_n 1, 1) := by decide +kernel
theorem dX12_down_0 : decode cX12_down 0 = .ok (.aload_n 0, 1) := db_X12_down_0.1
theorem dX12_down_1 : decode cX12_down 1 = .ok (.aload_n 0, 1) := db_X12_down_0.2.1
theorem dX12_down_2 : decode cX12_down 2 = .ok (.iload_n 1, 1) := db_X12_down_0.2.2.1
theorem dX12_down_3 : decode cX12_down 3 = .ok (.invokevirtual 789, 3) := db_X12_down_0.2.2.2.1
theorem dX12_down_6 : decode cX12_down 6 = .ok (.ifCond .eq 7, 3) := db_X12_down_0.2.2.2.2.1
theorem dX12_down_9 : decode cX12_down 9 = .ok (.iconst 0, 1) := db_X12_down_0.2.2.2.2.2.1
theorem dX12_down_10 : decode cX12_down 10 = .ok (.goto 4, 3) := db_X12_down_0.2.2.2.2.2.2.1
theorem dX12_down_13 : decode cX12_down 13 = .ok (.iconst 1, 1) := db_X12_down_0.2.2.2.2.2.2.2.1
theorem dX12_down_14 : decode cX12_down 14 = .ok (.putfield 317, 3) := db_X12_down_0.2.2.2.2.2.2.2.2.1
theorem dX12_down_17 : decode cX12_down 17 = .ok (.aload_n 0, 1) := db_X12_down_0.2.2.2.2.2.2.2.2.2.1
theorem dX12_down_18 : decode cX12_down 18 = .ok (.getfield 317, 3) := db_X12_down_0.2.2.2.2.2.2.2.2.2.2.1
theorem dX12_down_21 : decode cX12_down 21 = .ok (.ifCond .le 7, 3) := db_X12_down_0.2.2.2.2.2.2.2.2.2.2.2.1
theorem dX12_down_24 : decode cX12_down 24 = .ok (.iconst 0, 1) := db_X12_down_0.2.2.2.2.2.2.2.2.2.2.2.2.1
theorem dX12_down_25 : decode cX12_down 25 = .ok (.goto 8, 3) := db_X12_down_0.2.2.2.2.2.2.2.2.2.2.2.2.2.1
theorem dX12_down_28 : decode cX12_down 28 = .ok (.aload_n 0, 1) := db_X12_down_0.2.2.2.2.2.2.2.2.2.2.2.2.2.2.1
theorem dX12_down_29 : decode cX12_down 29 = .ok (.iload_n 1, 1) := db_X12_down_0.2.2.2.2.2.2.2.2.2.2.2.2.2.2.2
theorem dX12_down_30 : decode cX12_down 30 = .ok (.invokevirtual 402, 3) := by decide +kernel
theorem dX12_down_33 : decode cX12_down 33 = .ok (.ireturn, 1) := by decide +kernel
