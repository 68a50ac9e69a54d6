theorem dX10_leadingTo_13 : decode cX10_leadingTo 13 = .ok (.iload_n 1, 1) := by decide +kernel
theorem dX10_leadingTo_14 : decode cX10_leadingTo 14 = .ok (.iand, 1) := by decide +kernel
theorem dX10_leadingTo_15 : decode cX10_leadingTo 15 = .ok (.ifCond .eq 9, 3) := by decide +kernel
theorem dX10_leadingTo_18 : decode cX10_leadingTo 18 = .ok (.iload_n 2, 1) := by decide +kernel
theorem dX10_leadingTo_19 : decode cX10_leadingTo 19 = .ok (.iconst 1, 1) := by decide +kernel
theorem dX10_leadingTo_20 : decode cX10_leadingTo 20 = .ok (.iload_n 3, 1) := by decide +kernel
theorem dX10_leadingTo_21 : decode cX10_leadingTo 21 = .ok (.ishl, 1) := by decide +kernel
theorem dX10_leadingTo_22 : decode cX10_leadingTo 22 = .ok (.ior, 1) := by decide +kernel
theorem dX10_leadingTo_23 : decode cX10_leadingTo 23 = .ok (.istore_n 2, 1) := by decide +kernel
theorem dX10_leadingTo_24 : decode cX10_leadingTo 24 = .ok (.iinc 3 1, 3) := by decide +kernel
theorem dX10_leadingTo_27 : decode cX10_leadingTo 27 = .ok (.goto (-23), 3) := by decide +kernel
theorem dX10_leadingTo_30 : decode cX10_leadingTo 30 = .ok (.iload_n 2, 1) := by decide +kernel
theorem dX10_leadingTo_31 : decode cX10_leadingTo 31 = .ok (.ireturn, 1) := by decide +kernel
theorem dX11_init_0 : decode cX11_init 0 = .ok (.aload_n 0, 1) := by decide +kernel
theorem dX11_init_1 : decode cX11_init 1 = .ok (.invokespecial 3, 3) := by decide +kernel
theorem dX11_init_4 : decode cX11_init 4 = .ok (.aload_n 0, 1) := by decide +kernel
theorem dX11_init_5 : decode cX11_init 5 = .ok (.sipush 900, 3) := by decide +kernel
theorem dX11_init_8 : decode cX11_init 8 = .ok (.newarray .byte, 2) := by decide +kernel
theorem dX11_init_10 : decode cX11_init 10 = .ok (.putfield 9, 3) := by decide +kernel
theorem dX11_init_13 : decode cX11_init 13 = .ok (.aload_n 0, 1) := by decide +kernel
theorem dX11_init_14 : decode cX11_init 14 = .ok (.new 13, 3) := by decide +kernel
theorem dX11_init_17 : decode cX11_init 17 = .ok (.dup, 1) := by decide +kernel
theorem dX11_init_18 : decode cX11_init 18 = .ok (.invokespecial 15, 3) := by decide +kernel
theorem dX11_init_21 : decode cX11_init 21 = .ok (.putfield 16, 3) := by decide +kernel
theorem dX11_init_24 : decode cX11_init 24 = .ok (.aload_n 0, 1) := by decide +kernel
theorem dX11_init_25 : decode cX11_init 25 = .ok (.new 20, 3) := by decide +kernel
theorem dX11_init_28 : decode cX11_init 28 = .ok (.dup, 1) := by decide +kernel
theorem dX11_init_29 : decode cX11_init 29 = .ok (.invokespecial 22, 3) := by decide +kernel
theorem dX11_init_32 : decode cX11_init 32 = .ok (.putfield 23, 3) := by decide +kernel
theorem dX11_init_35 : decode cX11_init 35 = .ok (.aload_n 0, 1) := by decide +kernel
theorem dX11_init_36 : decode cX11_init 36 = .ok (.new 20, 3) := by decide +kernel
theorem dX11_init_39 : decode cX11_init 39 = .ok (.dup, 1) := by decide +kernel
theorem dX11_init_40 : decode cX11_init 40 = .ok (.invokespecial 22, 3) := by decide +kernel
theorem dX11_init_43 : decode cX11_init 43 = .ok (.putfield 27, 3) := by decide +kernel
theorem dX11_init_46 : decode cX11_init 46 = .ok (.aload_n 0, 1) := by decide +kernel
theorem dX11_init_47 : decode cX11_init 47 = .ok (.new 30, 3) := by decide +kernel
theorem dX11_init_50 : decode cX11_init 50 = .ok (.dup, 1) := by decide +kernel
theorem dX11_init_51 : decode cX11_init 51 = .ok (.invokespecial 32, 3) := by decide +kernel
theorem dX11_init_54 : decode cX11_init 54 = .ok (.putfield 33, 3) := by decide +kernel
theorem dX11_init_57 : decode cX11_init 57 = .ok (.aload_n 0, 1) := by decide +kernel
theorem dX11_init_58 : decode cX11_init 58 = .ok (.iconst 2, 1) := by decide +kernel
theorem dX11_init_59 : decode cX11_init 59 = .ok (.anewarray 37, 3) := by decide +kernel
theorem dX11_init_62 : decode cX11_init 62 = .ok (.putfield 39, 3) := by decide +kernel
theorem dX11_init_65 : decode cX11_init 65 = .ok (.aload_n 0, 1) := by decide +kernel
theorem dX11_init_66 : decode cX11_init 66 = .ok (.iconst 2, 1) := by decide +kernel
theorem dX11_init_67 : decode cX11_init 67 = .ok (.newarray .boolean, 2) := by decide +kernel
theorem dX11_init_69 : decode cX11_init 69 = .ok (.putfield 43, 3) := by decide +kernel
theorem dX11_init_72 : decode cX11_init 72 = .ok (.aload_n 0, 1) := by decide +kernel
theorem dX11_init_73 : decode cX11_init 73 = .ok (.new 47, 3) := by decide +kernel
theorem dX11_init_76 : decode cX11_init 76 = .ok (.dup, 1) := by decide +kernel
theorem dX11_init_77 : decode cX11_init 77 = .ok (.invokespecial 49, 3) := by decide +kernel
theorem dX11_init_80 : decode cX11_init 80 = .ok (.putfield 50, 3) := by decide +kernel
theorem dX11_init_83 : decode cX11_init 83 = .ok (.aload_n 0, 1) := by decide +kernel
theorem dX11_init_84 : decode cX11_init 84 = .ok (.new 54, 3) := by decide +kernel
theorem dX11_init_87 : decode cX11_init 87 = .ok (.dup, 1) := by decide +kernel
theorem dX11_init_88 : decode cX11_init 88 = .ok (.invokespecial 56, 3) := by decide +kernel
theorem dX11_init_91 : decode cX11_init 91 = .ok (.putfield 57, 3) := by decide +kernel
theorem dX11_init_94 : decode cX11_init 94 = .ok (.aload_n 0, 1) := by decide +kernel
theorem dX11_init_95 : decode cX11_init 95 = .ok (.new 61, 3) := by decide +kernel
theorem dX11_init_98 : decode cX11_init 98 = .ok (.dup, 1) := by decide +kernel
theorem dX11_init_99 : decode cX11_init 99 = .ok (.invokespecial 63, 3) := by decide +kernel
theorem dX11_init_102 : decode cX11_init 102 = .ok (.putfield 64, 3) := by decide +kernel
theorem dX11_init_105 : decode cX11_init 105 = .ok (.aload_n 0, 1) := by decide +kernel
theorem dX11_init_106 : decode cX11_init 106 = .ok (.new 37, 3) := by decide +kernel
theorem dX11_init_109 : decode cX11_init 109 = .ok (.dup, 1) := by decide +kernel
theorem dX11_init_110 : decode cX11_init 110 = .ok (.invokespecial 68, 3) := by decide +kernel
theorem dX11_init_113 : decode cX11_init 113 = .ok (.putfield 69, 3) := by decide +kernel
theorem dX11_init_116 : decode cX11_init 116 = .ok (.aload_n 0, 1) := by decide +kernel
theorem dX11_init_117 : decode cX11_init 117 = .ok (.bipush 72, 2) := by decide +kernel
theorem dX11_init_119 : decode cX11_init 119 = .ok (.newarray .int, 2) := by decide +kernel
theorem dX11_init_121 : decode cX11_init 121 = .ok (.putfield 73, 3) := by decide +kernel
theorem dX11_init_124 : decode cX11_init 124 = .ok (.aload_n 0, 1) := by decide +kernel
theorem dX11_init_125 : decode cX11_init 125 = .ok (.new 77, 3) := by decide +kernel
theorem dX11_init_128 : decode cX11_init 128 = .ok (.dup, 1) := by decide +kernel
theorem dX11_init_129 : decode cX11_init 129 = .ok (.invokespecial 79, 3) := by decide +kernel
theorem dX11_init_132 : decode cX11_init 132 = .ok (.putfield 80, 3) := by decide +kernel
theorem dX11_init_135 : decode cX11_init 135 = .ok (.return_, 1) := by decide +kernel
theorem dX11_feed_0 : decode cX11_feed 0 = .ok (.aload_n 0, 1) := by decide +kernel
theorem dX11_feed_1 : decode cX11_feed 1 = .ok (.getfield 84, 3) := by decide +kernel
theorem dX11_feed_4 : decode cX11_feed 4 = .ok (.bipush 20, 2) := by decide +kernel
theorem dX11_feed_6 : decode cX11_feed 6 = .ok (.iadd, 1) := by decide +kernel
theorem dX11_feed_7 : decode cX11_feed 7 = .ok (.sipush 900, 3) := by decide +kernel
theorem dX11_feed_10 : decode cX11_feed 10 = .ok (.if_icmp .le 5, 3) := by decide +kernel
theorem dX11_feed_13 : decode cX11_feed 13 = .ok (.iconst (-1), 1) := by decide +kernel
theorem dX11_feed_14 : decode cX11_feed 14 = .ok (.ireturn, 1) := by decide +kernel
theorem dX11_feed_15 : decode cX11_feed 15 = .ok (.aload_n 0, 1) := by decide +kernel
theorem dX11_feed_16 : decode cX11_feed 16 = .ok (.iload_n 1, 1) := by decide +kernel
theorem dX11_feed_17 : decode cX11_feed 17 = .ok (.invokevirtual 88, 3) := by decide +kernel
theorem dX11_feed_20 : decode cX11_feed 20 = .ok (.aload_n 0, 1) := by decide +kernel
theorem dX11_feed_21 : decode cX11_feed 21 = .ok (.iload_n 2, 1) := by decide +kernel
theorem dX11_feed_22 : decode cX11_feed 22 = .ok (.invokevirtual 88, 3) := by decide +kernel
theorem dX11_feed_25 : decode cX11_feed 25 = .ok (.aload_n 0, 1) := by decide +kernel
theorem dX11_feed_26 : decode cX11_feed 26 = .ok (.iload_n 3, 1) := by decide +kernel
theorem dX11_feed_27 : decode cX11_feed 27 = .ok (.invokevirtual 88, 3) := by decide +kernel
theorem dX11_feed_30 : decode cX11_feed 30 = .ok (.aload_n 0, 1) := by decide +kernel
theorem dX11_feed_31 : decode cX11_feed 31 = .ok (.iload 4, 2) := by decide +kernel
theorem dX11_feed_33 : decode cX11_feed 33 = .ok (.invokevirtual 88, 3) := by decide +kernel
theorem dX11_feed_36 : decode cX11_feed 36 = .ok (.aload_n 0, 1) := by decide +kernel
theorem dX11_feed_37 : decode cX11_feed 37 = .ok (.iload 5, 2) := by decide +kernel
theorem dX11_feed_39 : decode cX11_feed 39 = .ok (.invokevirtual 88, 3) := by decide +kernel
theorem dX11_feed_42 : decode cX11_feed 42 = .ok (.aload_n 0, 1) := by decide +kernel
theorem dX11_feed_43 : decode cX11_feed 43 = .ok (.getfield 84, 3) := by decide +kernel
theorem dX11_feed_46 : decode cX11_feed 46 = .ok (.ireturn, 1) := by decide +kernel
theorem dX11_end_0 : decode cX11_end 0 = .ok (.iload_n 1, 1) := by decide +kernel
theorem dX11_end_1 : decode cX11_end 1 = .ok (.ifCond .lt 11, 3) := by decide +kernel
theorem dX11_end_4 : decode cX11_end 4 = .ok (.iload_n 1, 1) := by decide +kernel
theorem dX11_end_5 : decode cX11_end 5 = .ok (.aload_n 0, 1) := by decide +kernel
theorem dX11_end_6 : decode cX11_end 6 = .ok (.getfield 84, 3) := by decide +kernel
theorem dX11_end_9 : decode cX11_end 9 = .ok (.if_icmp .le 5, 3) := by decide +kernel
theorem dX11_end_12 : decode cX11_end 12 = .ok (.iconst (-1), 1) := by decide +kernel
theorem dX11_end_13 : decode cX11_end 13 = .ok (.ireturn, 1) := by decide +kernel
theorem dX11_end_14 : decode cX11_end 14 = .ok (.aload_n 0, 1) := by decide +kernel
theorem dX11_end_15 : decode cX11_end 15 = .ok (.iload_n 1, 1) := by decide +kernel
theorem dX11_end_16 : decode cX11_end 16 = .ok (.putfield 84, 3) := by decide +kernel
theorem dX11_end_19 : decode cX11_end 19 = .ok (.iload_n 1, 1) := by decide +kernel
theorem dX11_end_20 : decode cX11_end 20 = .ok (.ireturn, 1) := by decide +kernel
theorem dX11_store_0 : decode cX11_store 0 = .ok (.aload_n 0, 1) := by decide +kernel
theorem dX11_store_1 : decode cX11_store 1 = .ok (.getfield 16, 3) := by decide +kernel
theorem dX11_store_4 : decode cX11_store 4 = .ok (.aload_n 0, 1) := by decide +kernel
theorem dX11_store_5 : decode cX11_store 5 = .ok (.getfield 9, 3) := by decide +kernel
theorem dX11_store_8 : decode cX11_store 8 = .ok (.aload_n 0, 1) := by decide +kernel
theorem dX11_store_9 : decode cX11_store 9 = .ok (.getfield 84, 3) := by decide +kernel
theorem dX11_store_12 : decode cX11_store 12 = .ok (.aload_n 0, 1) := by decide +kernel
theorem dX11_store_13 : decode cX11_store 13 = .ok (.getfield 27, 3) := by decide +kernel
theorem dX11_store_16 : decode cX11_store 16 = .ok (.invokevirtual 92, 3) := by decide +kernel
theorem dX11_store_19 : decode cX11_store 19 = .ok (.aload_n 0, 1) := by decide +kernel
theorem dX11_store_20 : decode cX11_store 20 = .ok (.iconst 0, 1) := by decide +kernel
theorem dX11_store_21 : decode cX11_store 21 = .ok (.putfield 84, 3) := by decide +kernel
theorem dX11_store_24 : decode cX11_store 24 = .ok (.aload_n 0, 1) := by decide +kernel
theorem dX11_store_25 : decode cX11_store 25 = .ok (.getfield 16, 3) := by decide +kernel
theorem dX11_store_28 : decode cX11_store 28 = .ok (.getfield 96, 3) := by decide +kernel
theorem dX11_store_31 : decode cX11_store 31 = .ok (.ifCond .eq 5, 3) := by decide +kernel
theorem dX11_store_34 : decode cX11_store 34 = .ok (.iconst (-1), 1) := by decide +kernel
theorem dX11_store_35 : decode cX11_store 35 = .ok (.ireturn, 1) := by decide +kernel
theorem dX11_store_36 : decode cX11_store 36 = .ok (.aload_n 0, 1) := by decide +kernel
theorem dX11_store_37 : decode cX11_store 37 = .ok (.getfield 27, 3) := by decide +kernel
theorem dX11_store_40 : decode cX11_store 40 = .ok (.astore_n 1, 1) := by decide +kernel
theorem dX11_store_41 : decode cX11_store 41 = .ok (.aload_n 0, 1) := by decide +kernel
theorem dX11_store_42 : decode cX11_store 42 = .ok (.aload_n 0, 1) := by decide +kernel
theorem dX11_store_43 : decode cX11_store 43 = .ok (.getfield 23, 3) := by decide +kernel
theorem dX11_store_46 : decode cX11_store 46 = .ok (.putfield 27, 3) := by decide +kernel
theorem dX11_store_49 : decode cX11_store 49 = .ok (.aload_n 0, 1) := by decide +kernel
theorem dX11_store_50 : decode cX11_store 50 = .ok (.aload_n 1, 1) := by decide +kernel
theorem dX11_store_51 : decode cX11_store 51 = .ok (.putfield 23, 3) := by decide +kernel
theorem dX11_store_54 : decode cX11_store 54 = .ok (.aload_n 0, 1) := by decide +kernel
theorem dX11_store_55 : decode cX11_store 55 = .ok (.getfield 33, 3) := by decide +kernel
theorem dX11_store_58 : decode cX11_store 58 = .ok (.invokevirtual 99, 3) := by decide +kernel
theorem dX11_store_61 : decode cX11_store 61 = .ok (.aload_n 0, 1) := by decide +kernel
theorem dX11_store_62 : decode cX11_store 62 = .ok (.getfield 33, 3) := by decide +kernel
theorem dX11_store_65 : decode cX11_store 65 = .ok (.invokevirtual 102, 3) := by decide +kernel
theorem dX11_store_68 : decode cX11_store 68 = .ok (.aload_n 0, 1) := by decide +kernel
theorem dX11_store_69 : decode cX11_store 69 = .ok (.getfield 23, 3) := by decide +kernel
theorem dX11_store_72 : decode cX11_store 72 = .ok (.getfield 106, 3) := by decide +kernel
theorem dX11_store_75 : decode cX11_store 75 = .ok (.invokevirtual 109, 3) := by decide +kernel
theorem dX11_store_78 : decode cX11_store 78 = .ok (.iconst 0, 1) := by decide +kernel
theorem dX11_store_79 : decode cX11_store 79 = .ok (.istore_n 2, 1) := by decide +kernel
theorem dX11_store_80 : decode cX11_store 80 = .ok (.iload_n 2, 1) := by decide +kernel
theorem dX11_store_81 : decode cX11_store 81 = .ok (.iconst 2, 1) := by decide +kernel
theorem dX11_store_82 : decode cX11_store 82 = .ok (.if_icmp .ge 16, 3) := by decide +kernel
theorem dX11_store_85 : decode cX11_store 85 = .ok (.aload_n 0, 1) := by decide +kernel
theorem dX11_store_86 : decode cX11_store 86 = .ok (.getfield 43, 3) := by decide +kernel
theorem dX11_store_89 : decode cX11_store 89 = .ok (.iload_n 2, 1) := by decide +kernel
theorem dX11_store_90 : decode cX11_store 90 = .ok (.iconst 0, 1) := by decide +kernel
theorem dX11_store_91 : decode cX11_store 91 = .ok (.bastore, 1) := by decide +kernel
theorem dX11_store_92 : decode cX11_store 92 = .ok (.iinc 2 1, 3) := by decide +kernel
theorem dX11_store_95 : decode cX11_store 95 = .ok (.goto (-15), 3) := by decide +kernel
theorem dX11_store_98 : decode cX11_store 98 = .ok (.aload_n 0, 1) := by decide +kernel
theorem dX11_store_99 : decode cX11_store 99 = .ok (.getfield 80, 3) := by decide +kernel
theorem dX11_store_102 : decode cX11_store 102 = .ok (.invokevirtual 113, 3) := by decide +kernel
theorem dX11_store_105 : decode cX11_store 105 = .ok (.aload_n 0, 1) := by decide +kernel
theorem dX11_store_106 : decode cX11_store 106 = .ok (.getfield 23, 3) := by decide +kernel
theorem dX11_store_109 : decode cX11_store 109 = .ok (.getfield 116, 3) := by decide +kernel
theorem dX11_store_112 : decode cX11_store 112 = .ok (.ireturn, 1) := by decide +kernel
theorem dX11_fault_0 : decode cX11_fault 0 = .ok (.iload_n 1, 1) := by decide +kernel
theorem dX11_fault_1 : decode cX11_fault 1 = .ok (.lookupswitch 43 #[(0, 27), (1, 35)], 27) := by decide +kernel
theorem dX11_fault_28 : decode cX11_fault 28 = .ok (.aload_n 0, 1) := by decide +kernel
theorem dX11_fault_29 : decode cX11_fault 29 = .ok (.getfield 16, 3) := by decide +kernel
theorem dX11_fault_32 : decode cX11_fault 32 = .ok (.getfield 96, 3) := by decide +kernel
theorem dX11_fault_35 : decode cX11_fault 35 = .ok (.ireturn, 1) := by decide +kernel
theorem dX11_fault_36 : decode cX11_fault 36 = .ok (.aload_n 0, 1) := by decide +kernel
theorem dX11_fault_37 : decode cX11_fault 37 = .ok (.getfield 16, 3) := by decide +kernel
theorem dX11_fault_40 : decode cX11_fault 40 = .ok (.getfield 119, 3) := by decide +kernel
theorem dX11_fault_43 : decode cX11_fault 43 = .ok (.ireturn, 1) := by decide +kernel
theorem dX11_fault_44 : decode cX11_fault 44 = .ok (.iconst (-1), 1) := by decide +kernel
theorem dX11_fault_45 : decode cX11_fault 45 = .ok (.ireturn, 1) := by decide +kernel
theorem dX11_runs_0 : decode cX11_runs 0 = .ok (.aload_n 0, 1) := by decide +kernel
theorem dX11_runs_1 : decode cX11_runs 1 = .ok (.getfield 23, 3) := by decide +kernel
theorem dX11_runs_4 : decode cX11_runs 4 = .ok (.iload_n 1, 1) := by decide +kernel
theorem dX11_runs_5 : decode cX11_runs 5 = .ok (.invokevirtual 122, 3) := by decide +kernel
theorem dX11_runs_8 : decode cX11_runs 8 = .ok (.ifCond .ne 5, 3) := by decide +kernel
theorem dX11_runs_11 : decode cX11_runs 11 = .ok (.iconst (-1), 1) := by decide +kernel
theorem dX11_runs_12 : decode cX11_runs 12 = .ok (.ireturn, 1) := by decide +kernel
theorem dX11_runs_13 : decode cX11_runs 13 = .ok (.aload_n 0, 1) := by decide +kernel
theorem dX11_runs_14 : decode cX11_runs 14 = .ok (.getfield 57, 3) := by decide +kernel
theorem dX11_runs_17 : decode cX11_runs 17 = .ok (.aload_n 0, 1) := by decide +kernel
theorem dX11_runs_18 : decode cX11_runs 18 = .ok (.getfield 23, 3) := by decide +kernel
theorem dX11_runs_21 : decode cX11_runs 21 = .ok (.aload_n 0, 1) := by decide +kernel
theorem dX11_runs_22 : decode cX11_runs 22 = .ok (.getfield 33, 3) := by decide +kernel
theorem dX11_runs_25 : decode cX11_runs 25 = .ok (.invokevirtual 126, 3) := by decide +kernel
theorem dX11_runs_28 : decode cX11_runs 28 = .ok (.iload_n 1, 1) := by decide +kernel
theorem dX11_runs_29 : decode cX11_runs 29 = .ok (.invokevirtual 129, 3) := by decide +kernel
theorem dX11_runs_32 : decode cX11_runs 32 = .ok (.ireturn, 1) := by decide +kernel
theorem dX11_forget_0 : decode cX11_forget 0 = .ok (.aload_n 0, 1) := by decide +kernel
theorem dX11_forget_1 : decode cX11_forget 1 = .ok (.getfield 33, 3) := by decide +kernel
theorem dX11_forget_4 : decode cX11_forget 4 = .ok (.invokevirtual 102, 3) := by decide +kernel
theorem dX11_forget_7 : decode cX11_forget 7 = .ok (.getfield 133, 3) := by decide +kernel
theorem dX11_forget_10 : decode cX11_forget 10 = .ok (.getfield 137, 3) := by decide +kernel
theorem dX11_forget_13 : decode cX11_forget 13 = .ok (.istore_n 1, 1) := by decide +kernel
theorem dX11_forget_14 : decode cX11_forget 14 = .ok (.aload_n 0, 1) := by decide +kernel
theorem dX11_forget_15 : decode cX11_forget 15 = .ok (.getfield 33, 3) := by decide +kernel
theorem dX11_forget_18 : decode cX11_forget 18 = .ok (.invokevirtual 126, 3) := by decide +kernel
theorem dX11_forget_21 : decode cX11_forget 21 = .ok (.invokevirtual 142, 3) := by decide +kernel
theorem dX11_forget_24 : decode cX11_forget 24 = .ok (.iload_n 1, 1) := by decide +kernel
theorem dX11_forget_25 : decode cX11_forget 25 = .ok (.ireturn, 1) := by decide +kernel
theorem dX11_swap_0 : decode cX11_swap 0 = .ok (.aload_n 0, 1) := by decide +kernel
theorem dX11_swap_1 : decode cX11_swap 1 = .ok (.getfield 23, 3) := by decide +kernel
theorem dX11_swap_4 : decode cX11_swap 4 = .ok (.iload_n 1, 1) := by decide +kernel
theorem dX11_swap_5 : decode cX11_swap 5 = .ok (.iload_n 2, 1) := by decide +kernel
theorem dX11_swap_6 : decode cX11_swap 6 = .ok (.invokevirtual 143, 3) := by decide +kernel
theorem dX11_swap_9 : decode cX11_swap 9 = .ok (.ifCond .ne 5, 3) := by decide +kernel
theorem dX11_swap_12 : decode cX11_swap 12 = .ok (.iconst 0, 1) := by decide +kernel
theorem dX11_swap_13 : decode cX11_swap 13 = .ok (.ireturn, 1) := by decide +kernel
theorem dX11_swap_14 : decode cX11_swap 14 = .ok (.aload_n 0, 1) := by decide +kernel
theorem dX11_swap_15 : decode cX11_swap 15 = .ok (.getfield 33, 3) := by decide +kernel
theorem dX11_swap_18 : decode cX11_swap 18 = .ok (.invokevirtual 126, 3) := by decide +kernel
theorem dX11_swap_21 : decode cX11_swap 21 = .ok (.getfield 147, 3) := by decide +kernel
theorem dX11_swap_24 : decode cX11_swap 24 = .ok (.iload_n 1, 1) := by decide +kernel
theorem dX11_swap_25 : decode cX11_swap 25 = .ok (.iload_n 2, 1) := by decide +kernel
theorem dX11_swap_26 : decode cX11_swap 26 = .ok (.invokestatic 148, 3) := by decide +kernel
theorem dX11_swap_29 : decode cX11_swap 29 = .ok (.iconst 1, 1) := by decide +kernel
theorem dX11_swap_30 : decode cX11_swap 30 = .ok (.ireturn, 1) := by decide +kernel
theorem dX11_undo_0 : decode cX11_undo 0 = .ok (.aload_n 0, 1) := by decide +kernel
theorem dX11_undo_1 : decode cX11_undo 1 = .ok (.getfield 33, 3) := by decide +kernel
theorem dX11_undo_4 : decode cX11_undo 4 = .ok (.invokevirtual 152, 3) := by decide +kernel
theorem dX11_undo_7 : decode cX11_undo 7 = .ok (.ireturn, 1) := by decide +kernel
theorem dX11_redo_0 : decode cX11_redo 0 = .ok (.aload_n 0, 1) := by decide +kernel
theorem dX11_redo_1 : decode cX11_redo 1 = .ok (.getfield 33, 3) := by decide +kernel
theorem dX11_redo_4 : decode cX11_redo 4 = .ok (.invokevirtual 156, 3) := by decide +kernel
theorem dX11_redo_7 : decode cX11_redo 7 = .ok (.ireturn, 1) := by decide +kernel
theorem dX11_lock_0 : decode cX11_lock 0 = .ok (.aload_n 0, 1) := by decide +kernel
theorem dX11_lock_1 : decode cX11_lock 1 = .ok (.getfield 23, 3) := by decide +kernel
theorem dX11_lock_4 : decode cX11_lock 4 = .ok (.iload_n 1, 1) := by decide +kernel
theorem dX11_lock_5 : decode cX11_lock 5 = .ok (.invokevirtual 159, 3) := by decide +kernel
theorem dX11_lock_8 : decode cX11_lock 8 = .ok (.ifCond .eq 15, 3) := by decide +kernel
theorem dX11_lock_11 : decode cX11_lock 11 = .ok (.aload_n 0, 1) := by decide +kernel
theorem dX11_lock_12 : decode cX11_lock 12 = .ok (.getfield 23, 3) := by decide +kernel
theorem dX11_lock_15 : decode cX11_lock 15 = .ok (.getfield 162, 3) := by decide +kernel
theorem dX11_lock_18 : decode cX11_lock 18 = .ok (.iload_n 1, 1) := by decide +kernel
theorem dX11_lock_19 : decode cX11_lock 19 = .ok (.iaload, 1) := by decide +kernel
theorem dX11_lock_20 : decode cX11_lock 20 = .ok (.goto 4, 3) := by decide +kernel
theorem dX11_lock_23 : decode cX11_lock 23 = .ok (.iconst (-1), 1) := by decide +kernel
theorem dX11_lock_24 : decode cX11_lock 24 = .ok (.ireturn, 1) := by decide +kernel
theorem dX11_program_0 : decode cX11_program 0 = .ok (.aload_n 0, 1) := by decide +kernel
theorem dX11_program_1 : decode cX11_program 1 = .ok (.getfield 23, 3) := by decide +kernel
theorem dX11_program_4 : decode cX11_program 4 = .ok (.iload_n 1, 1) := by decide +kernel
theorem dX11_program_5 : decode cX11_program 5 = .ok (.invokevirtual 122, 3) := by decide +kernel
theorem dX11_program_8 : decode cX11_program 8 = .ok (.ifCond .ne 5, 3) := by decide +kernel
theorem dX11_program_11 : decode cX11_program 11 = .ok (.iconst (-1), 1) := by decide +kernel
theorem dX11_program_12 : decode cX11_program 12 = .ok (.ireturn, 1) := by decide +kernel
theorem dX11_program_13 : decode cX11_program 13 = .ok (.iload_n 2, 1) := by decide +kernel
theorem dX11_program_14 : decode cX11_program 14 = .ok (.tableswitch 59 0 2 #[26, 36, 46], 26) := by decide +kernel
theorem dX11_program_40 : decode cX11_program 40 = .ok (.aload_n 0, 1) := by decide +kernel
theorem dX11_program_41 : decode cX11_program 41 = .ok (.getfield 23, 3) := by decide +kernel
theorem dX11_program_44 : decode cX11_program 44 = .ok (.getfield 165, 3) := by decide +kernel
theorem dX11_program_47 : decode cX11_program 47 = .ok (.iload_n 1, 1) := by decide +kernel
theorem dX11_program_48 : decode cX11_program 48 = .ok (.iaload, 1) := by decide +kernel
theorem dX11_program_49 : decode cX11_program 49 = .ok (.ireturn, 1) := by decide +kernel
theorem dX11_program_50 : decode cX11_program 50 = .ok (.aload_n 0, 1) := by decide +kernel
theorem dX11_program_51 : decode cX11_program 51 = .ok (.getfield 23, 3) := by decide +kernel
theorem dX11_program_54 : decode cX11_program 54 = .ok (.getfield 168, 3) := by decide +kernel
theorem dX11_program_57 : decode cX11_program 57 = .ok (.iload_n 1, 1) := by decide +kernel
theorem dX11_program_58 : decode cX11_program 58 = .ok (.iaload, 1) := by decide +kernel
theorem dX11_program_59 : decode cX11_program 59 = .ok (.ireturn, 1) := by decide +kernel
theorem dX11_program_60 : decode cX11_program 60 = .ok (.aload_n 0, 1) := by decide +kernel
theorem dX11_program_61 : decode cX11_program 61 = .ok (.getfield 33, 3) := by decide +kernel
theorem dX11_program_64 : decode cX11_program 64 = .ok (.invokevirtual 102, 3) := by decide +kernel
theorem dX11_program_67 : decode cX11_program 67 = .ok (.getfield 171, 3) := by decide +kernel
theorem dX11_program_70 : decode cX11_program 70 = .ok (.iload_n 1, 1) := by decide +kernel
theorem dX11_program_71 : decode cX11_program 71 = .ok (.iaload, 1) := by decide +kernel
theorem dX11_program_72 : decode cX11_program 72 = .ok (.ireturn, 1) := by decide +kernel
theorem dX11_program_73 : decode cX11_program 73 = .ok (.iconst (-1), 1) := by decide +kernel
theorem dX11_program_74 : decode cX11_program 74 = .ok (.ireturn, 1) := by decide +kernel
theorem dX11_step_0 : decode cX11_step 0 = .ok (.aload_n 0, 1) := by decide +kernel
theorem dX11_step_1 : decode cX11_step 1 = .ok (.getfield 23, 3) := by decide +kernel
theorem dX11_step_4 : decode cX11_step 4 = .ok (.iload_n 1, 1) := by decide +kernel
theorem dX11_step_5 : decode cX11_step 5 = .ok (.iload_n 2, 1) := by decide +kernel
theorem dX11_step_6 : decode cX11_step 6 = .ok (.invokevirtual 174, 3) := by decide +kernel
theorem dX11_step_9 : decode cX11_step 9 = .ok (.ifCond .ne 6, 3) := by decide +kernel
theorem dX11_step_12 : decode cX11_step 12 = .ok (.bipush (-2), 2) := by decide +kernel
theorem dX11_step_14 : decode cX11_step 14 = .ok (.ireturn, 1) := by decide +kernel
theorem dX11_step_15 : decode cX11_step 15 = .ok (.aload_n 0, 1) := by decide +kernel
theorem dX11_step_16 : decode cX11_step 16 = .ok (.getfield 33, 3) := by decide +kernel
theorem dX11_step_19 : decode cX11_step 19 = .ok (.invokevirtual 102, 3) := by decide +kernel
theorem dX11_step_22 : decode cX11_step 22 = .ok (.getfield 147, 3) := by decide +kernel
theorem dX11_step_25 : decode cX11_step 25 = .ok (.iload_n 1, 1) := by decide +kernel
theorem dX11_step_26 : decode cX11_step 26 = .ok (.bipush 12, 2) := by decide +kernel
theorem dX11_step_28 : decode cX11_step 28 = .ok (.imul, 1) := by decide +kernel
theorem dX11_step_29 : decode cX11_step 29 = .ok (.iload_n 2, 1) := by decide +kernel
theorem dX11_step_30 : decode cX11_step 30 = .ok (.iadd, 1) := by decide +kernel
theorem dX11_step_31 : decode cX11_step 31 = .ok (.iaload, 1) := by decide +kernel
theorem dX11_step_32 : decode cX11_step 32 = .ok (.istore 4, 2) := by decide +kernel
theorem dX11_step_34 : decode cX11_step 34 = .ok (.iload_n 3, 1) := by decide +kernel
theorem dX11_step_35 : decode cX11_step 35 = .ok (.lookupswitch 50 #[(0, 25), (1, 31)], 25) := by decide +kernel
theorem dX11_step_60 : decode cX11_step 60 = .ok (.iload 4, 2) := by decide +kernel
theorem dX11_step_62 : decode cX11_step 62 = .ok (.invokestatic 177, 3) := by decide +kernel
theorem dX11_step_65 : decode cX11_step 65 = .ok (.ireturn, 1) := by decide +kernel
theorem dX11_step_66 : decode cX11_step 66 = .ok (.iload 4, 2) := by decide +kernel
theorem dX11_step_68 : decode cX11_step 68 = .ok (.invokestatic 177, 3) := by decide +kernel
theorem dX11_step_71 : decode cX11_step 71 = .ok (.iconst 4, 1) := by decide +kernel
theorem dX11_step_72 : decode cX11_step 72 = .ok (.if_icmp .gt 11, 3) := by decide +kernel
theorem dX11_step_75 : decode cX11_step 75 = .ok (.iload 4, 2) := by decide +kernel
theorem dX11_step_77 : decode cX11_step 77 = .ok (.invokestatic 181, 3) := by decide +kernel
theorem dX11_step_80 : decode cX11_step 80 = .ok (.goto 4, 3) := by decide +kernel
theorem dX11_step_83 : decode cX11_step 83 = .ok (.iconst (-1), 1) := by decide +kernel
theorem dX11_step_84 : decode cX11_step 84 = .ok (.ireturn, 1) := by decide +kernel
theorem dX11_step_85 : decode cX11_step 85 = .ok (.bipush (-2), 2) := by decide +kernel
theorem dX11_step_87 : decode cX11_step 87 = .ok (.ireturn, 1) := by decide +kernel
theorem dX11_edge_0 : decode cX11_edge 0 = .ok (.aload_n 0, 1) := by decide +kernel
theorem dX11_edge_1 : decode cX11_edge 1 = .ok (.getfield 33, 3) := by decide +kernel
theorem dX11_edge_4 : decode cX11_edge 4 = .ok (.invokevirtual 102, 3) := by decide +kernel
theorem dX11_edge_7 : decode cX11_edge 7 = .ok (.getfield 184, 3) := by decide +kernel
theorem dX11_edge_10 : decode cX11_edge 10 = .ok (.astore 4, 2) := by decide +kernel
theorem dX11_edge_12 : decode cX11_edge 12 = .ok (.iload_n 1, 1) := by decide +kernel
theorem dX11_edge_13 : decode cX11_edge 13 = .ok (.invokestatic 188, 3) := by decide +kernel
theorem dX11_edge_16 : decode cX11_edge 16 = .ok (.ifCond .eq 20, 3) := by decide +kernel
theorem dX11_edge_19 : decode cX11_edge 19 = .ok (.iload_n 2, 1) := by decide +kernel
theorem dX11_edge_20 : decode cX11_edge 20 = .ok (.invokestatic 188, 3) := by decide +kernel
theorem dX11_edge_23 : decode cX11_edge 23 = .ok (.ifCond .eq 13, 3) := by decide +kernel
theorem dX11_edge_26 : decode cX11_edge 26 = .ok (.aload 4, 2) := by decide +kernel
theorem dX11_edge_28 : decode cX11_edge 28 = .ok (.iload_n 1, 1) := by decide +kernel
theorem dX11_edge_29 : decode cX11_edge 29 = .ok (.iload_n 2, 1) := by decide +kernel
theorem dX11_edge_30 : decode cX11_edge 30 = .ok (.invokevirtual 191, 3) := by decide +kernel
theorem dX11_edge_33 : decode cX11_edge 33 = .ok (.ifCond .ne 5, 3) := by decide +kernel
theorem dX11_edge_36 : decode cX11_edge 36 = .ok (.iconst (-1), 1) := by decide +kernel
theorem dX11_edge_37 : decode cX11_edge 37 = .ok (.ireturn, 1) := by decide +kernel
theorem dX11_edge_38 : decode cX11_edge 38 = .ok (.aload 4, 2) := by decide +kernel
theorem dX11_edge_40 : decode cX11_edge 40 = .ok (.getfield 196, 3) := by decide +kernel
theorem dX11_edge_43 : decode cX11_edge 43 = .ok (.iload_n 1, 1) := by decide +kernel
theorem dX11_edge_44 : decode cX11_edge 44 = .ok (.bipush 16, 2) := by decide +kernel
theorem dX11_edge_46 : decode cX11_edge 46 = .ok (.imul, 1) := by decide +kernel
theorem dX11_edge_47 : decode cX11_edge 47 = .ok (.iload_n 2, 1) := by decide +kernel
theorem dX11_edge_48 : decode cX11_edge 48 = .ok (.iadd, 1) := by decide +kernel
theorem dX11_edge_49 : decode cX11_edge 49 = .ok (.iaload, 1) := by decide +kernel
theorem dX11_edge_50 : decode cX11_edge 50 = .ok (.istore 5, 2) := by decide +kernel
theorem dX11_edge_52 : decode cX11_edge 52 = .ok (.iload_n 3, 1) := by decide +kernel
theorem dX11_edge_53 : decode cX11_edge 53 = .ok (.lookupswitch 39 #[(0, 27), (1, 33)], 27) := by decide +kernel
theorem dX11_edge_80 : decode cX11_edge 80 = .ok (.iload 5, 2) := by decide +kernel
theorem dX11_edge_82 : decode cX11_edge 82 = .ok (.bipush 12, 2) := by decide +kernel
theorem dX11_edge_84 : decode cX11_edge 84 = .ok (.idiv, 1) := by decide +kernel
theorem dX11_edge_85 : decode cX11_edge 85 = .ok (.ireturn, 1) := by decide +kernel
theorem dX11_edge_86 : decode cX11_edge 86 = .ok (.iload 5, 2) := by decide +kernel
theorem dX11_edge_88 : decode cX11_edge 88 = .ok (.bipush 12, 2) := by decide +kernel
theorem dX11_edge_90 : decode cX11_edge 90 = .ok (.irem, 1) := by decide +kernel
theorem dX11_edge_91 : decode cX11_edge 91 = .ok (.ireturn, 1) := by decide +kernel
theorem dX11_edge_92 : decode cX11_edge 92 = .ok (.iconst (-1), 1) := by decide +kernel
theorem dX11_edge_93 : decode cX11_edge 93 = .ok (.ireturn, 1) := by decide +kernel
theorem dX11_uses_0 : decode cX11_uses 0 = .ok (.iload_n 1, 1) := by decide +kernel
theorem dX11_uses_1 : decode cX11_uses 1 = .ok (.invokestatic 188, 3) := by decide +kernel
theorem dX11_uses_4 : decode cX11_uses 4 = .ok (.ifCond .eq 18, 3) := by decide +kernel
theorem dX11_uses_7 : decode cX11_uses 7 = .ok (.aload_n 0, 1) := by decide +kernel
theorem dX11_uses_8 : decode cX11_uses 8 = .ok (.getfield 33, 3) := by decide +kernel
theorem dX11_uses_11 : decode cX11_uses 11 = .ok (.invokevirtual 102, 3) := by decide +kernel
theorem dX11_uses_14 : decode cX11_uses 14 = .ok (.getfield 199, 3) := by decide +kernel
theorem dX11_uses_17 : decode cX11_uses 17 = .ok (.iload_n 1, 1) := by decide +kernel
theorem dX11_uses_18 : decode cX11_uses 18 = .ok (.iaload, 1) := by decide +kernel
theorem dX11_uses_19 : decode cX11_uses 19 = .ok (.goto 4, 3) := by decide +kernel
theorem dX11_uses_22 : decode cX11_uses 22 = .ok (.iconst 0, 1) := by decide +kernel
theorem dX11_uses_23 : decode cX11_uses 23 = .ok (.ireturn, 1) := by decide +kernel
theorem dX11_way_0 : decode cX11_way 0 = .ok (.iload_n 1, 1) := by decide +kernel
theorem dX11_way_1 : decode cX11_way 1 = .ok (.invokestatic 188, 3) := by decide +kernel
theorem dX11_way_4 : decode cX11_way 4 = .ok (.ifCond .eq 35, 3) := by decide +kernel
theorem dX11_way_7 : decode cX11_way 7 = .ok (.iload_n 2, 1) := by decide +kernel
theorem dX11_way_8 : decode cX11_way 8 = .ok (.invokestatic 188, 3) := by decide +kernel
theorem dX11_way_11 : decode cX11_way 11 = .ok (.ifCond .eq 28, 3) := by decide +kernel
theorem dX11_way_14 : decode cX11_way 14 = .ok (.aload_n 0, 1) := by decide +kernel
theorem dX11_way_15 : decode cX11_way 15 = .ok (.getfield 50, 3) := by decide +kernel
theorem dX11_way_18 : decode cX11_way 18 = .ok (.aload_n 0, 1) := by decide +kernel
theorem dX11_way_19 : decode cX11_way 19 = .ok (.getfield 33, 3) := by decide +kernel
theorem dX11_way_22 : decode cX11_way 22 = .ok (.invokevirtual 102, 3) := by decide +kernel
theorem dX11_way_25 : decode cX11_way 25 = .ok (.getfield 184, 3) := by decide +kernel
theorem dX11_way_28 : decode cX11_way 28 = .ok (.getfield 202, 3) := by decide +kernel
theorem dX11_way_31 : decode cX11_way 31 = .ok (.iload_n 1, 1) := by decide +kernel
theorem dX11_way_32 : decode cX11_way 32 = .ok (.iload_n 2, 1) := by decide +kernel
theorem dX11_way_33 : decode cX11_way 33 = .ok (.invokevirtual 205, 3) := by decide +kernel
theorem dX11_way_36 : decode cX11_way 36 = .ok (.ifCond .ne 5, 3) := by decide +kernel
theorem dX11_way_39 : decode cX11_way 39 = .ok (.iconst (-1), 1) := by decide +kernel
theorem dX11_way_40 : decode cX11_way 40 = .ok (.ireturn, 1) := by decide +kernel
theorem dX11_way_41 : decode cX11_way 41 = .ok (.iload_n 3, 1) := by decide +kernel
theorem dX11_way_42 : decode cX11_way 42 = .ok (.iconst (-1), 1) := by decide +kernel
theorem dX11_way_43 : decode cX11_way 43 = .ok (.if_icmp .ne 11, 3) := by decide +kernel
theorem dX11_way_46 : decode cX11_way 46 = .ok (.aload_n 0, 1) := by decide +kernel
theorem dX11_way_47 : decode cX11_way 47 = .ok (.getfield 50, 3) := by decide +kernel
theorem dX11_way_50 : decode cX11_way 50 = .ok (.getfield 209, 3) := by decide +kernel
theorem dX11_way_53 : decode cX11_way 53 = .ok (.ireturn, 1) := by decide +kernel
theorem dX11_way_54 : decode cX11_way 54 = .ok (.iload_n 3, 1) := by decide +kernel
theorem dX11_way_55 : decode cX11_way 55 = .ok (.ifCond .lt 26, 3) := by decide +kernel
theorem dX11_way_58 : decode cX11_way 58 = .ok (.iload_n 3, 1) := by decide +kernel
theorem dX11_way_59 : decode cX11_way 59 = .ok (.aload_n 0, 1) := by decide +kernel
theorem dX11_way_60 : decode cX11_way 60 = .ok (.getfield 50, 3) := by decide +kernel
theorem dX11_way_63 : decode cX11_way 63 = .ok (.getfield 209, 3) := by decide +kernel
theorem dX11_way_66 : decode cX11_way 66 = .ok (.if_icmp .gt 15, 3) := by decide +kernel
theorem dX11_way_69 : decode cX11_way 69 = .ok (.aload_n 0, 1) := by decide +kernel
theorem dX11_way_70 : decode cX11_way 70 = .ok (.getfield 50, 3) := by decide +kernel
theorem dX11_way_73 : decode cX11_way 73 = .ok (.getfield 212, 3) := by decide +kernel
theorem dX11_way_76 : decode cX11_way 76 = .ok (.iload_n 3, 1) := by decide +kernel
theorem dX11_way_77 : decode cX11_way 77 = .ok (.iaload, 1) := by decide +kernel
theorem dX11_way_78 : decode cX11_way 78 = .ok (.goto 4, 3) := by decide +kernel
theorem dX11_way_81 : decode cX11_way 81 = .ok (.iconst (-1), 1) := by decide +kernel
theorem dX11_way_82 : decode cX11_way 82 = .ok (.ireturn, 1) := by decide +kernel
theorem dX11_reaches_0 : decode cX11_reaches 0 = .ok (.iload_n 1, 1) := by decide +kernel
theorem dX11_reaches_1 : decode cX11_reaches 1 = .ok (.invokestatic 188, 3) := by decide +kernel
theorem dX11_reaches_4 : decode cX11_reaches 4 = .ok (.ifCond .eq 21, 3) := by decide +kernel
theorem dX11_reaches_7 : decode cX11_reaches 7 = .ok (.aload_n 0, 1) := by decide +kernel
theorem dX11_reaches_8 : decode cX11_reaches 8 = .ok (.getfield 33, 3) := by decide +kernel
theorem dX11_reaches_11 : decode cX11_reaches 11 = .ok (.invokevirtual 102, 3) := by decide +kernel
theorem dX11_reaches_14 : decode cX11_reaches 14 = .ok (.getfield 184, 3) := by decide +kernel
theorem dX11_reaches_17 : decode cX11_reaches 17 = .ok (.getfield 215, 3) := by decide +kernel
theorem dX11_reaches_20 : decode cX11_reaches 20 = .ok (.iload_n 1, 1) := by decide +kernel
theorem dX11_reaches_21 : decode cX11_reaches 21 = .ok (.iaload, 1) := by decide +kernel
theorem dX11_reaches_22 : decode cX11_reaches 22 = .ok (.goto 4, 3) := by decide +kernel
theorem dX11_reaches_25 : decode cX11_reaches 25 = .ok (.iconst 0, 1) := by decide +kernel
theorem dX11_reaches_26 : decode cX11_reaches 26 = .ok (.ireturn, 1) := by decide +kernel
theorem dX11_report_0 : decode cX11_report 0 = .ok (.aload_n 0, 1) := by decide +kernel
theorem dX11_report_1 : decode cX11_report 1 = .ok (.getfield 33, 3) := by decide +kernel
theorem dX11_report_4 : decode cX11_report 4 = .ok (.invokevirtual 102, 3) := by decide +kernel
theorem dX11_report_7 : decode cX11_report 7 = .ok (.getfield 133, 3) := by decide +kernel
theorem dX11_report_10 : decode cX11_report 10 = .ok (.astore_n 3, 1) := by decide +kernel
theorem dX11_report_11 : decode cX11_report 11 = .ok (.iload_n 1, 1) := by decide +kernel
theorem dX11_report_12 : decode cX11_report 12 = .ok (.ifCond .lt 11, 3) := by decide +kernel
theorem dX11_report_15 : decode cX11_report 15 = .ok (.iload_n 1, 1) := by decide +kernel
theorem dX11_report_16 : decode cX11_report 16 = .ok (.aload_n 3, 1) := by decide +kernel
theorem dX11_report_17 : decode cX11_report 17 = .ok (.getfield 137, 3) := by decide +kernel
theorem dX11_report_20 : decode cX11_report 20 = .ok (.if_icmp .lt 5, 3) := by decide +kernel
theorem dX11_report_23 : decode cX11_report 23 = .ok (.iconst (-1), 1) := by decide +kernel
theorem dX11_report_24 : decode cX11_report 24 = .ok (.ireturn, 1) := by decide +kernel
theorem dX11_report_25 : decode cX11_report 25 = .ok (.iload_n 2, 1) := by decide +kernel
theorem dX11_report_26 : decode cX11_report 26 = .ok (.tableswitch 87 0 5 #[38, 45, 52, 59, 66, 73], 38) := by decide +kernel
theorem dX11_report_64 : decode cX11_report 64 = .ok (.aload_n 3, 1) := by decide +kernel
theorem dX11_report_65 : decode cX11_report 65 = .ok (.getfield 218, 3) := by decide +kernel
theorem dX11_report_68 : decode cX11_report 68 = .ok (.iload_n 1, 1) := by decide +kernel
theorem dX11_report_69 : decode cX11_report 69 = .ok (.iaload, 1) := by decide +kernel
theorem dX11_report_70 : decode cX11_report 70 = .ok (.ireturn, 1) := by decide +kernel
theorem dX11_report_71 : decode cX11_report 71 = .ok (.aload_n 3, 1) := by decide +kernel
theorem dX11_report_72 : decode cX11_report 72 = .ok (.getfield 219, 3) := by decide +kernel
theorem dX11_report_75 : decode cX11_report 75 = .ok (.iload_n 1, 1) := by decide +kernel
theorem dX11_report_76 : decode cX11_report 76 = .ok (.iaload, 1) := by decide +kernel
theorem dX11_report_77 : decode cX11_report 77 = .ok (.ireturn, 1) := by decide +kernel
theorem dX11_report_78 : decode cX11_report 78 = .ok (.aload_n 3, 1) := by decide +kernel
theorem dX11_report_79 : decode cX11_report 79 = .ok (.getfield 221, 3) := by decide +kernel
theorem dX11_report_82 : decode cX11_report 82 = .ok (.iload_n 1, 1) := by decide +kernel
theorem dX11_report_83 : decode cX11_report 83 = .ok (.iaload, 1) := by decide +kernel
theorem dX11_report_84 : decode cX11_report 84 = .ok (.ireturn, 1) := by decide +kernel
theorem dX11_report_85 : decode cX11_report 85 = .ok (.aload_n 3, 1) := by decide +kernel
theorem dX11_report_86 : decode cX11_report 86 = .ok (.getfield 222, 3) := by decide +kernel
theorem dX11_report_89 : decode cX11_report 89 = .ok (.iload_n 1, 1) := by decide +kernel
theorem dX11_report_90 : decode cX11_report 90 = .ok (.iaload, 1) := by decide +kernel
theorem dX11_report_91 : decode cX11_report 91 = .ok (.ireturn, 1) := by decide +kernel
theorem dX11_report_92 : decode cX11_report 92 = .ok (.aload_n 3, 1) := by decide +kernel
theorem dX11_report_93 : decode cX11_report 93 = .ok (.iload_n 1, 1) := by decide +kernel
theorem dX11_report_94 : decode cX11_report 94 = .ok (.iconst 0, 1) := by decide +kernel
theorem dX11_report_95 : decode cX11_report 95 = .ok (.invokevirtual 223, 3) := by decide +kernel
theorem dX11_report_98 : decode cX11_report 98 = .ok (.ireturn, 1) := by decide +kernel
theorem dX11_report_99 : decode cX11_report 99 = .ok (.aload_n 3, 1) := by decide +kernel
theorem dX11_report_100 : decode cX11_report 100 = .ok (.iload_n 1, 1) := by decide +kernel
theorem dX11_report_101 : decode cX11_report 101 = .ok (.aload_n 3, 1) := by decide +kernel
theorem dX11_report_102 : decode cX11_report 102 = .ok (.getfield 222, 3) := by decide +kernel
theorem dX11_report_105 : decode cX11_report 105 = .ok (.iload_n 1, 1) := by decide +kernel
theorem dX11_report_106 : decode cX11_report 106 = .ok (.iaload, 1) := by decide +kernel
theorem dX11_report_107 : decode cX11_report 107 = .ok (.iconst 1, 1) := by decide +kernel
theorem dX11_report_108 : decode cX11_report 108 = .ok (.isub, 1) := by decide +kernel
theorem dX11_report_109 : decode cX11_report 109 = .ok (.invokevirtual 223, 3) := by decide +kernel
theorem dX11_report_112 : decode cX11_report 112 = .ok (.ireturn, 1) := by decide +kernel
theorem dX11_report_113 : decode cX11_report 113 = .ok (.iconst (-1), 1) := by decide +kernel
theorem dX11_report_114 : decode cX11_report 114 = .ok (.ireturn, 1) := by decide +kernel
theorem dX11_chain_0 : decode cX11_chain 0 = .ok (.aload_n 0, 1) := by decide +kernel
theorem dX11_chain_1 : decode cX11_chain 1 = .ok (.getfield 33, 3) := by decide +kernel
theorem dX11_chain_4 : decode cX11_chain 4 = .ok (.invokevirtual 102, 3) := by decide +kernel
theorem dX11_chain_7 : decode cX11_chain 7 = .ok (.getfield 133, 3) := by decide +kernel
theorem dX11_chain_10 : decode cX11_chain 10 = .ok (.iload_n 1, 1) := by decide +kernel
theorem dX11_chain_11 : decode cX11_chain 11 = .ok (.iload_n 2, 1) := by decide +kernel
theorem dX11_chain_12 : decode cX11_chain 12 = .ok (.invokevirtual 223, 3) := by decide +kernel
theorem dX11_chain_15 : decode cX11_chain 15 = .ok (.ireturn, 1) := by decide +kernel
theorem dX11_would_0 : decode cX11_would 0 = .ok (.aload_n 0, 1) := by decide +kernel
theorem dX11_would_1 : decode cX11_would 1 = .ok (.getfield 23, 3) := by decide +kernel
theorem dX11_would_4 : decode cX11_would 4 = .ok (.iload_n 1, 1) := by decide +kernel
theorem dX11_would_5 : decode cX11_would 5 = .ok (.invokevirtual 122, 3) := by decide +kernel
theorem dX11_would_8 : decode cX11_would 8 = .ok (.ifCond .eq 12, 3) := by decide +kernel
theorem dX11_would_11 : decode cX11_would 11 = .ok (.iload_n 2, 1) := by decide +kernel
theorem dX11_would_12 : decode cX11_would 12 = .ok (.ifCond .lt 8, 3) := by decide +kernel
theorem dX11_would_15 : decode cX11_would 15 = .ok (.iload_n 2, 1) := by decide +kernel
theorem dX11_would_16 : decode cX11_would 16 = .ok (.iconst 2, 1) := by decide +kernel
theorem dX11_would_17 : decode cX11_would 17 = .ok (.if_icmp .le 5, 3) := by decide +kernel
theorem dX11_would_20 : decode cX11_would 20 = .ok (.iconst (-1), 1) := by decide +kernel
theorem dX11_would_21 : decode cX11_would 21 = .ok (.ireturn, 1) := by decide +kernel
theorem dX11_would_22 : decode cX11_would 22 = .ok (.aload_n 0, 1) := by decide +kernel
theorem dX11_would_23 : decode cX11_would 23 = .ok (.getfield 33, 3) := by decide +kernel
theorem dX11_would_26 : decode cX11_would 26 = .ok (.invokevirtual 102, 3) := by decide +kernel
theorem dX11_would_29 : decode cX11_would 29 = .ok (.astore_n 3, 1) := by decide +kernel
theorem dX11_would_30 : decode cX11_would 30 = .ok (.aload_n 0, 1) := by decide +kernel
theorem dX11_would_31 : decode cX11_would 31 = .ok (.getfield 69, 3) := by decide +kernel
theorem dX11_would_34 : decode cX11_would 34 = .ok (.aload_n 3, 1) := by decide +kernel
theorem dX11_would_35 : decode cX11_would 35 = .ok (.invokevirtual 227, 3) := by decide +kernel
theorem dX11_would_38 : decode cX11_would 38 = .ok (.aload_n 0, 1) := by decide +kernel
theorem dX11_would_39 : decode cX11_would 39 = .ok (.getfield 57, 3) := by decide +kernel
theorem dX11_would_42 : decode cX11_would 42 = .ok (.aload_n 0, 1) := by decide +kernel
theorem dX11_would_43 : decode cX11_would 43 = .ok (.getfield 23, 3) := by decide +kernel
theorem dX11_would_46 : decode cX11_would 46 = .ok (.aload_n 0, 1) := by decide +kernel
theorem dX11_would_47 : decode cX11_would 47 = .ok (.getfield 69, 3) := by decide +kernel
theorem dX11_would_50 : decode cX11_would 50 = .ok (.iload_n 1, 1) := by decide +kernel
theorem dX11_would_51 : decode cX11_would 51 = .ok (.invokevirtual 129, 3) := by decide +kernel
theorem dX11_would_54 : decode cX11_would 54 = .ok (.istore 4, 2) := by decide +kernel
theorem dX11_would_56 : decode cX11_would 56 = .ok (.iload_n 2, 1) := by decide +kernel
theorem dX11_would_57 : decode cX11_would 57 = .ok (.lookupswitch 49 #[(0, 27), (1, 30)], 27) := by decide +kernel
theorem dX11_would_84 : decode cX11_would 84 = .ok (.iload 4, 2) := by decide +kernel
theorem dX11_would_86 : decode cX11_would 86 = .ok (.ireturn, 1) := by decide +kernel
theorem dX11_would_87 : decode cX11_would 87 = .ok (.aload_n 0, 1) := by decide +kernel
theorem dX11_would_88 : decode cX11_would 88 = .ok (.getfield 69, 3) := by decide +kernel
theorem dX11_would_91 : decode cX11_would 91 = .ok (.getfield 184, 3) := by decide +kernel
theorem dX11_would_94 : decode cX11_would 94 = .ok (.getfield 231, 3) := by decide +kernel
theorem dX11_would_97 : decode cX11_would 97 = .ok (.aload_n 3, 1) := by decide +kernel
theorem dX11_would_98 : decode cX11_would 98 = .ok (.getfield 184, 3) := by decide +kernel
theorem dX11_would_101 : decode cX11_would 101 = .ok (.getfield 231, 3) := by decide +kernel
theorem dX11_would_104 : decode cX11_would 104 = .ok (.isub, 1) := by decide +kernel
theorem dX11_would_105 : decode cX11_would 105 = .ok (.ireturn, 1) := by decide +kernel
theorem dX11_would_106 : decode cX11_would 106 = .ok (.aload_n 0, 1) := by decide +kernel
theorem dX11_would_107 : decode cX11_would 107 = .ok (.getfield 69, 3) := by decide +kernel
theorem dX11_would_110 : decode cX11_would 110 = .ok (.getfield 232, 3) := by decide +kernel
theorem dX11_would_113 : decode cX11_would 113 = .ok (.aload_n 3, 1) := by decide +kernel
theorem dX11_would_114 : decode cX11_would 114 = .ok (.getfield 232, 3) := by decide +kernel
theorem dX11_would_117 : decode cX11_would 117 = .ok (.isub, 1) := by decide +kernel
theorem dX11_would_118 : decode cX11_would 118 = .ok (.ireturn, 1) := by decide +kernel
theorem dX11_mends_0 : decode cX11_mends 0 = .ok (.iload_n 1, 1) := by decide +kernel
theorem dX11_mends_1 : decode cX11_mends 1 = .ok (.ifCond .lt 8, 3) := by decide +kernel
theorem dX11_mends_4 : decode cX11_mends 4 = .ok (.iload_n 1, 1) := by decide +kernel
theorem dX11_mends_5 : decode cX11_mends 5 = .ok (.iconst 1, 1) := by decide +kernel
theorem dX11_mends_6 : decode cX11_mends 6 = .ok (.if_icmp .le 5, 3) := by decide +kernel
theorem dX11_mends_9 : decode cX11_mends 9 = .ok (.iconst (-1), 1) := by decide +kernel
theorem dX11_mends_10 : decode cX11_mends 10 = .ok (.ireturn, 1) := by decide +kernel
theorem dX11_mends_11 : decode cX11_mends 11 = .ok (.aload_n 0, 1) := by decide +kernel
theorem dX11_mends_12 : decode cX11_mends 12 = .ok (.getfield 64, 3) := by decide +kernel
theorem dX11_mends_15 : decode cX11_mends 15 = .ok (.aload_n 0, 1) := by decide +kernel
theorem dX11_mends_16 : decode cX11_mends 16 = .ok (.getfield 33, 3) := by decide +kernel
theorem dX11_mends_19 : decode cX11_mends 19 = .ok (.invokevirtual 102, 3) := by decide +kernel
theorem dX11_mends_22 : decode cX11_mends 22 = .ok (.getfield 184, 3) := by decide +kernel
theorem dX11_mends_25 : decode cX11_mends 25 = .ok (.getfield 202, 3) := by decide +kernel
theorem dX11_mends_28 : decode cX11_mends 28 = .ok (.invokevirtual 235, 3) := by decide +kernel
theorem dX11_mends_31 : decode cX11_mends 31 = .ok (.aload_n 0, 1) := by decide +kernel
theorem dX11_mends_32 : decode cX11_mends 32 = .ok (.getfield 64, 3) := by decide +kernel
theorem dX11_mends_35 : decode cX11_mends 35 = .ok (.getfield 238, 3) := by decide +kernel
theorem dX11_mends_38 : decode cX11_mends 38 = .ok (.iconst 3, 1) := by decide +kernel
theorem dX11_mends_39 : decode cX11_mends 39 = .ok (.if_icmp .le 6, 3) := by decide +kernel
theorem dX11_mends_42 : decode cX11_mends 42 = .ok (.bipush (-2), 2) := by decide +kernel
theorem dX11_mends_44 : decode cX11_mends 44 = .ok (.ireturn, 1) := by decide +kernel
theorem dX11_mends_45 : decode cX11_mends 45 = .ok (.iload_n 1, 1) := by decide +kernel
theorem dX11_mends_46 : decode cX11_mends 46 = .ok (.ifCond .ne 13, 3) := by decide +kernel
theorem dX11_mends_49 : decode cX11_mends 49 = .ok (.aload_n 0, 1) := by decide +kernel
theorem dX11_mends_50 : decode cX11_mends 50 = .ok (.getfield 64, 3) := by decide +kernel
theorem dX11_mends_53 : decode cX11_mends 53 = .ok (.getfield 238, 3) := by decide +kernel
theorem dX11_mends_56 : decode cX11_mends 56 = .ok (.goto 10, 3) := by decide +kernel
theorem dX11_mends_59 : decode cX11_mends 59 = .ok (.aload_n 0, 1) := by decide +kernel
theorem dX11_mends_60 : decode cX11_mends 60 = .ok (.getfield 64, 3) := by decide +kernel
theorem dX11_mends_63 : decode cX11_mends 63 = .ok (.getfield 241, 3) := by decide +kernel
theorem dX11_mends_66 : decode cX11_mends 66 = .ok (.ireturn, 1) := by decide +kernel
theorem dX11_order_0 : decode cX11_order 0 = .ok (.iload_n 1, 1) := by decide +kernel
theorem dX11_order_1 : decode cX11_order 1 = .ok (.ifCond .lt 26, 3) := by decide +kernel
theorem dX11_order_4 : decode cX11_order 4 = .ok (.iload_n 1, 1) := by decide +kernel
theorem dX11_order_5 : decode cX11_order 5 = .ok (.bipush 16, 2) := by decide +kernel
theorem dX11_order_7 : decode cX11_order 7 = .ok (.if_icmp .ge 20, 3) := by decide +kernel
theorem dX11_order_10 : decode cX11_order 10 = .ok (.aload_n 0, 1) := by decide +kernel
theorem dX11_order_11 : decode cX11_order 11 = .ok (.getfield 33, 3) := by decide +kernel
theorem dX11_order_14 : decode cX11_order 14 = .ok (.invokevirtual 102, 3) := by decide +kernel
theorem dX11_order_17 : decode cX11_order 17 = .ok (.getfield 184, 3) := by decide +kernel
theorem dX11_order_20 : decode cX11_order 20 = .ok (.iload_n 1, 1) := by decide +kernel
theorem dX11_order_21 : decode cX11_order 21 = .ok (.invokevirtual 244, 3) := by decide +kernel
theorem dX11_order_24 : decode cX11_order 24 = .ok (.goto 4, 3) := by decide +kernel
theorem dX11_order_27 : decode cX11_order 27 = .ok (.iconst (-1), 1) := by decide +kernel
theorem dX11_order_28 : decode cX11_order 28 = .ok (.ireturn, 1) := by decide +kernel
theorem dX11_all_0 : decode cX11_all 0 = .ok (.iload_n 1, 1) := by decide +kernel
theorem dX11_all_1 : decode cX11_all 1 = .ok (.iconst 1, 1) := by decide +kernel
theorem dX11_all_2 : decode cX11_all 2 = .ok (.if_icmp .lt 9, 3) := by decide +kernel
theorem dX11_all_5 : decode cX11_all 5 = .ok (.iload_n 1, 1) := by decide +kernel
theorem dX11_all_6 : decode cX11_all 6 = .ok (.bipush 9, 2) := by decide +kernel
theorem dX11_all_8 : decode cX11_all 8 = .ok (.if_icmp .le 5, 3) := by decide +kernel
theorem dX11_all_11 : decode cX11_all 11 = .ok (.iconst (-1), 1) := by decide +kernel
theorem dX11_all_12 : decode cX11_all 12 = .ok (.ireturn, 1) := by decide +kernel
theorem dX11_all_13 : decode cX11_all 13 = .ok (.aload_n 0, 1) := by decide +kernel
theorem dX11_all_14 : decode cX11_all 14 = .ok (.aload_n 0, 1) := by decide +kernel
theorem dX11_all_15 : decode cX11_all 15 = .ok (.getfield 33, 3) := by decide +kernel
theorem dX11_all_18 : decode cX11_all 18 = .ok (.invokevirtual 102, 3) := by decide +kernel
theorem dX11_all_21 : decode cX11_all 21 = .ok (.getfield 147, 3) := by decide +kernel
theorem dX11_all_24 : decode cX11_all 24 = .ok (.invokevirtual 247, 3) := by decide +kernel
theorem dX11_all_27 : decode cX11_all 27 = .ok (.iload_n 1, 1) := by decide +kernel
theorem dX11_all_28 : decode cX11_all 28 = .ok (.invokevirtual 251, 3) := by decide +kernel
theorem dX11_all_31 : decode cX11_all 31 = .ok (.ireturn, 1) := by decide +kernel
theorem dX11_stuck_0 : decode cX11_stuck 0 = .ok (.aload_n 0, 1) := by decide +kernel
theorem dX11_stuck_1 : decode cX11_stuck 1 = .ok (.getfield 23, 3) := by decide +kernel
theorem dX11_stuck_4 : decode cX11_stuck 4 = .ok (.iload_n 1, 1) := by decide +kernel
theorem dX11_stuck_5 : decode cX11_stuck 5 = .ok (.invokevirtual 254, 3) := by decide +kernel
theorem dX11_stuck_8 : decode cX11_stuck 8 = .ok (.ifCond .eq 12, 3) := by decide +kernel
theorem dX11_stuck_11 : decode cX11_stuck 11 = .ok (.iload_n 2, 1) := by decide +kernel
theorem dX11_stuck_12 : decode cX11_stuck 12 = .ok (.ifCond .lt 8, 3) := by decide +kernel
theorem dX11_stuck_15 : decode cX11_stuck 15 = .ok (.iload_n 2, 1) := by decide +kernel
theorem dX11_stuck_16 : decode cX11_stuck 16 = .ok (.iconst 4, 1) := by decide +kernel
theorem dX11_stuck_17 : decode cX11_stuck 17 = .ok (.if_icmp .le 5, 3) := by decide +kernel
theorem dX11_stuck_20 : decode cX11_stuck 20 = .ok (.iconst (-1), 1) := by decide +kernel
theorem dX11_stuck_21 : decode cX11_stuck 21 = .ok (.ireturn, 1) := by decide +kernel
theorem dX11_stuck_22 : decode cX11_stuck 22 = .ok (.aload_n 0, 1) := by decide +kernel
theorem dX11_stuck_23 : decode cX11_stuck 23 = .ok (.getfield 80, 3) := by decide +kernel
theorem dX11_stuck_26 : decode cX11_stuck 26 = .ok (.aload_n 0, 1) := by decide +kernel
theorem dX11_stuck_27 : decode cX11_stuck 27 = .ok (.getfield 23, 3) := by decide +kernel
theorem dX11_stuck_30 : decode cX11_stuck 30 = .ok (.aload_n 0, 1) := by decide +kernel
theorem dX11_stuck_31 : decode cX11_stuck 31 = .ok (.getfield 33, 3) := by decide +kernel
theorem dX11_stuck_34 : decode cX11_stuck 34 = .ok (.invokevirtual 102, 3) := by decide +kernel
theorem dX11_stuck_37 : decode cX11_stuck 37 = .ok (.getfield 147, 3) := by decide +kernel
theorem dX11_stuck_40 : decode cX11_stuck 40 = .ok (.iload_n 1, 1) := by decide +kernel
theorem dX11_stuck_41 : decode cX11_stuck 41 = .ok (.invokevirtual 257, 3) := by decide +kernel
theorem dX11_stuck_44 : decode cX11_stuck 44 = .ok (.istore_n 3, 1) := by decide +kernel
theorem dX11_stuck_45 : decode cX11_stuck 45 = .ok (.iload_n 3, 1) := by decide +kernel
theorem dX11_stuck_46 : decode cX11_stuck 46 = .ok (.iconst 2, 1) := by decide +kernel
theorem dX11_stuck_47 : decode cX11_stuck 47 = .ok (.if_icmp .eq 16, 3) := by decide +kernel
theorem dX11_stuck_50 : decode cX11_stuck 50 = .ok (.iload_n 3, 1) := by decide +kernel
theorem dX11_stuck_51 : decode cX11_stuck 51 = .ok (.ifCond .ne 14, 3) := by decide +kernel
theorem dX11_stuck_54 : decode cX11_stuck 54 = .ok (.iload_n 2, 1) := by decide +kernel
theorem dX11_stuck_55 : decode cX11_stuck 55 = .ok (.ifCond .eq 10, 3) := by decide +kernel
theorem dX11_stuck_58 : decode cX11_stuck 58 = .ok (.iload_n 2, 1) := by decide +kernel
theorem dX11_stuck_59 : decode cX11_stuck 59 = .ok (.iconst 2, 1) := by decide +kernel
theorem dX11_stuck_60 : decode cX11_stuck 60 = .ok (.if_icmp .eq 5, 3) := by decide +kernel
theorem dX11_stuck_63 : decode cX11_stuck 63 = .ok (.iconst (-1), 1) := by decide +kernel
theorem dX11_stuck_64 : decode cX11_stuck 64 = .ok (.ireturn, 1) := by decide +kernel
theorem dX11_stuck_65 : decode cX11_stuck 65 = .ok (.iload_n 2, 1) := by decide +kernel
theorem dX11_stuck_66 : decode cX11_stuck 66 = .ok (.tableswitch 71 0 3 #[30, 41, 51, 61], 30) := by decide +kernel
theorem dX11_stuck_96 : decode cX11_stuck 96 = .ok (.iload_n 3, 1) := by decide +kernel
theorem dX11_stuck_97 : decode cX11_stuck 97 = .ok (.iconst 1, 1) := by decide +kernel
theorem dX11_stuck_98 : decode cX11_stuck 98 = .ok (.if_icmp .ne 7, 3) := by decide +kernel
theorem dX11_stuck_101 : decode cX11_stuck 101 = .ok (.iconst 1, 1) := by decide +kernel
theorem dX11_stuck_102 : decode cX11_stuck 102 = .ok (.goto 4, 3) := by decide +kernel
theorem dX11_stuck_105 : decode cX11_stuck 105 = .ok (.iconst 0, 1) := by decide +kernel
theorem dX11_stuck_106 : decode cX11_stuck 106 = .ok (.ireturn, 1) := by decide +kernel
theorem dX11_stuck_107 : decode cX11_stuck 107 = .ok (.aload_n 0, 1) := by decide +kernel
theorem dX11_stuck_108 : decode cX11_stuck 108 = .ok (.getfield 80, 3) := by decide +kernel
theorem dX11_stuck_111 : decode cX11_stuck 111 = .ok (.getfield 261, 3) := by decide +kernel
theorem dX11_stuck_114 : decode cX11_stuck 114 = .ok (.iload_n 1, 1) := by decide +kernel
theorem dX11_stuck_115 : decode cX11_stuck 115 = .ok (.iaload, 1) := by decide +kernel
theorem dX11_stuck_116 : decode cX11_stuck 116 = .ok (.ireturn, 1) := by decide +kernel
theorem dX11_stuck_117 : decode cX11_stuck 117 = .ok (.aload_n 0, 1) := by decide +kernel
theorem dX11_stuck_118 : decode cX11_stuck 118 = .ok (.getfield 80, 3) := by decide +kernel
theorem dX11_stuck_121 : decode cX11_stuck 121 = .ok (.getfield 264, 3) := by decide +kernel
theorem dX11_stuck_124 : decode cX11_stuck 124 = .ok (.iload_n 1, 1) := by decide +kernel
theorem dX11_stuck_125 : decode cX11_stuck 125 = .ok (.iaload, 1) := by decide +kernel
theorem dX11_stuck_126 : decode cX11_stuck 126 = .ok (.ireturn, 1) := by decide +kernel
theorem dX11_stuck_127 : decode cX11_stuck 127 = .ok (.aload_n 0, 1) := by decide +kernel
theorem dX11_stuck_128 : decode cX11_stuck 128 = .ok (.getfield 80, 3) := by decide +kernel
theorem dX11_stuck_131 : decode cX11_stuck 131 = .ok (.getfield 267, 3) := by decide +kernel
theorem dX11_stuck_134 : decode cX11_stuck 134 = .ok (.iload_n 1, 1) := by decide +kernel
theorem dX11_stuck_135 : decode cX11_stuck 135 = .ok (.iaload, 1) := by decide +kernel
theorem dX11_stuck_136 : decode cX11_stuck 136 = .ok (.ireturn, 1) := by decide +kernel
theorem dX11_stuck_137 : decode cX11_stuck 137 = .ok (.aload_n 0, 1) := by decide +kernel
theorem dX11_stuck_138 : decode cX11_stuck 138 = .ok (.getfield 80, 3) := by decide +kernel
theorem dX11_stuck_141 : decode cX11_stuck 141 = .ok (.getfield 270, 3) := by decide +kernel
theorem dX11_stuck_144 : decode cX11_stuck 144 = .ok (.iload_n 1, 1) := by decide +kernel
theorem dX11_stuck_145 : decode cX11_stuck 145 = .ok (.iaload, 1) := by decide +kernel
theorem dX11_stuck_146 : decode cX11_stuck 146 = .ok (.ireturn, 1) := by decide +kernel
theorem dX11_move_0 : decode cX11_move 0 = .ok (.aload_n 0, 1) := by decide +kernel
theorem dX11_move_1 : decode cX11_move 1 = .ok (.getfield 23, 3) := by decide +kernel
theorem dX11_move_4 : decode cX11_move 4 = .ok (.iload_n 1, 1) := by decide +kernel
theorem dX11_move_5 : decode cX11_move 5 = .ok (.invokevirtual 254, 3) := by decide +kernel
theorem dX11_move_8 : decode cX11_move 8 = .ok (.ifCond .eq 12, 3) := by decide +kernel
theorem dX11_move_11 : decode cX11_move 11 = .ok (.iload_n 3, 1) := by decide +kernel
theorem dX11_move_12 : decode cX11_move 12 = .ok (.ifCond .lt 8, 3) := by decide +kernel
theorem dX11_move_15 : decode cX11_move 15 = .ok (.iload_n 3, 1) := by decide +kernel
theorem dX11_move_16 : decode cX11_move 16 = .ok (.iconst 1, 1) := by decide +kernel
theorem dX11_move_17 : decode cX11_move 17 = .ok (.if_icmp .le 6, 3) := by decide +kernel
theorem dX11_move_20 : decode cX11_move 20 = .ok (.bipush (-2), 2) := by decide +kernel
theorem dX11_move_22 : decode cX11_move 22 = .ok (.ireturn, 1) := by decide +kernel
theorem dX11_move_23 : decode cX11_move 23 = .ok (.aload_n 0, 1) := by decide +kernel
theorem dX11_move_24 : decode cX11_move 24 = .ok (.getfield 80, 3) := by decide +kernel
theorem dX11_move_27 : decode cX11_move 27 = .ok (.aload_n 0, 1) := by decide +kernel
theorem dX11_move_28 : decode cX11_move 28 = .ok (.getfield 23, 3) := by decide +kernel
theorem dX11_move_31 : decode cX11_move 31 = .ok (.aload_n 0, 1) := by decide +kernel
theorem dX11_move_32 : decode cX11_move 32 = .ok (.getfield 33, 3) := by decide +kernel
theorem dX11_move_35 : decode cX11_move 35 = .ok (.invokevirtual 102, 3) := by decide +kernel
theorem dX11_move_38 : decode cX11_move 38 = .ok (.getfield 147, 3) := by decide +kernel
theorem dX11_move_41 : decode cX11_move 41 = .ok (.iload_n 1, 1) := by decide +kernel
theorem dX11_move_42 : decode cX11_move 42 = .ok (.iload_n 2, 1) := by decide +kernel
theorem dX11_move_43 : decode cX11_move 43 = .ok (.invokevirtual 273, 3) := by decide +kernel
theorem dX11_move_46 : decode cX11_move 46 = .ok (.istore 4, 2) := by decide +kernel
theorem dX11_move_48 : decode cX11_move 48 = .ok (.iload 4, 2) := by decide +kernel
theorem dX11_move_50 : decode cX11_move 50 = .ok (.iconst (-1), 1) := by decide +kernel
theorem dX11_move_51 : decode cX11_move 51 = .ok (.if_icmp .ne 6, 3) := by decide +kernel
theorem dX11_move_54 : decode cX11_move 54 = .ok (.bipush (-2), 2) := by decide +kernel
theorem dX11_move_56 : decode cX11_move 56 = .ok (.ireturn, 1) := by decide +kernel
theorem dX11_move_57 : decode cX11_move 57 = .ok (.iload_n 3, 1) := by decide +kernel
theorem dX11_move_58 : decode cX11_move 58 = .ok (.ifCond .ne 10, 3) := by decide +kernel
theorem dX11_move_61 : decode cX11_move 61 = .ok (.iload 4, 2) := by decide +kernel
theorem dX11_move_63 : decode cX11_move 63 = .ok (.iconst 3, 1) := by decide +kernel
theorem dX11_move_64 : decode cX11_move 64 = .ok (.ishr, 1) := by decide +kernel
theorem dX11_move_65 : decode cX11_move 65 = .ok (.goto 10, 3) := by decide +kernel
theorem dX11_move_68 : decode cX11_move 68 = .ok (.iload 4, 2) := by decide +kernel
theorem dX11_move_70 : decode cX11_move 70 = .ok (.bipush 7, 2) := by decide +kernel
theorem dX11_move_72 : decode cX11_move 72 = .ok (.iand, 1) := by decide +kernel
theorem dX11_move_73 : decode cX11_move 73 = .ok (.iconst 1, 1) := by decide +kernel
theorem dX11_move_74 : decode cX11_move 74 = .ok (.isub, 1) := by decide +kernel
theorem dX11_move_75 : decode cX11_move 75 = .ok (.ireturn, 1) := by decide +kernel
theorem dX11_clash_0 : decode cX11_clash 0 = .ok (.iload_n 1, 1) := by decide +kernel
theorem dX11_clash_1 : decode cX11_clash 1 = .ok (.iload_n 2, 1) := by decide +kernel
theorem dX11_clash_2 : decode cX11_clash 2 = .ok (.if_icmp .eq 25, 3) := by decide +kernel
theorem dX11_clash_5 : decode cX11_clash 5 = .ok (.aload_n 0, 1) := by decide +kernel
theorem dX11_clash_6 : decode cX11_clash 6 = .ok (.getfield 23, 3) := by decide +kernel
theorem dX11_clash_9 : decode cX11_clash 9 = .ok (.iload_n 1, 1) := by decide +kernel
theorem dX11_clash_10 : decode cX11_clash 10 = .ok (.invokevirtual 277, 3) := by decide +kernel
theorem dX11_clash_13 : decode cX11_clash 13 = .ok (.ifCond .eq 14, 3) := by decide +kernel
theorem dX11_clash_16 : decode cX11_clash 16 = .ok (.aload_n 0, 1) := by decide +kernel
theorem dX11_clash_17 : decode cX11_clash 17 = .ok (.getfield 23, 3) := by decide +kernel
theorem dX11_clash_20 : decode cX11_clash 20 = .ok (.iload_n 2, 1) := by decide +kernel
theorem dX11_clash_21 : decode cX11_clash 21 = .ok (.invokevirtual 277, 3) := by decide +kernel
theorem dX11_clash_24 : decode cX11_clash 24 = .ok (.ifCond .ne 5, 3) := by decide +kernel
theorem dX11_clash_27 : decode cX11_clash 27 = .ok (.iconst (-1), 1) := by decide +kernel
theorem dX11_clash_28 : decode cX11_clash 28 = .ok (.ireturn, 1) := by decide +kernel
theorem dX11_clash_29 : decode cX11_clash 29 = .ok (.aload_n 0, 1) := by decide +kernel
theorem dX11_clash_30 : decode cX11_clash 30 = .ok (.getfield 23, 3) := by decide +kernel
theorem dX11_clash_33 : decode cX11_clash 33 = .ok (.invokevirtual 280, 3) := by decide +kernel
theorem dX11_clash_36 : decode cX11_clash 36 = .ok (.aload_n 0, 1) := by decide +kernel
theorem dX11_clash_37 : decode cX11_clash 37 = .ok (.getfield 23, 3) := by decide +kernel
theorem dX11_clash_40 : decode cX11_clash 40 = .ok (.invokevirtual 284, 3) := by decide +kernel
theorem dX11_clash_43 : decode cX11_clash 43 = .ok (.iconst (-1), 1) := by decide +kernel
theorem dX11_clash_44 : decode cX11_clash 44 = .ok (.ixor, 1) := by decide +kernel
theorem dX11_clash_45 : decode cX11_clash 45 = .ok (.iand, 1) := by decide +kernel
theorem dX11_clash_46 : decode cX11_clash 46 = .ok (.iconst 1, 1) := by decide +kernel
theorem dX11_clash_47 : decode cX11_clash 47 = .ok (.iload_n 1, 1) := by decide +kernel
theorem dX11_clash_48 : decode cX11_clash 48 = .ok (.ishl, 1) := by decide +kernel
theorem dX11_clash_49 : decode cX11_clash 49 = .ok (.ior, 1) := by decide +kernel
theorem dX11_clash_50 : decode cX11_clash 50 = .ok (.iconst 1, 1) := by decide +kernel
theorem dX11_clash_51 : decode cX11_clash 51 = .ok (.iload_n 2, 1) := by decide +kernel
theorem dX11_clash_52 : decode cX11_clash 52 = .ok (.ishl, 1) := by decide +kernel
theorem dX11_clash_53 : decode cX11_clash 53 = .ok (.ior, 1) := by decide +kernel
theorem dX11_clash_54 : decode cX11_clash 54 = .ok (.istore_n 3, 1) := by decide +kernel
theorem dX11_clash_55 : decode cX11_clash 55 = .ok (.aload_n 0, 1) := by decide +kernel
theorem dX11_clash_56 : decode cX11_clash 56 = .ok (.getfield 80, 3) := by decide +kernel
theorem dX11_clash_59 : decode cX11_clash 59 = .ok (.aload_n 0, 1) := by decide +kernel
theorem dX11_clash_60 : decode cX11_clash 60 = .ok (.getfield 23, 3) := by decide +kernel
theorem dX11_clash_63 : decode cX11_clash 63 = .ok (.aload_n 0, 1) := by decide +kernel
theorem dX11_clash_64 : decode cX11_clash 64 = .ok (.getfield 33, 3) := by decide +kernel
theorem dX11_clash_67 : decode cX11_clash 67 = .ok (.invokevirtual 102, 3) := by decide +kernel
theorem dX11_clash_70 : decode cX11_clash 70 = .ok (.getfield 147, 3) := by decide +kernel
theorem dX11_clash_73 : decode cX11_clash 73 = .ok (.iload_n 3, 1) := by decide +kernel
theorem dX11_clash_74 : decode cX11_clash 74 = .ok (.invokevirtual 257, 3) := by decide +kernel
theorem dX11_clash_77 : decode cX11_clash 77 = .ok (.istore 4, 2) := by decide +kernel
theorem dX11_clash_79 : decode cX11_clash 79 = .ok (.iload 4, 2) := by decide +kernel
theorem dX11_clash_81 : decode cX11_clash 81 = .ok (.iconst 2, 1) := by decide +kernel
theorem dX11_clash_82 : decode cX11_clash 82 = .ok (.if_icmp .ne 5, 3) := by decide +kernel
theorem dX11_clash_85 : decode cX11_clash 85 = .ok (.iconst (-1), 1) := by decide +kernel
theorem dX11_clash_86 : decode cX11_clash 86 = .ok (.ireturn, 1) := by decide +kernel
theorem dX11_clash_87 : decode cX11_clash 87 = .ok (.iload 4, 2) := by decide +kernel
theorem dX11_clash_89 : decode cX11_clash 89 = .ok (.iconst 1, 1) := by decide +kernel
theorem dX11_clash_90 : decode cX11_clash 90 = .ok (.if_icmp .ne 7, 3) := by decide +kernel
theorem dX11_clash_93 : decode cX11_clash 93 = .ok (.iconst 1, 1) := by decide +kernel
theorem dX11_clash_94 : decode cX11_clash 94 = .ok (.goto 4, 3) := by decide +kernel
theorem dX11_clash_97 : decode cX11_clash 97 = .ok (.iconst 0, 1) := by decide +kernel
theorem dX11_clash_98 : decode cX11_clash 98 = .ok (.ireturn, 1) := by decide +kernel
theorem dX11_least_0 : decode cX11_least 0 = .ok (.aload_n 0, 1) := by decide +kernel
theorem dX11_least_1 : decode cX11_least 1 = .ok (.getfield 80, 3) := by decide +kernel
theorem dX11_least_4 : decode cX11_least 4 = .ok (.aload_n 0, 1) := by decide +kernel
theorem dX11_least_5 : decode cX11_least 5 = .ok (.getfield 23, 3) := by decide +kernel
theorem dX11_least_8 : decode cX11_least 8 = .ok (.aload_n 0, 1) := by decide +kernel
theorem dX11_least_9 : decode cX11_least 9 = .ok (.getfield 33, 3) := by decide +kernel
theorem dX11_least_12 : decode cX11_least 12 = .ok (.invokevirtual 102, 3) := by decide +kernel
theorem dX11_least_15 : decode cX11_least 15 = .ok (.getfield 147, 3) := by decide +kernel
theorem dX11_least_18 : decode cX11_least 18 = .ok (.invokevirtual 287, 3) := by decide +kernel
theorem dX11_least_21 : decode cX11_least 21 = .ok (.ireturn, 1) := by decide +kernel
theorem dX11_missed_0 : decode cX11_missed 0 = .ok (.aload_n 0, 1) := by decide +kernel
theorem dX11_missed_1 : decode cX11_missed 1 = .ok (.getfield 80, 3) := by decide +kernel
theorem dX11_missed_4 : decode cX11_missed 4 = .ok (.aload_n 0, 1) := by decide +kernel
theorem dX11_missed_5 : decode cX11_missed 5 = .ok (.getfield 23, 3) := by decide +kernel
theorem dX11_missed_8 : decode cX11_missed 8 = .ok (.aload_n 0, 1) := by decide +kernel
theorem dX11_missed_9 : decode cX11_missed 9 = .ok (.getfield 33, 3) := by decide +kernel
theorem dX11_missed_12 : decode cX11_missed 12 = .ok (.invokevirtual 102, 3) := by decide +kernel
theorem dX11_missed_15 : decode cX11_missed 15 = .ok (.getfield 147, 3) := by decide +kernel
theorem dX11_missed_18 : decode cX11_missed 18 = .ok (.invokevirtual 287, 3) := by decide +kernel
theorem dX11_missed_21 : decode cX11_missed 21 = .ok (.istore_n 1, 1) := by decide +kernel
theorem dX11_missed_22 : decode cX11_missed 22 = .ok (.iload_n 1, 1) := by decide +kernel
theorem dX11_missed_23 : decode cX11_missed 23 = .ok (.ifCond .ne 5, 3) := by decide +kernel
theorem dX11_missed_26 : decode cX11_missed 26 = .ok (.iconst 0, 1) := by decide +kernel
theorem dX11_missed_27 : decode cX11_missed 27 = .ok (.ireturn, 1) := by decide +kernel
theorem dX11_missed_28 : decode cX11_missed 28 = .ok (.aload_n 0, 1) := by decide +kernel
theorem dX11_missed_29 : decode cX11_missed 29 = .ok (.aload_n 0, 1) := by decide +kernel
theorem dX11_missed_30 : decode cX11_missed 30 = .ok (.getfield 33, 3) := by decide +kernel
theorem dX11_missed_33 : decode cX11_missed 33 = .ok (.invokevirtual 102, 3) := by decide +kernel
theorem dX11_missed_36 : decode cX11_missed 36 = .ok (.getfield 147, 3) := by decide +kernel
theorem dX11_missed_39 : decode cX11_missed 39 = .ok (.invokevirtual 247, 3) := by decide +kernel
theorem dX11_missed_42 : decode cX11_missed 42 = .ok (.invokevirtual 291, 3) := by decide +kernel
theorem dX11_missed_45 : decode cX11_missed 45 = .ok (.istore_n 2, 1) := by decide +kernel
theorem dX11_missed_46 : decode cX11_missed 46 = .ok (.aload_n 0, 1) := by decide +kernel
theorem dX11_missed_47 : decode cX11_missed 47 = .ok (.getfield 23, 3) := by decide +kernel
theorem dX11_missed_50 : decode cX11_missed 50 = .ok (.aload_n 0, 1) := by decide +kernel
theorem dX11_missed_51 : decode cX11_missed 51 = .ok (.getfield 80, 3) := by decide +kernel
theorem dX11_missed_54 : decode cX11_missed 54 = .ok (.getfield 270, 3) := by decide +kernel
theorem dX11_missed_57 : decode cX11_missed 57 = .ok (.iload_n 1, 1) := by decide +kernel
theorem dX11_missed_58 : decode cX11_missed 58 = .ok (.iaload, 1) := by decide +kernel
theorem dX11_missed_59 : decode cX11_missed 59 = .ok (.iload_n 2, 1) := by decide +kernel
theorem dX11_missed_60 : decode cX11_missed 60 = .ok (.iconst (-1), 1) := by decide +kernel
theorem dX11_missed_61 : decode cX11_missed 61 = .ok (.ixor, 1) := by decide +kernel
theorem dX11_missed_62 : decode cX11_missed 62 = .ok (.invokevirtual 294, 3) := by decide +kernel
theorem dX11_missed_65 : decode cX11_missed 65 = .ok (.invokestatic 297, 3) := by decide +kernel
theorem dX11_missed_68 : decode cX11_missed 68 = .ok (.ireturn, 1) := by decide +kernel
theorem dX11_proves_0 : decode cX11_proves 0 = .ok (.aload_n 0, 1) := by decide +kernel
theorem dX11_proves_1 : decode cX11_proves 1 = .ok (.getfield 33, 3) := by decide +kernel
theorem dX11_proves_4 : decode cX11_proves 4 = .ok (.invokevirtual 102, 3) := by decide +kernel
theorem dX11_proves_7 : decode cX11_proves 7 = .ok (.getfield 133, 3) := by decide +kernel
theorem dX11_proves_10 : decode cX11_proves 10 = .ok (.astore_n 2, 1) := by decide +kernel
theorem dX11_proves_11 : decode cX11_proves 11 = .ok (.iload_n 1, 1) := by decide +kernel
theorem dX11_proves_12 : decode cX11_proves 12 = .ok (.ifCond .lt 21, 3) := by decide +kernel
theorem dX11_proves_15 : decode cX11_proves 15 = .ok (.iload_n 1, 1) := by decide +kernel
theorem dX11_proves_16 : decode cX11_proves 16 = .ok (.aload_n 2, 1) := by decide +kernel
theorem dX11_proves_17 : decode cX11_proves 17 = .ok (.getfield 137, 3) := by decide +kernel
theorem dX11_proves_20 : decode cX11_proves 20 = .ok (.if_icmp .ge 13, 3) := by decide +kernel
theorem dX11_proves_23 : decode cX11_proves 23 = .ok (.aload_n 2, 1) := by decide +kernel
theorem dX11_proves_24 : decode cX11_proves 24 = .ok (.getfield 218, 3) := by decide +kernel
theorem dX11_proves_27 : decode cX11_proves 27 = .ok (.iload_n 1, 1) := by decide +kernel
theorem dX11_proves_28 : decode cX11_proves 28 = .ok (.iaload, 1) := by decide +kernel
theorem dX11_proves_29 : decode cX11_proves 29 = .ok (.iconst 3, 1) := by decide +kernel
theorem dX11_proves_30 : decode cX11_proves 30 = .ok (.if_icmp .eq 5, 3) := by decide +kernel
theorem dX11_proves_33 : decode cX11_proves 33 = .ok (.iconst (-1), 1) := by decide +kernel
theorem dX11_proves_34 : decode cX11_proves 34 = .ok (.ireturn, 1) := by decide +kernel
theorem dX11_proves_35 : decode cX11_proves 35 = .ok (.aload_n 2, 1) := by decide +kernel
theorem dX11_proves_36 : decode cX11_proves 36 = .ok (.iload_n 1, 1) := by decide +kernel
theorem dX11_proves_37 : decode cX11_proves 37 = .ok (.invokevirtual 302, 3) := by decide +kernel
theorem dX11_proves_40 : decode cX11_proves 40 = .ok (.iconst (-1), 1) := by decide +kernel
theorem dX11_proves_41 : decode cX11_proves 41 = .ok (.ixor, 1) := by decide +kernel
theorem dX11_proves_42 : decode cX11_proves 42 = .ok (.istore_n 3, 1) := by decide +kernel
theorem dX11_proves_43 : decode cX11_proves 43 = .ok (.iconst 1, 1) := by decide +kernel
theorem dX11_proves_44 : decode cX11_proves 44 = .ok (.istore 4, 2) := by decide +kernel
theorem dX11_proves_46 : decode cX11_proves 46 = .ok (.iload 4, 2) := by decide +kernel
theorem dX11_proves_48 : decode cX11_proves 48 = .ok (.aload_n 0, 1) := by decide +kernel
theorem dX11_proves_49 : decode cX11_proves 49 = .ok (.getfield 23, 3) := by decide +kernel
theorem dX11_proves_52 : decode cX11_proves 52 = .ok (.invokevirtual 280, 3) := by decide +kernel
theorem dX11_proves_55 : decode cX11_proves 55 = .ok (.if_icmp .gt 71, 3) := by decide +kernel
theorem dX11_proves_58 : decode cX11_proves 58 = .ok (.aload_n 0, 1) := by decide +kernel
theorem dX11_proves_59 : decode cX11_proves 59 = .ok (.getfield 23, 3) := by decide +kernel
theorem dX11_proves_62 : decode cX11_proves 62 = .ok (.iload 4, 2) := by decide +kernel
theorem dX11_proves_64 : decode cX11_proves 64 = .ok (.invokevirtual 254, 3) := by decide +kernel
theorem dX11_proves_67 : decode cX11_proves 67 = .ok (.ifCond .eq 53, 3) := by decide +kernel
theorem dX11_proves_70 : decode cX11_proves 70 = .ok (.aload_n 0, 1) := by decide +kernel
theorem dX11_proves_71 : decode cX11_proves 71 = .ok (.getfield 80, 3) := by decide +kernel
theorem dX11_proves_74 : decode cX11_proves 74 = .ok (.aload_n 0, 1) := by decide +kernel
theorem dX11_proves_75 : decode cX11_proves 75 = .ok (.getfield 23, 3) := by decide +kernel
theorem dX11_proves_78 : decode cX11_proves 78 = .ok (.aload_n 0, 1) := by decide +kernel
theorem dX11_proves_79 : decode cX11_proves 79 = .ok (.getfield 33, 3) := by decide +kernel
theorem dX11_proves_82 : decode cX11_proves 82 = .ok (.invokevirtual 102, 3) := by decide +kernel
theorem dX11_proves_85 : decode cX11_proves 85 = .ok (.getfield 147, 3) := by decide +kernel
theorem dX11_proves_88 : decode cX11_proves 88 = .ok (.iload 4, 2) := by decide +kernel
theorem dX11_proves_90 : decode cX11_proves 90 = .ok (.invokevirtual 257, 3) := by decide +kernel
theorem dX11_proves_93 : decode cX11_proves 93 = .ok (.iconst 1, 1) := by decide +kernel
theorem dX11_proves_94 : decode cX11_proves 94 = .ok (.if_icmp .ne 26, 3) := by decide +kernel
theorem dX11_proves_97 : decode cX11_proves 97 = .ok (.aload_n 0, 1) := by decide +kernel
theorem dX11_proves_98 : decode cX11_proves 98 = .ok (.getfield 23, 3) := by decide +kernel
theorem dX11_proves_101 : decode cX11_proves 101 = .ok (.aload_n 0, 1) := by decide +kernel
theorem dX11_proves_102 : decode cX11_proves 102 = .ok (.getfield 80, 3) := by decide +kernel
theorem dX11_proves_105 : decode cX11_proves 105 = .ok (.getfield 270, 3) := by decide +kernel
theorem dX11_proves_108 : decode cX11_proves 108 = .ok (.iload 4, 2) := by decide +kernel
theorem dX11_proves_110 : decode cX11_proves 110 = .ok (.iaload, 1) := by decide +kernel
theorem dX11_proves_111 : decode cX11_proves 111 = .ok (.iload_n 3, 1) := by decide +kernel
theorem dX11_proves_112 : decode cX11_proves 112 = .ok (.invokevirtual 294, 3) := by decide +kernel
theorem dX11_proves_115 : decode cX11_proves 115 = .ok (.ifCond .ne 5, 3) := by decide +kernel
theorem dX11_proves_118 : decode cX11_proves 118 = .ok (.iconst 1, 1) := by decide +kernel
theorem dX11_proves_119 : decode cX11_proves 119 = .ok (.ireturn, 1) := by decide +kernel
theorem dX11_proves_120 : decode cX11_proves 120 = .ok (.iinc 4 1, 3) := by decide +kernel
theorem dX11_proves_123 : decode cX11_proves 123 = .ok (.goto (-77), 3) := by decide +kernel
theorem dX11_proves_126 : decode cX11_proves 126 = .ok (.iconst 0, 1) := by decide +kernel
theorem dX11_proves_127 : decode cX11_proves 127 = .ok (.ireturn, 1) := by decide +kernel
theorem dX11_bestSwap_0 : decode cX11_bestSwap 0 = .ok (.iload_n 1, 1) := by decide +kernel
theorem dX11_bestSwap_1 : decode cX11_bestSwap 1 = .ok (.ifCond .lt 8, 3) := by decide +kernel
theorem dX11_bestSwap_4 : decode cX11_bestSwap 4 = .ok (.iload_n 1, 1) := by decide +kernel
theorem dX11_bestSwap_5 : decode cX11_bestSwap 5 = .ok (.iconst 2, 1) := by decide +kernel
theorem dX11_bestSwap_6 : decode cX11_bestSwap 6 = .ok (.if_icmp .le 5, 3) := by decide +kernel
theorem dX11_bestSwap_9 : decode cX11_bestSwap 9 = .ok (.iconst (-1), 1) := by decide +kernel
theorem dX11_bestSwap_10 : decode cX11_bestSwap 10 = .ok (.ireturn, 1) := by decide +kernel
theorem dX11_bestSwap_11 : decode cX11_bestSwap 11 = .ok (.aload_n 0, 1) := by decide +kernel
theorem dX11_bestSwap_12 : decode cX11_bestSwap 12 = .ok (.getfield 33, 3) := by decide +kernel
theorem dX11_bestSwap_15 : decode cX11_bestSwap 15 = .ok (.invokevirtual 102, 3) := by decide +kernel
theorem dX11_bestSwap_18 : decode cX11_bestSwap 18 = .ok (.getfield 147, 3) := by decide +kernel
theorem dX11_bestSwap_21 : decode cX11_bestSwap 21 = .ok (.iconst 0, 1) := by decide +kernel
theorem dX11_bestSwap_22 : decode cX11_bestSwap 22 = .ok (.aload_n 0, 1) := by decide +kernel
theorem dX11_bestSwap_23 : decode cX11_bestSwap 23 = .ok (.getfield 73, 3) := by decide +kernel
theorem dX11_bestSwap_26 : decode cX11_bestSwap 26 = .ok (.iconst 0, 1) := by decide +kernel
theorem dX11_bestSwap_27 : decode cX11_bestSwap 27 = .ok (.aload_n 0, 1) := by decide +kernel
theorem dX11_bestSwap_28 : decode cX11_bestSwap 28 = .ok (.getfield 73, 3) := by decide +kernel
theorem dX11_bestSwap_31 : decode cX11_bestSwap 31 = .ok (.arraylength, 1) := by decide +kernel
theorem dX11_bestSwap_32 : decode cX11_bestSwap 32 = .ok (.invokestatic 305, 3) := by decide +kernel
theorem dX11_bestSwap_35 : decode cX11_bestSwap 35 = .ok (.aload_n 0, 1) := by decide +kernel
theorem dX11_bestSwap_36 : decode cX11_bestSwap 36 = .ok (.aload_n 0, 1) := by decide +kernel
theorem dX11_bestSwap_37 : decode cX11_bestSwap 37 = .ok (.getfield 73, 3) := by decide +kernel
theorem dX11_bestSwap_40 : decode cX11_bestSwap 40 = .ok (.invokevirtual 247, 3) := by decide +kernel
theorem dX11_bestSwap_43 : decode cX11_bestSwap 43 = .ok (.iconst 3, 1) := by decide +kernel
theorem dX11_bestSwap_44 : decode cX11_bestSwap 44 = .ok (.invokevirtual 251, 3) := by decide +kernel
theorem dX11_bestSwap_47 : decode cX11_bestSwap 47 = .ok (.istore_n 2, 1) := by decide +kernel
theorem dX11_bestSwap_48 : decode cX11_bestSwap 48 = .ok (.iconst (-1), 1) := by decide +kernel
theorem dX11_bestSwap_49 : decode cX11_bestSwap 49 = .ok (.istore_n 3, 1) := by decide +kernel
theorem dX11_bestSwap_50 : decode cX11_bestSwap 50 = .ok (.iconst 0, 1) := by decide +kernel
theorem dX11_bestSwap_51 : decode cX11_bestSwap 51 = .ok (.istore 4, 2) := by decide +kernel
theorem dX11_bestSwap_53 : decode cX11_bestSwap 53 = .ok (.iload 4, 2) := by decide +kernel
theorem dX11_bestSwap_55 : decode cX11_bestSwap 55 = .ok (.aload_n 0, 1) := by decide +kernel
theorem dX11_bestSwap_56 : decode cX11_bestSwap 56 = .ok (.getfield 73, 3) := by decide +kernel
theorem dX11_bestSwap_59 : decode cX11_bestSwap 59 = .ok (.arraylength, 1) := by decide +kernel
theorem dX11_bestSwap_60 : decode cX11_bestSwap 60 = .ok (.if_icmp .ge 89, 3) := by decide +kernel
theorem dX11_bestSwap_63 : decode cX11_bestSwap 63 = .ok (.aload_n 0, 1) := by decide +kernel
theorem dX11_bestSwap_64 : decode cX11_bestSwap 64 = .ok (.getfield 23, 3) := by decide +kernel
theorem dX11_bestSwap_67 : decode cX11_bestSwap 67 = .ok (.iload 4, 2) := by decide +kernel
theorem dX11_bestSwap_69 : decode cX11_bestSwap 69 = .ok (.bipush 12, 2) := by decide +kernel
theorem dX11_bestSwap_71 : decode cX11_bestSwap 71 = .ok (.idiv, 1) := by decide +kernel
theorem dX11_bestSwap_72 : decode cX11_bestSwap 72 = .ok (.iload 4, 2) := by decide +kernel
theorem dX11_bestSwap_74 : decode cX11_bestSwap 74 = .ok (.bipush 12, 2) := by decide +kernel
theorem dX11_bestSwap_76 : decode cX11_bestSwap 76 = .ok (.irem, 1) := by decide +kernel
theorem dX11_bestSwap_77 : decode cX11_bestSwap 77 = .ok (.invokevirtual 143, 3) := by decide +kernel
theorem dX11_bestSwap_80 : decode cX11_bestSwap 80 = .ok (.ifCond .eq 63, 3) := by decide +kernel
theorem dX11_bestSwap_83 : decode cX11_bestSwap 83 = .ok (.aload_n 0, 1) := by decide +kernel
theorem dX11_bestSwap_84 : decode cX11_bestSwap 84 = .ok (.getfield 73, 3) := by decide +kernel
theorem dX11_bestSwap_87 : decode cX11_bestSwap 87 = .ok (.iload 4, 2) := by decide +kernel
theorem dX11_bestSwap_89 : decode cX11_bestSwap 89 = .ok (.bipush 12, 2) := by decide +kernel
theorem dX11_bestSwap_91 : decode cX11_bestSwap 91 = .ok (.idiv, 1) := by decide +kernel
theorem dX11_bestSwap_92 : decode cX11_bestSwap 92 = .ok (.iload 4, 2) := by decide +kernel
theorem dX11_bestSwap_94 : decode cX11_bestSwap 94 = .ok (.bipush 12, 2) := by decide +kernel
theorem dX11_bestSwap_96 : decode cX11_bestSwap 96 = .ok (.irem, 1) := by decide +kernel
theorem dX11_bestSwap_97 : decode cX11_bestSwap 97 = .ok (.invokestatic 148, 3) := by decide +kernel
theorem dX11_bestSwap_100 : decode cX11_bestSwap 100 = .ok (.aload_n 0, 1) := by decide +kernel
theorem dX11_bestSwap_101 : decode cX11_bestSwap 101 = .ok (.aload_n 0, 1) := by decide +kernel
theorem dX11_bestSwap_102 : decode cX11_bestSwap 102 = .ok (.getfield 73, 3) := by decide +kernel
theorem dX11_bestSwap_105 : decode cX11_bestSwap 105 = .ok (.invokevirtual 247, 3) := by decide +kernel
theorem dX11_bestSwap_108 : decode cX11_bestSwap 108 = .ok (.iconst 3, 1) := by decide +kernel
theorem dX11_bestSwap_109 : decode cX11_bestSwap 109 = .ok (.invokevirtual 251, 3) := by decide +kernel
theorem dX11_bestSwap_112 : decode cX11_bestSwap 112 = .ok (.istore 5, 2) := by decide +kernel
theorem dX11_bestSwap_114 : decode cX11_bestSwap 114 = .ok (.aload_n 0, 1) := by decide +kernel
theorem dX11_bestSwap_115 : decode cX11_bestSwap 115 = .ok (.getfield 73, 3) := by decide +kernel
theorem dX11_bestSwap_118 : decode cX11_bestSwap 118 = .ok (.iload 4, 2) := by decide +kernel
theorem dX11_bestSwap_120 : decode cX11_bestSwap 120 = .ok (.bipush 12, 2) := by decide +kernel
theorem dX11_bestSwap_122 : decode cX11_bestSwap 122 = .ok (.idiv, 1) := by decide +kernel
theorem dX11_bestSwap_123 : decode cX11_bestSwap 123 = .ok (.iload 4, 2) := by decide +kernel
theorem dX11_bestSwap_125 : decode cX11_bestSwap 125 = .ok (.bipush 12, 2) := by decide +kernel
theorem dX11_bestSwap_127 : decode cX11_bestSwap 127 = .ok (.irem, 1) := by decide +kernel
theorem dX11_bestSwap_128 : decode cX11_bestSwap 128 = .ok (.invokestatic 148, 3) := by decide +kernel
theorem dX11_bestSwap_131 : decode cX11_bestSwap 131 = .ok (.iload 5, 2) := by decide +kernel
theorem dX11_bestSwap_133 : decode cX11_bestSwap 133 = .ok (.iload_n 2, 1) := by decide +kernel
theorem dX11_bestSwap_134 : decode cX11_bestSwap 134 = .ok (.if_icmp .ge 9, 3) := by decide +kernel
theorem dX11_bestSwap_137 : decode cX11_bestSwap 137 = .ok (.iload 5, 2) := by decide +kernel
theorem dX11_bestSwap_139 : decode cX11_bestSwap 139 = .ok (.istore_n 2, 1) := by decide +kernel
theorem dX11_bestSwap_140 : decode cX11_bestSwap 140 = .ok (.iload 4, 2) := by decide +kernel
theorem dX11_bestSwap_142 : decode cX11_bestSwap 142 = .ok (.istore_n 3, 1) := by decide +kernel
theorem dX11_bestSwap_143 : decode cX11_bestSwap 143 = .ok (.iinc 4 1, 3) := by decide +kernel
theorem dX11_bestSwap_146 : decode cX11_bestSwap 146 = .ok (.goto (-93), 3) := by decide +kernel
theorem dX11_bestSwap_149 : decode cX11_bestSwap 149 = .ok (.iload_n 3, 1) := by decide +kernel
theorem dX11_bestSwap_150 : decode cX11_bestSwap 150 = .ok (.iconst (-1), 1) := by decide +kernel
theorem dX11_bestSwap_151 : decode cX11_bestSwap 151 = .ok (.if_icmp .ne 5, 3) := by decide +kernel
theorem dX11_bestSwap_154 : decode cX11_bestSwap 154 = .ok (.iconst (-1), 1) := by decide +kernel
theorem dX11_bestSwap_155 : decode cX11_bestSwap 155 = .ok (.ireturn, 1) := by decide +kernel
theorem dX11_bestSwap_156 : decode cX11_bestSwap 156 = .ok (.iload_n 1, 1) := by decide +kernel
theorem dX11_bestSwap_157 : decode cX11_bestSwap 157 = .ok (.lookupswitch 34 #[(0, 27), (1, 29)], 27) := by decide +kernel
theorem dX11_bestSwap_184 : decode cX11_bestSwap 184 = .ok (.iload_n 2, 1) := by decide +kernel
theorem dX11_bestSwap_185 : decode cX11_bestSwap 185 = .ok (.ireturn, 1) := by decide +kernel
theorem dX11_bestSwap_186 : decode cX11_bestSwap 186 = .ok (.iload_n 3, 1) := by decide +kernel
theorem dX11_bestSwap_187 : decode cX11_bestSwap 187 = .ok (.bipush 12, 2) := by decide +kernel
theorem dX11_bestSwap_189 : decode cX11_bestSwap 189 = .ok (.idiv, 1) := by decide +kernel
theorem dX11_bestSwap_190 : decode cX11_bestSwap 190 = .ok (.ireturn, 1) := by decide +kernel
theorem dX11_bestSwap_191 : decode cX11_bestSwap 191 = .ok (.iload_n 3, 1) := by decide +kernel
theorem dX11_bestSwap_192 : decode cX11_bestSwap 192 = .ok (.bipush 12, 2) := by decide +kernel
theorem dX11_bestSwap_194 : decode cX11_bestSwap 194 = .ok (.irem, 1) := by decide +kernel
theorem dX11_bestSwap_195 : decode cX11_bestSwap 195 = .ok (.ireturn, 1) := by decide +kernel
theorem dX11_eased_0 : decode cX11_eased 0 = .ok (.aload_n 0, 1) := by decide +kernel
theorem dX11_eased_1 : decode cX11_eased 1 = .ok (.getfield 23, 3) := by decide +kernel
theorem dX11_eased_4 : decode cX11_eased 4 = .ok (.iload_n 1, 1) := by decide +kernel
theorem dX11_eased_5 : decode cX11_eased 5 = .ok (.iload_n 2, 1) := by decide +kernel
theorem dX11_eased_6 : decode cX11_eased 6 = .ok (.invokevirtual 143, 3) := by decide +kernel
theorem dX11_eased_9 : decode cX11_eased 9 = .ok (.ifCond .eq 13, 3) := by decide +kernel
theorem dX11_eased_12 : decode cX11_eased 12 = .ok (.aload_n 0, 1) := by decide +kernel
theorem dX11_eased_13 : decode cX11_eased 13 = .ok (.getfield 23, 3) := by decide +kernel
theorem dX11_eased_16 : decode cX11_eased 16 = .ok (.invokevirtual 284, 3) := by decide +kernel
theorem dX11_eased_19 : decode cX11_eased 19 = .ok (.ifCond .ne 5, 3) := by decide +kernel
theorem dX11_eased_22 : decode cX11_eased 22 = .ok (.iconst (-1), 1) := by decide +kernel
theorem dX11_eased_23 : decode cX11_eased 23 = .ok (.ireturn, 1) := by decide +kernel
theorem dX11_eased_24 : decode cX11_eased 24 = .ok (.aload_n 0, 1) := by decide +kernel
theorem dX11_eased_25 : decode cX11_eased 25 = .ok (.getfield 80, 3) := by decide +kernel
theorem dX11_eased_28 : decode cX11_eased 28 = .ok (.aload_n 0, 1) := by decide +kernel
theorem dX11_eased_29 : decode cX11_eased 29 = .ok (.getfield 23, 3) := by decide +kernel
theorem dX11_eased_32 : decode cX11_eased 32 = .ok (.aload_n 0, 1) := by decide +kernel
theorem dX11_eased_33 : decode cX11_eased 33 = .ok (.getfield 33, 3) := by decide +kernel
theorem dX11_eased_36 : decode cX11_eased 36 = .ok (.invokevirtual 102, 3) := by decide +kernel
theorem dX11_eased_39 : decode cX11_eased 39 = .ok (.getfield 147, 3) := by decide +kernel
theorem dX11_eased_42 : decode cX11_eased 42 = .ok (.aload_n 0, 1) := by decide +kernel
theorem dX11_eased_43 : decode cX11_eased 43 = .ok (.getfield 23, 3) := by decide +kernel
theorem dX11_eased_46 : decode cX11_eased 46 = .ok (.invokevirtual 280, 3) := by decide +kernel
theorem dX11_eased_49 : decode cX11_eased 49 = .ok (.invokevirtual 257, 3) := by decide +kernel
theorem dX11_eased_52 : decode cX11_eased 52 = .ok (.istore_n 3, 1) := by decide +kernel
theorem dX11_eased_53 : decode cX11_eased 53 = .ok (.iload_n 3, 1) := by decide +kernel
theorem dX11_eased_54 : decode cX11_eased 54 = .ok (.iconst 2, 1) := by decide +kernel
theorem dX11_eased_55 : decode cX11_eased 55 = .ok (.if_icmp .ne 5, 3) := by decide +kernel
theorem dX11_eased_58 : decode cX11_eased 58 = .ok (.iconst (-1), 1) := by decide +kernel
theorem dX11_eased_59 : decode cX11_eased 59 = .ok (.ireturn, 1) := by decide +kernel
theorem dX11_eased_60 : decode cX11_eased 60 = .ok (.aload_n 0, 1) := by decide +kernel
theorem dX11_eased_61 : decode cX11_eased 61 = .ok (.getfield 33, 3) := by decide +kernel
theorem dX11_eased_64 : decode cX11_eased 64 = .ok (.invokevirtual 102, 3) := by decide +kernel
theorem dX11_eased_67 : decode cX11_eased 67 = .ok (.getfield 147, 3) := by decide +kernel
theorem dX11_eased_70 : decode cX11_eased 70 = .ok (.iconst 0, 1) := by decide +kernel
theorem dX11_eased_71 : decode cX11_eased 71 = .ok (.aload_n 0, 1) := by decide +kernel
theorem dX11_eased_72 : decode cX11_eased 72 = .ok (.getfield 73, 3) := by decide +kernel
theorem dX11_eased_75 : decode cX11_eased 75 = .ok (.iconst 0, 1) := by decide +kernel
theorem dX11_eased_76 : decode cX11_eased 76 = .ok (.aload_n 0, 1) := by decide +kernel
theorem dX11_eased_77 : decode cX11_eased 77 = .ok (.getfield 73, 3) := by decide +kernel
theorem dX11_eased_80 : decode cX11_eased 80 = .ok (.arraylength, 1) := by decide +kernel
theorem dX11_eased_81 : decode cX11_eased 81 = .ok (.invokestatic 305, 3) := by decide +kernel
theorem dX11_eased_84 : decode cX11_eased 84 = .ok (.aload_n 0, 1) := by decide +kernel
theorem dX11_eased_85 : decode cX11_eased 85 = .ok (.getfield 73, 3) := by decide +kernel
theorem dX11_eased_88 : decode cX11_eased 88 = .ok (.iload_n 1, 1) := by decide +kernel
theorem dX11_eased_89 : decode cX11_eased 89 = .ok (.iload_n 2, 1) := by decide +kernel
theorem dX11_eased_90 : decode cX11_eased 90 = .ok (.invokestatic 148, 3) := by decide +kernel
theorem dX11_eased_93 : decode cX11_eased 93 = .ok (.aload_n 0, 1) := by decide +kernel
theorem dX11_eased_94 : decode cX11_eased 94 = .ok (.getfield 80, 3) := by decide +kernel
theorem dX11_eased_97 : decode cX11_eased 97 = .ok (.aload_n 0, 1) := by decide +kernel
theorem dX11_eased_98 : decode cX11_eased 98 = .ok (.getfield 23, 3) := by decide +kernel
theorem dX11_eased_101 : decode cX11_eased 101 = .ok (.aload_n 0, 1) := by decide +kernel
theorem dX11_eased_102 : decode cX11_eased 102 = .ok (.getfield 73, 3) := by decide +kernel
theorem dX11_eased_105 : decode cX11_eased 105 = .ok (.aload_n 0, 1) := by decide +kernel
theorem dX11_eased_106 : decode cX11_eased 106 = .ok (.getfield 23, 3) := by decide +kernel
theorem dX11_eased_109 : decode cX11_eased 109 = .ok (.invokevirtual 280, 3) := by decide +kernel
theorem dX11_eased_112 : decode cX11_eased 112 = .ok (.invokevirtual 311, 3) := by decide +kernel
theorem dX11_eased_115 : decode cX11_eased 115 = .ok (.istore 4, 2) := by decide +kernel
theorem dX11_eased_117 : decode cX11_eased 117 = .ok (.iload 4, 2) := by decide +kernel
theorem dX11_eased_119 : decode cX11_eased 119 = .ok (.iconst 2, 1) := by decide +kernel
theorem dX11_eased_120 : decode cX11_eased 120 = .ok (.if_icmp .ne 5, 3) := by decide +kernel
theorem dX11_eased_123 : decode cX11_eased 123 = .ok (.iconst (-1), 1) := by decide +kernel
theorem dX11_eased_124 : decode cX11_eased 124 = .ok (.ireturn, 1) := by decide +kernel
theorem dX11_eased_125 : decode cX11_eased 125 = .ok (.iload_n 3, 1) := by decide +kernel
theorem dX11_eased_126 : decode cX11_eased 126 = .ok (.iconst 1, 1) := by decide +kernel
theorem dX11_eased_127 : decode cX11_eased 127 = .ok (.if_icmp .ne 12, 3) := by decide +kernel
theorem dX11_eased_130 : decode cX11_eased 130 = .ok (.iload 4, 2) := by decide +kernel
theorem dX11_eased_132 : decode cX11_eased 132 = .ok (.ifCond .ne 7, 3) := by decide +kernel
theorem dX11_eased_135 : decode cX11_eased 135 = .ok (.iconst 1, 1) := by decide +kernel
theorem dX11_eased_136 : decode cX11_eased 136 = .ok (.goto 4, 3) := by decide +kernel
theorem dX11_eased_139 : decode cX11_eased 139 = .ok (.iconst 0, 1) := by decide +kernel
theorem dX11_eased_140 : decode cX11_eased 140 = .ok (.ireturn, 1) := by decide +kernel
theorem dX11_spell_0 : decode cX11_spell 0 = .ok (.aload_n 0, 1) := by decide +kernel
theorem dX11_spell_1 : decode cX11_spell 1 = .ok (.getfield 23, 3) := by decide +kernel
theorem dX11_spell_4 : decode cX11_spell 4 = .ok (.iload_n 1, 1) := by decide +kernel
theorem dX11_spell_5 : decode cX11_spell 5 = .ok (.invokevirtual 122, 3) := by decide +kernel
theorem dX11_spell_8 : decode cX11_spell 8 = .ok (.ifCond .eq 14, 3) := by decide +kernel
theorem dX11_spell_11 : decode cX11_spell 11 = .ok (.aload_n 0, 1) := by decide +kernel
theorem dX11_spell_12 : decode cX11_spell 12 = .ok (.getfield 23, 3) := by decide +kernel
theorem dX11_spell_15 : decode cX11_spell 15 = .ok (.iload_n 2, 1) := by decide +kernel
theorem dX11_spell_16 : decode cX11_spell 16 = .ok (.invokevirtual 159, 3) := by decide +kernel
theorem dX11_spell_19 : decode cX11_spell 19 = .ok (.ifCond .ne 5, 3) := by decide +kernel
theorem dX11_spell_22 : decode cX11_spell 22 = .ok (.iconst (-1), 1) := by decide +kernel
theorem dX11_spell_23 : decode cX11_spell 23 = .ok (.ireturn, 1) := by decide +kernel
theorem dX11_spell_24 : decode cX11_spell 24 = .ok (.aload_n 0, 1) := by decide +kernel
theorem dX11_spell_25 : decode cX11_spell 25 = .ok (.getfield 57, 3) := by decide +kernel
theorem dX11_spell_28 : decode cX11_spell 28 = .ok (.aload_n 0, 1) := by decide +kernel
theorem dX11_spell_29 : decode cX11_spell 29 = .ok (.getfield 23, 3) := by decide +kernel
theorem dX11_spell_32 : decode cX11_spell 32 = .ok (.aload_n 0, 1) := by decide +kernel
theorem dX11_spell_33 : decode cX11_spell 33 = .ok (.getfield 33, 3) := by decide +kernel
theorem dX11_spell_36 : decode cX11_spell 36 = .ok (.invokevirtual 102, 3) := by decide +kernel
theorem dX11_spell_39 : decode cX11_spell 39 = .ok (.getfield 147, 3) := by decide +kernel
theorem dX11_spell_42 : decode cX11_spell 42 = .ok (.iload_n 1, 1) := by decide +kernel
theorem dX11_spell_43 : decode cX11_spell 43 = .ok (.iload_n 2, 1) := by decide +kernel
theorem dX11_spell_44 : decode cX11_spell 44 = .ok (.iload_n 3, 1) := by decide +kernel
theorem dX11_spell_45 : decode cX11_spell 45 = .ok (.invokevirtual 314, 3) := by decide +kernel
theorem dX11_spell_48 : decode cX11_spell 48 = .ok (.ireturn, 1) := by decide +kernel
theorem dX11_depth_0 : decode cX11_depth 0 = .ok (.aload_n 0, 1) := by decide +kernel
theorem dX11_depth_1 : decode cX11_depth 1 = .ok (.getfield 23, 3) := by decide +kernel
theorem dX11_depth_4 : decode cX11_depth 4 = .ok (.iload_n 1, 1) := by decide +kernel
theorem dX11_depth_5 : decode cX11_depth 5 = .ok (.invokevirtual 122, 3) := by decide +kernel
theorem dX11_depth_8 : decode cX11_depth 8 = .ok (.ifCond .ne 5, 3) := by decide +kernel
theorem dX11_depth_11 : decode cX11_depth 11 = .ok (.iconst (-1), 1) := by decide +kernel
theorem dX11_depth_12 : decode cX11_depth 12 = .ok (.ireturn, 1) := by decide +kernel
theorem dX11_depth_13 : decode cX11_depth 13 = .ok (.aload_n 0, 1) := by decide +kernel
theorem dX11_depth_14 : decode cX11_depth 14 = .ok (.getfield 57, 3) := by decide +kernel
theorem dX11_depth_17 : decode cX11_depth 17 = .ok (.aload_n 0, 1) := by decide +kernel
theorem dX11_depth_18 : decode cX11_depth 18 = .ok (.getfield 23, 3) := by decide +kernel
theorem dX11_depth_21 : decode cX11_depth 21 = .ok (.aload_n 0, 1) := by decide +kernel
theorem dX11_depth_22 : decode cX11_depth 22 = .ok (.getfield 33, 3) := by decide +kernel
theorem dX11_depth_25 : decode cX11_depth 25 = .ok (.invokevirtual 102, 3) := by decide +kernel
theorem dX11_depth_28 : decode cX11_depth 28 = .ok (.getfield 147, 3) := by decide +kernel
theorem dX11_depth_31 : decode cX11_depth 31 = .ok (.iload_n 1, 1) := by decide +kernel
theorem dX11_depth_32 : decode cX11_depth 32 = .ok (.iload_n 2, 1) := by decide +kernel
theorem dX11_depth_33 : decode cX11_depth 33 = .ok (.invokevirtual 318, 3) := by decide +kernel
theorem dX11_depth_36 : decode cX11_depth 36 = .ok (.ireturn, 1) := by decide +kernel
theorem dX11_image_0 : decode cX11_image 0 = .ok (.iload_n 1, 1) := by decide +kernel
theorem dX11_image_1 : decode cX11_image 1 = .ok (.ifCond .lt 8, 3) := by decide +kernel
theorem dX11_image_4 : decode cX11_image 4 = .ok (.iload_n 1, 1) := by decide +kernel
theorem dX11_image_5 : decode cX11_image 5 = .ok (.iconst 2, 1) := by decide +kernel
theorem dX11_image_6 : decode cX11_image 6 = .ok (.if_icmp .lt 5, 3) := by decide +kernel
theorem dX11_image_9 : decode cX11_image 9 = .ok (.iconst (-1), 1) := by decide +kernel
theorem dX11_image_10 : decode cX11_image 10 = .ok (.ireturn, 1) := by decide +kernel
theorem dX11_image_11 : decode cX11_image 11 = .ok (.aload_n 0, 1) := by decide +kernel
theorem dX11_image_12 : decode cX11_image 12 = .ok (.getfield 39, 3) := by decide +kernel
theorem dX11_image_15 : decode cX11_image 15 = .ok (.iload_n 1, 1) := by decide +kernel
theorem dX11_image_16 : decode cX11_image 16 = .ok (.aaload, 1) := by decide +kernel
theorem dX11_image_17 : decode cX11_image 17 = .ok (.ifnonnull 16, 3) := by decide +kernel
theorem dX11_image_20 : decode cX11_image 20 = .ok (.aload_n 0, 1) := by decide +kernel
theorem dX11_image_21 : decode cX11_image 21 = .ok (.getfield 39, 3) := by decide +kernel
theorem dX11_image_24 : decode cX11_image 24 = .ok (.iload_n 1, 1) := by decide +kernel
theorem dX11_image_25 : decode cX11_image 25 = .ok (.new 37, 3) := by decide +kernel
theorem dX11_image_28 : decode cX11_image 28 = .ok (.dup, 1) := by decide +kernel
theorem dX11_image_29 : decode cX11_image 29 = .ok (.invokespecial 68, 3) := by decide +kernel
theorem dX11_image_32 : decode cX11_image 32 = .ok (.aastore, 1) := by decide +kernel
theorem dX11_image_33 : decode cX11_image 33 = .ok (.aload_n 0, 1) := by decide +kernel
theorem dX11_image_34 : decode cX11_image 34 = .ok (.getfield 39, 3) := by decide +kernel
theorem dX11_image_37 : decode cX11_image 37 = .ok (.iload_n 1, 1) := by decide +kernel
theorem dX11_image_38 : decode cX11_image 38 = .ok (.aaload, 1) := by decide +kernel
theorem dX11_image_39 : decode cX11_image 39 = .ok (.aload_n 0, 1) := by decide +kernel
theorem dX11_image_40 : decode cX11_image 40 = .ok (.getfield 33, 3) := by decide +kernel
theorem dX11_image_43 : decode cX11_image 43 = .ok (.invokevirtual 102, 3) := by decide +kernel
theorem dX11_image_46 : decode cX11_image 46 = .ok (.invokevirtual 227, 3) := by decide +kernel
theorem dX11_image_49 : decode cX11_image 49 = .ok (.aload_n 0, 1) := by decide +kernel
theorem dX11_image_50 : decode cX11_image 50 = .ok (.getfield 43, 3) := by decide +kernel
theorem dX11_image_53 : decode cX11_image 53 = .ok (.iload_n 1, 1) := by decide +kernel
theorem dX11_image_54 : decode cX11_image 54 = .ok (.iconst 1, 1) := by decide +kernel
theorem dX11_image_55 : decode cX11_image 55 = .ok (.bastore, 1) := by decide +kernel
theorem dX11_image_56 : decode cX11_image 56 = .ok (.aload_n 0, 1) := by decide +kernel
theorem dX11_image_57 : decode cX11_image 57 = .ok (.getfield 39, 3) := by decide +kernel
theorem dX11_image_60 : decode cX11_image 60 = .ok (.iload_n 1, 1) := by decide +kernel
theorem dX11_image_61 : decode cX11_image 61 = .ok (.aaload, 1) := by decide +kernel
theorem dX11_image_62 : decode cX11_image 62 = .ok (.getfield 133, 3) := by decide +kernel
theorem dX11_image_65 : decode cX11_image 65 = .ok (.getfield 137, 3) := by decide +kernel
theorem dX11_image_68 : decode cX11_image 68 = .ok (.ireturn, 1) := by decide +kernel
theorem dX11_back_0 : decode cX11_back 0 = .ok (.iload_n 1, 1) := by decide +kernel
theorem dX11_back_1 : decode cX11_back 1 = .ok (.ifCond .lt 26, 3) := by decide +kernel
theorem dX11_back_4 : decode cX11_back 4 = .ok (.iload_n 1, 1) := by decide +kernel
theorem dX11_back_5 : decode cX11_back 5 = .ok (.iconst 2, 1) := by decide +kernel
theorem dX11_back_6 : decode cX11_back 6 = .ok (.if_icmp .ge 21, 3) := by decide +kernel
theorem dX11_back_9 : decode cX11_back 9 = .ok (.aload_n 0, 1) := by decide +kernel
theorem dX11_back_10 : decode cX11_back 10 = .ok (.getfield 43, 3) := by decide +kernel
theorem dX11_back_13 : decode cX11_back 13 = .ok (.iload_n 1, 1) := by decide +kernel
theorem dX11_back_14 : decode cX11_back 14 = .ok (.baload, 1) := by decide +kernel
theorem dX11_back_15 : decode cX11_back 15 = .ok (.ifCond .eq 12, 3) := by decide +kernel
theorem dX11_back_18 : decode cX11_back 18 = .ok (.aload_n 0, 1) := by decide +kernel
theorem dX11_back_19 : decode cX11_back 19 = .ok (.getfield 39, 3) := by decide +kernel
theorem dX11_back_22 : decode cX11_back 22 = .ok (.iload_n 1, 1) := by decide +kernel
theorem dX11_back_23 : decode cX11_back 23 = .ok (.aaload, 1) := by decide +kernel
theorem dX11_back_24 : decode cX11_back 24 = .ok (.ifnonnull 5, 3) := by decide +kernel
theorem dX11_back_27 : decode cX11_back 27 = .ok (.iconst (-1), 1) := by decide +kernel
theorem dX11_back_28 : decode cX11_back 28 = .ok (.ireturn, 1) := by decide +kernel
theorem dX11_back_29 : decode cX11_back 29 = .ok (.aload_n 0, 1) := by decide +kernel
theorem dX11_back_30 : decode cX11_back 30 = .ok (.getfield 33, 3) := by decide +kernel
theorem dX11_back_33 : decode cX11_back 33 = .ok (.invokevirtual 99, 3) := by decide +kernel
theorem dX11_back_36 : decode cX11_back 36 = .ok (.aload_n 0, 1) := by decide +kernel
theorem dX11_back_37 : decode cX11_back 37 = .ok (.getfield 33, 3) := by decide +kernel
theorem dX11_back_40 : decode cX11_back 40 = .ok (.invokevirtual 102, 3) := by decide +kernel
theorem dX11_back_43 : decode cX11_back 43 = .ok (.aload_n 0, 1) := by decide +kernel
theorem dX11_back_44 : decode cX11_back 44 = .ok (.getfield 39, 3) := by decide +kernel
theorem dX11_back_47 : decode cX11_back 47 = .ok (.iload_n 1, 1) := by decide +kernel
theorem dX11_back_48 : decode cX11_back 48 = .ok (.aaload, 1) := by decide +kernel
theorem dX11_back_49 : decode cX11_back 49 = .ok (.invokevirtual 227, 3) := by decide +kernel
theorem dX11_back_52 : decode cX11_back 52 = .ok (.aload_n 0, 1) := by decide +kernel
theorem dX11_back_53 : decode cX11_back 53 = .ok (.getfield 39, 3) := by decide +kernel
theorem dX11_back_56 : decode cX11_back 56 = .ok (.iload_n 1, 1) := by decide +kernel
theorem dX11_back_57 : decode cX11_back 57 = .ok (.aaload, 1) := by decide +kernel
theorem dX11_back_58 : decode cX11_back 58 = .ok (.getfield 133, 3) := by decide +kernel
theorem dX11_back_61 : decode cX11_back 61 = .ok (.getfield 137, 3) := by decide +kernel
theorem dX11_back_64 : decode cX11_back 64 = .ok (.ireturn, 1) := by decide +kernel
theorem dX11_about_0 : decode cX11_about 0 = .ok (.aload_n 0, 1) := by decide +kernel
theorem dX11_about_1 : decode cX11_about 1 = .ok (.getfield 33, 3) := by decide +kernel
theorem dX11_about_4 : decode cX11_about 4 = .ok (.invokevirtual 102, 3) := by decide +kernel
theorem dX11_about_7 : decode cX11_about 7 = .ok (.astore_n 2, 1) := by decide +kernel
theorem dX11_about_8 : decode cX11_about 8 = .ok (.iload_n 1, 1) := by decide +kernel
theorem dX11_about_9 : decode cX11_about 9 = .ok (.tableswitch 143 0 10 #[59, 67, 75, 83, 91, 99, 104, 109, 114, 122, 138], 59) := by decide +kernel
theorem dX11_about_68 : decode cX11_about 68 = .ok (.aload_n 0, 1) := by decide +kernel
theorem dX11_about_69 : decode cX11_about 69 = .ok (.getfield 23, 3) := by decide +kernel
theorem dX11_about_72 : decode cX11_about 72 = .ok (.getfield 321, 3) := by decide +kernel
theorem dX11_about_75 : decode cX11_about 75 = .ok (.ireturn, 1) := by decide +kernel
theorem dX11_about_76 : decode cX11_about 76 = .ok (.aload_n 0, 1) := by decide +kernel
theorem dX11_about_77 : decode cX11_about 77 = .ok (.getfield 23, 3) := by decide +kernel
theorem dX11_about_80 : decode cX11_about 80 = .ok (.getfield 324, 3) := by decide +kernel
theorem dX11_about_83 : decode cX11_about 83 = .ok (.ireturn, 1) := by decide +kernel
theorem dX11_about_84 : decode cX11_about 84 = .ok (.aload_n 0, 1) := by decide +kernel
theorem dX11_about_85 : decode cX11_about 85 = .ok (.getfield 23, 3) := by decide +kernel
theorem dX11_about_88 : decode cX11_about 88 = .ok (.getfield 116, 3) := by decide +kernel
theorem dX11_about_91 : decode cX11_about 91 = .ok (.ireturn, 1) := by decide +kernel
theorem dX11_about_92 : decode cX11_about 92 = .ok (.aload_n 2, 1) := by decide +kernel
theorem dX11_about_93 : decode cX11_about 93 = .ok (.getfield 184, 3) := by decide +kernel
theorem dX11_about_96 : decode cX11_about 96 = .ok (.getfield 231, 3) := by decide +kernel
theorem dX11_about_99 : decode cX11_about 99 = .ok (.ireturn, 1) := by decide +kernel
theorem dX11_about_100 : decode cX11_about 100 = .ok (.aload_n 2, 1) := by decide +kernel
theorem dX11_about_101 : decode cX11_about 101 = .ok (.getfield 133, 3) := by decide +kernel
theorem dX11_about_104 : decode cX11_about 104 = .ok (.getfield 137, 3) := by decide +kernel
theorem dX11_about_107 : decode cX11_about 107 = .ok (.ireturn, 1) := by decide +kernel
theorem dX11_about_108 : decode cX11_about 108 = .ok (.aload_n 2, 1) := by decide +kernel
theorem dX11_about_109 : decode cX11_about 109 = .ok (.getfield 232, 3) := by decide +kernel
theorem dX11_about_112 : decode cX11_about 112 = .ok (.ireturn, 1) := by decide +kernel
theorem dX11_about_113 : decode cX11_about 113 = .ok (.aload_n 2, 1) := by decide +kernel
theorem dX11_about_114 : decode cX11_about 114 = .ok (.getfield 326, 3) := by decide +kernel
theorem dX11_about_117 : decode cX11_about 117 = .ok (.ireturn, 1) := by decide +kernel
theorem dX11_about_118 : decode cX11_about 118 = .ok (.aload_n 2, 1) := by decide +kernel
theorem dX11_about_119 : decode cX11_about 119 = .ok (.invokevirtual 329, 3) := by decide +kernel
theorem dX11_about_122 : decode cX11_about 122 = .ok (.ireturn, 1) := by decide +kernel
theorem dX11_about_123 : decode cX11_about 123 = .ok (.aload_n 0, 1) := by decide +kernel
theorem dX11_about_124 : decode cX11_about 124 = .ok (.getfield 33, 3) := by decide +kernel
theorem dX11_about_127 : decode cX11_about 127 = .ok (.getfield 332, 3) := by decide +kernel
theorem dX11_about_130 : decode cX11_about 130 = .ok (.ireturn, 1) := by decide +kernel
theorem dX11_about_131 : decode cX11_about 131 = .ok (.aload_n 0, 1) := by decide +kernel
theorem dX11_about_132 : decode cX11_about 132 = .ok (.getfield 33, 3) := by decide +kernel
theorem dX11_about_135 : decode cX11_about 135 = .ok (.getfield 335, 3) := by decide +kernel
theorem dX11_about_138 : decode cX11_about 138 = .ok (.aload_n 0, 1) := by decide +kernel
theorem dX11_about_139 : decode cX11_about 139 = .ok (.getfield 33, 3) := by decide +kernel
theorem dX11_about_142 : decode cX11_about 142 = .ok (.getfield 332, 3) := by decide +kernel
theorem dX11_about_145 : decode cX11_about 145 = .ok (.isub, 1) := by decide +kernel
theorem dX11_about_146 : decode cX11_about 146 = .ok (.ireturn, 1) := by decide +kernel
theorem dX11_about_147 : decode cX11_about 147 = .ok (.aload_n 0, 1) := by decide +kernel
theorem dX11_about_148 : decode cX11_about 148 = .ok (.getfield 84, 3) := by decide +kernel
theorem dX11_about_151 : decode cX11_about 151 = .ok (.ireturn, 1) := by decide +kernel
theorem dX11_about_152 : decode cX11_about 152 = .ok (.iconst (-1), 1) := by decide +kernel
theorem dX11_about_153 : decode cX11_about 153 = .ok (.ireturn, 1) := by decide +kernel
theorem dX11_putNumber_0 : decode cX11_putNumber 0 = .ok (.bipush 24, 2) := by decide +kernel
theorem dX11_putNumber_2 : decode cX11_putNumber 2 = .ok (.istore_n 2, 1) := by decide +kernel
theorem dX11_putNumber_3 : decode cX11_putNumber 3 = .ok (.iload_n 2, 1) := by decide +kernel
theorem dX11_putNumber_4 : decode cX11_putNumber 4 = .ok (.ifCond .lt 32, 3) := by decide +kernel
theorem dX11_putNumber_7 : decode cX11_putNumber 7 = .ok (.aload_n 0, 1) := by decide +kernel
theorem dX11_putNumber_8 : decode cX11_putNumber 8 = .ok (.getfield 9, 3) := by decide +kernel
theorem dX11_putNumber_11 : decode cX11_putNumber 11 = .ok (.aload_n 0, 1) := by decide +kernel
theorem dX11_putNumber_12 : decode cX11_putNumber 12 = .ok (.getfield 84, 3) := by decide +kernel
theorem dX11_putNumber_15 : decode cX11_putNumber 15 = .ok (.iload_n 1, 1) := by decide +kernel
theorem dX11_putNumber_16 : decode cX11_putNumber 16 = .ok (.iload_n 2, 1) := by decide +kernel
theorem dX11_putNumber_17 : decode cX11_putNumber 17 = .ok (.iushr, 1) := by decide +kernel
theorem dX11_putNumber_18 : decode cX11_putNumber 18 = .ok (.i2b, 1) := by decide +kernel
theorem dX11_putNumber_19 : decode cX11_putNumber 19 = .ok (.bastore, 1) := by decide +kernel
theorem dX11_putNumber_20 : decode cX11_putNumber 20 = .ok (.aload_n 0, 1) := by decide +kernel
theorem dX11_putNumber_21 : decode cX11_putNumber 21 = .ok (.dup, 1) := by decide +kernel
theorem dX11_putNumber_22 : decode cX11_putNumber 22 = .ok (.getfield 84, 3) := by decide +kernel
theorem dX11_putNumber_25 : decode cX11_putNumber 25 = .ok (.iconst 1, 1) := by decide +kernel
theorem dX11_putNumber_26 : decode cX11_putNumber 26 = .ok (.iadd, 1) := by decide +kernel
theorem dX11_putNumber_27 : decode cX11_putNumber 27 = .ok (.putfield 84, 3) := by decide +kernel
theorem dX11_putNumber_30 : decode cX11_putNumber 30 = .ok (.iinc 2 (-8), 3) := by decide +kernel
theorem dX11_putNumber_33 : decode cX11_putNumber 33 = .ok (.goto (-30), 3) := by decide +kernel
theorem dX11_putNumber_36 : decode cX11_putNumber 36 = .ok (.return_, 1) := by decide +kernel
theorem dX11_runEveryone_0 : decode cX11_runEveryone 0 = .ok (.aload_n 0, 1) := by decide +kernel
theorem dX11_runEveryone_1 : decode cX11_runEveryone 1 = .ok (.getfield 69, 3) := by decide +kernel
theorem dX11_runEveryone_4 : decode cX11_runEveryone 4 = .ok (.aload_n 1, 1) := by decide +kernel
theorem dX11_runEveryone_5 : decode cX11_runEveryone 5 = .ok (.invokevirtual 109, 3) := by decide +kernel
theorem dX11_runEveryone_8 : decode cX11_runEveryone 8 = .ok (.iconst 0, 1) := by decide +kernel
theorem dX11_runEveryone_9 : decode cX11_runEveryone 9 = .ok (.istore_n 2, 1) := by decide +kernel
theorem dX11_runEveryone_10 : decode cX11_runEveryone 10 = .ok (.iload_n 2, 1) := by decide +kernel
theorem dX11_runEveryone_11 : decode cX11_runEveryone 11 = .ok (.aload_n 0, 1) := by decide +kernel
theorem dX11_runEveryone_12 : decode cX11_runEveryone 12 = .ok (.getfield 23, 3) := by decide +kernel
theorem dX11_runEveryone_15 : decode cX11_runEveryone 15 = .ok (.getfield 116, 3) := by decide +kernel
theorem dX11_runEveryone_18 : decode cX11_runEveryone 18 = .ok (.if_icmp .ge 26, 3) := by decide +kernel
theorem dX11_runEveryone_21 : decode cX11_runEveryone 21 = .ok (.aload_n 0, 1) := by decide +kernel
theorem dX11_runEveryone_22 : decode cX11_runEveryone 22 = .ok (.getfield 57, 3) := by decide +kernel
theorem dX11_runEveryone_25 : decode cX11_runEveryone 25 = .ok (.aload_n 0, 1) := by decide +kernel
theorem dX11_runEveryone_26 : decode cX11_runEveryone 26 = .ok (.getfield 23, 3) := by decide +kernel
theorem dX11_runEveryone_29 : decode cX11_runEveryone 29 = .ok (.aload_n 0, 1) := by decide +kernel
theorem dX11_runEveryone_30 : decode cX11_runEveryone 30 = .ok (.getfield 69, 3) := by decide +kernel
theorem dX11_runEveryone_33 : decode cX11_runEveryone 33 = .ok (.iload_n 2, 1) := by decide +kernel
theorem dX11_runEveryone_34 : decode cX11_runEveryone 34 = .ok (.invokevirtual 129, 3) := by decide +kernel
theorem dX11_runEveryone_37 : decode cX11_runEveryone 37 = .ok (.pop, 1) := by decide +kernel
theorem dX11_runEveryone_38 : decode cX11_runEveryone 38 = .ok (.iinc 2 1, 3) := by decide +kernel
theorem dX11_runEveryone_41 : decode cX11_runEveryone 41 = .ok (.goto (-31), 3) := by decide +kernel
theorem dX11_runEveryone_44 : decode cX11_runEveryone 44 = .ok (.aload_n 0, 1) := by decide +kernel
theorem dX11_runEveryone_45 : decode cX11_runEveryone 45 = .ok (.getfield 69, 3) := by decide +kernel
theorem dX11_runEveryone_48 : decode cX11_runEveryone 48 = .ok (.getfield 133, 3) := by decide +kernel
theorem dX11_runEveryone_51 : decode cX11_runEveryone 51 = .ok (.areturn, 1) := by decide +kernel
theorem dX11_exchange_0 : decode cX11_exchange 0 = .ok (.iload_n 1, 1) := by decide +kernel
theorem dX11_exchange_1 : decode cX11_exchange 1 = .ok (.bipush 12, 2) := by decide +kernel
theorem dX11_exchange_3 : decode cX11_exchange 3 = .ok (.imul, 1) := by decide +kernel
theorem dX11_exchange_4 : decode cX11_exchange 4 = .ok (.iload_n 2, 1) := by decide +kernel
theorem dX11_exchange_5 : decode cX11_exchange 5 = .ok (.iadd, 1) := by decide +kernel
theorem dX11_exchange_6 : decode cX11_exchange 6 = .ok (.istore_n 3, 1) := by decide +kernel
theorem dX11_exchange_7 : decode cX11_exchange 7 = .ok (.aload_n 0, 1) := by decide +kernel
theorem dX11_exchange_8 : decode cX11_exchange 8 = .ok (.iload_n 3, 1) := by decide +kernel
theorem dX11_exchange_9 : decode cX11_exchange 9 = .ok (.iaload, 1) := by decide +kernel
theorem dX11_exchange_10 : decode cX11_exchange 10 = .ok (.istore 4, 2) := by decide +kernel
theorem dX11_exchange_12 : decode cX11_exchange 12 = .ok (.aload_n 0, 1) := by decide +kernel
theorem dX11_exchange_13 : decode cX11_exchange 13 = .ok (.iload_n 3, 1) := by decide +kernel
theorem dX11_exchange_14 : decode cX11_exchange 14 = .ok (.aload_n 0, 1) := by decide +kernel
theorem dX11_exchange_15 : decode cX11_exchange 15 = .ok (.iload_n 3, 1) := by decide +kernel
theorem dX11_exchange_16 : decode cX11_exchange 16 = .ok (.iconst 1, 1) := by decide +kernel
theorem dX11_exchange_17 : decode cX11_exchange 17 = .ok (.iadd, 1) := by decide +kernel
theorem dX11_exchange_18 : decode cX11_exchange 18 = .ok (.iaload, 1) := by decide +kernel
theorem dX11_exchange_19 : decode cX11_exchange 19 = .ok (.iastore, 1) := by decide +kernel
theorem dX11_exchange_20 : decode cX11_exchange 20 = .ok (.aload_n 0, 1) := by decide +kernel
theorem dX11_exchange_21 : decode cX11_exchange 21 = .ok (.iload_n 3, 1) := by decide +kernel
theorem dX11_exchange_22 : decode cX11_exchange 22 = .ok (.iconst 1, 1) := by decide +kernel
theorem dX11_exchange_23 : decode cX11_exchange 23 = .ok (.iadd, 1) := by decide +kernel
theorem dX11_exchange_24 : decode cX11_exchange 24 = .ok (.iload 4, 2) := by decide +kernel
theorem dX11_exchange_26 : decode cX11_exchange 26 = .ok (.iastore, 1) := by decide +kernel
theorem dX11_exchange_27 : decode cX11_exchange 27 = .ok (.return_, 1) := by decide +kernel
theorem dX11_isNode_0 : decode cX11_isNode 0 = .ok (.iload_n 0, 1) := by decide +kernel
theorem dX11_isNode_1 : decode cX11_isNode 1 = .ok (.ifCond .lt 13, 3) := by decide +kernel
theorem dX11_isNode_4 : decode cX11_isNode 4 = .ok (.iload_n 0, 1) := by decide +kernel
theorem dX11_isNode_5 : decode cX11_isNode 5 = .ok (.bipush 16, 2) := by decide +kernel
theorem dX11_isNode_7 : decode cX11_isNode 7 = .ok (.if_icmp .ge 7, 3) := by decide +kernel
theorem dX11_isNode_10 : decode cX11_isNode 10 = .ok (.iconst 1, 1) := by decide +kernel
theorem dX11_isNode_11 : decode cX11_isNode 11 = .ok (.goto 4, 3) := by decide +kernel
theorem dX11_isNode_14 : decode cX11_isNode 14 = .ok (.iconst 0, 1) := by decide +kernel
theorem dX11_isNode_15 : decode cX11_isNode 15 = .ok (.ireturn, 1) := by decide +kernel
theorem dX11_packStep_0 : decode cX11_packStep 0 = .ok (.iload_n 0, 1) := by decide +kernel
theorem dX11_packStep_1 : decode cX11_packStep 1 = .ok (.iconst 4, 1) := by decide +kernel
theorem dX11_packStep_2 : decode cX11_packStep 2 = .ok (.ishl, 1) := by decide +kernel
theorem dX11_packStep_3 : decode cX11_packStep 3 = .ok (.iload_n 1, 1) := by decide +kernel
theorem dX11_packStep_4 : decode cX11_packStep 4 = .ok (.ior, 1) := by decide +kernel
theorem dX11_packStep_5 : decode cX11_packStep 5 = .ok (.ireturn, 1) := by decide +kernel
theorem dX11_deedOf_0 : decode cX11_deedOf 0 = .ok (.iload_n 0, 1) := by decide +kernel
theorem dX11_deedOf_1 : decode cX11_deedOf 1 = .ok (.iconst 4, 1) := by decide +kernel
theorem dX11_deedOf_2 : decode cX11_deedOf 2 = .ok (.ishr, 1) := by decide +kernel
theorem dX11_deedOf_3 : decode cX11_deedOf 3 = .ok (.ireturn, 1) := by decide +kernel
theorem dX11_lockOf_0 : decode cX11_lockOf 0 = .ok (.iload_n 0, 1) := by decide +kernel
theorem dX11_lockOf_1 : decode cX11_lockOf 1 = .ok (.bipush 15, 2) := by decide +kernel
theorem dX11_lockOf_3 : decode cX11_lockOf 3 = .ok (.iand, 1) := by decide +kernel
theorem dX11_lockOf_4 : decode cX11_lockOf 4 = .ok (.ireturn, 1) := by decide +kernel
theorem dX11_contextOf_0 : decode cX11_contextOf 0 = .ok (.iload_n 0, 1) := by decide +kernel
theorem dX11_contextOf_1 : decode cX11_contextOf 1 = .ok (.lookupswitch 32 #[(0, 27), (1, 30)], 27) := by decide +kernel
theorem dX11_contextOf_28 : decode cX11_contextOf 28 = .ok (.bipush 6, 2) := by decide +kernel
theorem dX11_contextOf_30 : decode cX11_contextOf 30 = .ok (.ireturn, 1) := by decide +kernel
theorem dX11_contextOf_31 : decode cX11_contextOf 31 = .ok (.iconst 4, 1) := by decide +kernel
theorem dX11_contextOf_32 : decode cX11_contextOf 32 = .ok (.ireturn, 1) := by decide +kernel
theorem dX11_contextOf_33 : decode cX11_contextOf 33 = .ok (.iconst 0, 1) := by decide +kernel
theorem dX11_contextOf_34 : decode cX11_contextOf 34 = .ok (.ireturn, 1) := by decide +kernel
theorem dX11_turned_0 : decode cX11_turned 0 = .ok (.iload_n 2, 1) := by decide +kernel
theorem dX11_turned_1 : decode cX11_turned 1 = .ok (.tableswitch 59 5 8 #[31, 36, 45, 50], 31) := by decide +kernel
theorem dX11_turned_32 : decode cX11_turned 32 = .ok (.iload_n 0, 1) := by decide +kernel
theorem dX11_turned_33 : decode cX11_turned 33 = .ok (.bipush (-5), 2) := by decide +kernel
theorem dX11_turned_35 : decode cX11_turned 35 = .ok (.iand, 1) := by decide +kernel
theorem dX11_turned_36 : decode cX11_turned 36 = .ok (.ireturn, 1) := by decide +kernel
theorem dX11_turned_37 : decode cX11_turned 37 = .ok (.iload_n 0, 1) := by decide +kernel
theorem dX11_turned_38 : decode cX11_turned 38 = .ok (.iload_n 1, 1) := by decide +kernel
theorem dX11_turned_39 : decode cX11_turned 39 = .ok (.invokestatic 338, 3) := by decide +kernel
theorem dX11_turned_42 : decode cX11_turned 42 = .ok (.iconst 4, 1) := by decide +kernel
theorem dX11_turned_43 : decode cX11_turned 43 = .ok (.iand, 1) := by decide +kernel
theorem dX11_turned_44 : decode cX11_turned 44 = .ok (.ior, 1) := by decide +kernel
theorem dX11_turned_45 : decode cX11_turned 45 = .ok (.ireturn, 1) := by decide +kernel
theorem dX11_turned_46 : decode cX11_turned 46 = .ok (.iload_n 0, 1) := by decide +kernel
theorem dX11_turned_47 : decode cX11_turned 47 = .ok (.bipush (-3), 2) := by decide +kernel
theorem dX11_turned_49 : decode cX11_turned 49 = .ok (.iand, 1) := by decide +kernel
theorem dX11_turned_50 : decode cX11_turned 50 = .ok (.ireturn, 1) := by decide +kernel
theorem dX11_turned_51 : decode cX11_turned 51 = .ok (.iload_n 0, 1) := by decide +kernel
theorem dX11_turned_52 : decode cX11_turned 52 = .ok (.iload_n 1, 1) := by decide +kernel
theorem dX11_turned_53 : decode cX11_turned 53 = .ok (.invokestatic 338, 3) := by decide +kernel
theorem dX11_turned_56 : decode cX11_turned 56 = .ok (.iconst 2, 1) := by decide +kernel
theorem dX11_turned_57 : decode cX11_turned 57 = .ok (.iand, 1) := by decide +kernel
theorem dX11_turned_58 : decode cX11_turned 58 = .ok (.ior, 1) := by decide +kernel
theorem dX11_turned_59 : decode cX11_turned 59 = .ok (.ireturn, 1) := by decide +kernel
theorem dX11_turned_60 : decode cX11_turned 60 = .ok (.iload_n 0, 1) := by decide +kernel
theorem dX11_turned_61 : decode cX11_turned 61 = .ok (.ireturn, 1) := by decide +kernel
theorem dX11_whatCanCome_0 : decode cX11_whatCanCome 0 = .ok (.iload_n 0, 1) := by decide +kernel
theorem dX11_whatCanCome_1 : decode cX11_whatCanCome 1 = .ok (.iconst 4, 1) := by decide +kernel
theorem dX11_whatCanCome_2 : decode cX11_whatCanCome 2 = .ok (.iand, 1) := by decide +kernel
theorem dX11_whatCanCome_3 : decode cX11_whatCanCome 3 = .ok (.ifCond .ne 7, 3) := by decide +kernel
theorem dX11_whatCanCome_6 : decode cX11_whatCanCome 6 = .ok (.iconst 0, 1) := by decide +kernel
theorem dX11_whatCanCome_7 : decode cX11_whatCanCome 7 = .ok (.goto 4, 3) := by decide +kernel
theorem dX11_whatCanCome_10 : decode cX11_whatCanCome 10 = .ok (.iload_n 0, 1) := by decide +kernel
theorem dX11_whatCanCome_11 : decode cX11_whatCanCome 11 = .ok (.ireturn, 1) := by decide +kernel
theorem dX11_has_0 : decode cX11_has 0 = .ok (.iload_n 0, 1) := by decide +kernel
theorem dX11_has_1 : decode cX11_has 1 = .ok (.iload_n 1, 1) := by decide +kernel
theorem dX11_has_2 : decode cX11_has 2 = .ok (.ishr, 1) := by decide +kernel
theorem dX11_has_3 : decode cX11_has 3 = .ok (.iconst 1, 1) := by decide +kernel
theorem dX11_has_4 : decode cX11_has 4 = .ok (.iand, 1) := by decide +kernel
theorem dX11_has_5 : decode cX11_has 5 = .ok (.ifCond .eq 7, 3) := by decide +kernel
theorem dX11_has_8 : decode cX11_has 8 = .ok (.iconst 1, 1) := by decide +kernel
theorem dX11_has_9 : decode cX11_has 9 = .ok (.goto 4, 3) := by decide +kernel
theorem dX11_has_12 : decode cX11_has 12 = .ok (.iconst 0, 1) := by decide +kernel
theorem dX11_has_13 : decode cX11_has 13 = .ok (.ireturn, 1) := by decide +kernel
theorem dX11_leastOf_0 : decode cX11_leastOf 0 = .ok (.iload_n 0, 1) := by decide +kernel
theorem dX11_leastOf_1 : decode cX11_leastOf 1 = .ok (.iload_n 0, 1) := by decide +kernel
theorem dX11_leastOf_2 : decode cX11_leastOf 2 = .ok (.ineg, 1) := by decide +kernel
theorem dX11_leastOf_3 : decode cX11_leastOf 3 = .ok (.iand, 1) := by decide +kernel
theorem dX11_leastOf_4 : decode cX11_leastOf 4 = .ok (.iconst 1, 1) := by decide +kernel
theorem dX11_leastOf_5 : decode cX11_leastOf 5 = .ok (.isub, 1) := by decide +kernel
theorem dX11_leastOf_6 : decode cX11_leastOf 6 = .ok (.invokestatic 297, 3) := by decide +kernel
theorem dX11_leastOf_9 : decode cX11_leastOf 9 = .ok (.ireturn, 1) := by decide +kernel
theorem dX12_init_0 : decode cX12_init 0 = .ok (.aload_n 0, 1) := by decide +kernel
theorem dX12_init_1 : decode cX12_init 1 = .ok (.invokespecial 1, 3) := by decide +kernel
theorem dX12_init_4 : decode cX12_init 4 = .ok (.aload_n 0, 1) := by decide +kernel
theorem dX12_init_5 : decode cX12_init 5 = .ok (.sipush 9685, 3) := by decide +kernel
theorem dX12_init_8 : decode cX12_init 8 = .ok (.newarray .int, 2) := by decide +kernel
theorem dX12_init_10 : decode cX12_init 10 = .ok (.putfield 7, 3) := by decide +kernel
theorem dX12_init_13 : decode cX12_init 13 = .ok (.aload_n 0, 1) := by decide +kernel
theorem dX12_init_14 : decode cX12_init 14 = .ok (.iconst 2, 1) := by decide +kernel
theorem dX12_init_15 : decode cX12_init 15 = .ok (.newarray .int, 2) := by decide +kernel
theorem dX12_init_17 : decode cX12_init 17 = .ok (.putfield 13, 3) := by decide +kernel
theorem dX12_init_20 : decode cX12_init 20 = .ok (.aload_n 0, 1) := by decide +kernel
theorem dX12_init_21 : decode cX12_init 21 = .ok (.iconst 2, 1) := by decide +kernel
theorem dX12_init_22 : decode cX12_init 22 = .ok (.newarray .int, 2) := by decide +kernel
theorem dX12_init_24 : decode cX12_init 24 = .ok (.putfield 16, 3) := by decide +kernel
theorem dX12_init_27 : decode cX12_init 27 = .ok (.aload_n 0, 1) := by decide +kernel
theorem dX12_init_28 : decode cX12_init 28 = .ok (.iconst 2, 1) := by decide +kernel
theorem dX12_init_29 : decode cX12_init 29 = .ok (.newarray .int, 2) := by decide +kernel
theorem dX12_init_31 : decode cX12_init 31 = .ok (.putfield 19, 3) := by decide +kernel
theorem dX12_init_34 : decode cX12_init 34 = .ok (.aload_n 0, 1) := by decide +kernel
theorem dX12_init_35 : decode cX12_init 35 = .ok (.bipush 20, 2) := by decide +kernel
theorem dX12_init_37 : decode cX12_init 37 = .ok (.newarray .int, 2) := by decide +kernel
theorem dX12_init_39 : decode cX12_init 39 = .ok (.putfield 22, 3) := by decide +kernel
theorem dX12_init_42 : decode cX12_init 42 = .ok (.aload_n 0, 1) := by decide +kernel
theorem dX12_init_43 : decode cX12_init 43 = .ok (.bipush 12, 2) := by decide +kernel
theorem dX12_init_45 : decode cX12_init 45 = .ok (.newarray .int, 2) := by decide +kernel
theorem dX12_init_47 : decode cX12_init 47 = .ok (.putfield 25, 3) := by decide +kernel
theorem dX12_init_50 : decode cX12_init 50 = .ok (.aload_n 0, 1) := by decide +kernel
theorem dX12_init_51 : decode cX12_init 51 = .ok (.bipush 12, 2) := by decide +kernel
theorem dX12_init_53 : decode cX12_init 53 = .ok (.newarray .int, 2) := by decide +kernel
theorem dX12_init_55 : decode cX12_init 55 = .ok (.putfield 28, 3) := by decide +kernel
theorem dX12_init_58 : decode cX12_init 58 = .ok (.aload_n 0, 1) := by decide +kernel
theorem dX12_init_59 : decode cX12_init 59 = .ok (.sipush 144, 3) := by decide +kernel
theorem dX12_init_62 : decode cX12_init 62 = .ok (.newarray .int, 2) := by decide +kernel
theorem dX12_init_64 : decode cX12_init 64 = .ok (.putfield 31, 3) := by decide +kernel
theorem dX12_init_67 : decode cX12_init 67 = .ok (.aload_n 0, 1) := by decide +kernel
theorem dX12_init_68 : decode cX12_init 68 = .ok (.sipush 144, 3) := by decide +kernel
theorem dX12_init_71 : decode cX12_init 71 = .ok (.newarray .int, 2) := by decide +kernel
