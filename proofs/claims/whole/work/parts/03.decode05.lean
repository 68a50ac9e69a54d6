theorem dX12_startAnew_46 : decode cX12_startAnew 46 = .ok (.getfield 34, 3) := by decide +kernel
theorem dX12_startAnew_49 : decode cX12_startAnew 49 = .ok (.bipush 72, 2) := by decide +kernel
theorem dX12_startAnew_51 : decode cX12_startAnew 51 = .ok (.aload_n 0, 1) := by decide +kernel
theorem dX12_startAnew_52 : decode cX12_startAnew 52 = .ok (.getfield 229, 3) := by decide +kernel
theorem dX12_startAnew_55 : decode cX12_startAnew 55 = .ok (.imul, 1) := by decide +kernel
theorem dX12_startAnew_56 : decode cX12_startAnew 56 = .ok (.iload_n 1, 1) := by decide +kernel
theorem dX12_startAnew_57 : decode cX12_startAnew 57 = .ok (.iadd, 1) := by decide +kernel
theorem dX12_startAnew_58 : decode cX12_startAnew 58 = .ok (.iaload, 1) := by decide +kernel
theorem dX12_startAnew_59 : decode cX12_startAnew 59 = .ok (.iastore, 1) := by decide +kernel
theorem dX12_startAnew_60 : decode cX12_startAnew 60 = .ok (.iinc 1 1, 3) := by decide +kernel
theorem dX12_startAnew_63 : decode cX12_startAnew 63 = .ok (.goto (-57), 3) := by decide +kernel
theorem dX12_startAnew_66 : decode cX12_startAnew 66 = .ok (.aload_n 0, 1) := by decide +kernel
theorem dX12_startAnew_67 : decode cX12_startAnew 67 = .ok (.iconst 0, 1) := by decide +kernel
theorem dX12_startAnew_68 : decode cX12_startAnew 68 = .ok (.putfield 241, 3) := by decide +kernel
theorem dX12_startAnew_71 : decode cX12_startAnew 71 = .ok (.aload_n 0, 1) := by decide +kernel
theorem dX12_startAnew_72 : decode cX12_startAnew 72 = .ok (.iconst 0, 1) := by decide +kernel
theorem dX12_startAnew_73 : decode cX12_startAnew 73 = .ok (.putfield 244, 3) := by decide +kernel
theorem dX12_startAnew_76 : decode cX12_startAnew 76 = .ok (.iconst 0, 1) := by decide +kernel
theorem dX12_startAnew_77 : decode cX12_startAnew 77 = .ok (.istore_n 1, 1) := by decide +kernel
theorem dX12_startAnew_78 : decode cX12_startAnew 78 = .ok (.iload_n 1, 1) := by decide +kernel
theorem dX12_startAnew_79 : decode cX12_startAnew 79 = .ok (.iconst 2, 1) := by decide +kernel
theorem dX12_startAnew_80 : decode cX12_startAnew 80 = .ok (.if_icmp .ge 16, 3) := by decide +kernel
theorem dX12_startAnew_83 : decode cX12_startAnew 83 = .ok (.aload_n 0, 1) := by decide +kernel
theorem dX12_startAnew_84 : decode cX12_startAnew 84 = .ok (.getfield 127, 3) := by decide +kernel
theorem dX12_startAnew_87 : decode cX12_startAnew 87 = .ok (.iload_n 1, 1) := by decide +kernel
theorem dX12_startAnew_88 : decode cX12_startAnew 88 = .ok (.iconst 0, 1) := by decide +kernel
theorem dX12_startAnew_89 : decode cX12_startAnew 89 = .ok (.bastore, 1) := by decide +kernel
theorem dX12_startAnew_90 : decode cX12_startAnew 90 = .ok (.iinc 1 1, 3) := by decide +kernel
theorem dX12_startAnew_93 : decode cX12_startAnew 93 = .ok (.goto (-15), 3) := by decide +kernel
theorem dX12_startAnew_96 : decode cX12_startAnew 96 = .ok (.return_, 1) := by decide +kernel
theorem dX12_clearAll_0 : decode cX12_clearAll 0 = .ok (.iconst 0, 1) := by decide +kernel
theorem dX12_clearAll_1 : decode cX12_clearAll 1 = .ok (.istore_n 1, 1) := by decide +kernel
theorem dX12_clearAll_2 : decode cX12_clearAll 2 = .ok (.iload_n 1, 1) := by decide +kernel
theorem dX12_clearAll_3 : decode cX12_clearAll 3 = .ok (.sipush 1541, 3) := by decide +kernel
theorem dX12_clearAll_6 : decode cX12_clearAll 6 = .ok (.if_icmp .ge 16, 3) := by decide +kernel
theorem dX12_clearAll_9 : decode cX12_clearAll 9 = .ok (.aload_n 0, 1) := by decide +kernel
theorem dX12_clearAll_10 : decode cX12_clearAll 10 = .ok (.getfield 7, 3) := by decide +kernel
theorem dX12_clearAll_13 : decode cX12_clearAll 13 = .ok (.iload_n 1, 1) := by decide +kernel
theorem dX12_clearAll_14 : decode cX12_clearAll 14 = .ok (.iconst 0, 1) := by decide +kernel
theorem dX12_clearAll_15 : decode cX12_clearAll 15 = .ok (.iastore, 1) := by decide +kernel
theorem dX12_clearAll_16 : decode cX12_clearAll 16 = .ok (.iinc 1 1, 3) := by decide +kernel
theorem dX12_clearAll_19 : decode cX12_clearAll 19 = .ok (.goto (-17), 3) := by decide +kernel
theorem dX12_clearAll_22 : decode cX12_clearAll 22 = .ok (.return_, 1) := by decide +kernel
theorem dX12_isOn_0 : decode cX12_isOn 0 = .ok (.aload_n 0, 1) := by decide +kernel
theorem dX12_isOn_1 : decode cX12_isOn 1 = .ok (.iload_n 1, 1) := by decide +kernel
theorem dX12_isOn_2 : decode cX12_isOn 2 = .ok (.invokevirtual 247, 3) := by decide +kernel
theorem dX12_isOn_5 : decode cX12_isOn 5 = .ok (.istore 4, 2) := by decide +kernel
theorem dX12_isOn_7 : decode cX12_isOn 7 = .ok (.iload_n 3, 1) := by decide +kernel
theorem dX12_isOn_8 : decode cX12_isOn 8 = .ok (.ifCond .eq 17, 3) := by decide +kernel
theorem dX12_isOn_11 : decode cX12_isOn 11 = .ok (.iload 4, 2) := by decide +kernel
theorem dX12_isOn_13 : decode cX12_isOn 13 = .ok (.iconst 2, 1) := by decide +kernel
theorem dX12_isOn_14 : decode cX12_isOn 14 = .ok (.if_icmp .eq 7, 3) := by decide +kernel
theorem dX12_isOn_17 : decode cX12_isOn 17 = .ok (.iconst 1, 1) := by decide +kernel
theorem dX12_isOn_18 : decode cX12_isOn 18 = .ok (.goto 17, 3) := by decide +kernel
theorem dX12_isOn_21 : decode cX12_isOn 21 = .ok (.iconst 0, 1) := by decide +kernel
theorem dX12_isOn_22 : decode cX12_isOn 22 = .ok (.goto 13, 3) := by decide +kernel
theorem dX12_isOn_25 : decode cX12_isOn 25 = .ok (.iload 4, 2) := by decide +kernel
theorem dX12_isOn_27 : decode cX12_isOn 27 = .ok (.ifCond .ne 7, 3) := by decide +kernel
theorem dX12_isOn_30 : decode cX12_isOn 30 = .ok (.iconst 1, 1) := by decide +kernel
theorem dX12_isOn_31 : decode cX12_isOn 31 = .ok (.goto 4, 3) := by decide +kernel
theorem dX12_isOn_34 : decode cX12_isOn 34 = .ok (.iconst 0, 1) := by decide +kernel
theorem dX12_isOn_35 : decode cX12_isOn 35 = .ok (.istore 5, 2) := by decide +kernel
theorem dX12_isOn_37 : decode cX12_isOn 37 = .ok (.iload 5, 2) := by decide +kernel
theorem dX12_isOn_39 : decode cX12_isOn 39 = .ok (.istore 6, 2) := by decide +kernel
theorem dX12_isOn_41 : decode cX12_isOn 41 = .ok (.iconst 0, 1) := by decide +kernel
theorem dX12_isOn_42 : decode cX12_isOn 42 = .ok (.istore 7, 2) := by decide +kernel
theorem dX12_isOn_44 : decode cX12_isOn 44 = .ok (.iload 7, 2) := by decide +kernel
theorem dX12_isOn_46 : decode cX12_isOn 46 = .ok (.iload_n 2, 1) := by decide +kernel
theorem dX12_isOn_47 : decode cX12_isOn 47 = .ok (.if_icmp .ge 57, 3) := by decide +kernel
theorem dX12_isOn_50 : decode cX12_isOn 50 = .ok (.aload_n 0, 1) := by decide +kernel
theorem dX12_isOn_51 : decode cX12_isOn 51 = .ok (.iload_n 1, 1) := by decide +kernel
theorem dX12_isOn_52 : decode cX12_isOn 52 = .ok (.iload 7, 2) := by decide +kernel
theorem dX12_isOn_54 : decode cX12_isOn 54 = .ok (.invokevirtual 250, 3) := by decide +kernel
theorem dX12_isOn_57 : decode cX12_isOn 57 = .ok (.iload_n 3, 1) := by decide +kernel
theorem dX12_isOn_58 : decode cX12_isOn 58 = .ok (.ifCond .eq 7, 3) := by decide +kernel
theorem dX12_isOn_61 : decode cX12_isOn 61 = .ok (.iconst 5, 1) := by decide +kernel
theorem dX12_isOn_62 : decode cX12_isOn 62 = .ok (.goto 5, 3) := by decide +kernel
theorem dX12_isOn_65 : decode cX12_isOn 65 = .ok (.bipush 7, 2) := by decide +kernel
theorem dX12_isOn_67 : decode cX12_isOn 67 = .ok (.if_icmp .ne 6, 3) := by decide +kernel
theorem dX12_isOn_70 : decode cX12_isOn 70 = .ok (.iconst 0, 1) := by decide +kernel
theorem dX12_isOn_71 : decode cX12_isOn 71 = .ok (.istore 6, 2) := by decide +kernel
theorem dX12_isOn_73 : decode cX12_isOn 73 = .ok (.aload_n 0, 1) := by decide +kernel
theorem dX12_isOn_74 : decode cX12_isOn 74 = .ok (.iload_n 1, 1) := by decide +kernel
theorem dX12_isOn_75 : decode cX12_isOn 75 = .ok (.iload 7, 2) := by decide +kernel
theorem dX12_isOn_77 : decode cX12_isOn 77 = .ok (.invokevirtual 250, 3) := by decide +kernel
theorem dX12_isOn_80 : decode cX12_isOn 80 = .ok (.iload_n 3, 1) := by decide +kernel
theorem dX12_isOn_81 : decode cX12_isOn 81 = .ok (.ifCond .eq 8, 3) := by decide +kernel
theorem dX12_isOn_84 : decode cX12_isOn 84 = .ok (.bipush 6, 2) := by decide +kernel
theorem dX12_isOn_86 : decode cX12_isOn 86 = .ok (.goto 5, 3) := by decide +kernel
theorem dX12_isOn_89 : decode cX12_isOn 89 = .ok (.bipush 8, 2) := by decide +kernel
theorem dX12_isOn_91 : decode cX12_isOn 91 = .ok (.if_icmp .ne 7, 3) := by decide +kernel
theorem dX12_isOn_94 : decode cX12_isOn 94 = .ok (.iload 5, 2) := by decide +kernel
theorem dX12_isOn_96 : decode cX12_isOn 96 = .ok (.istore 6, 2) := by decide +kernel
theorem dX12_isOn_98 : decode cX12_isOn 98 = .ok (.iinc 7 1, 3) := by decide +kernel
theorem dX12_isOn_101 : decode cX12_isOn 101 = .ok (.goto (-57), 3) := by decide +kernel
theorem dX12_isOn_104 : decode cX12_isOn 104 = .ok (.iload 6, 2) := by decide +kernel
theorem dX12_isOn_106 : decode cX12_isOn 106 = .ok (.ireturn, 1) := by decide +kernel
theorem dX12_canSoft_0 : decode cX12_canSoft 0 = .ok (.aload_n 0, 1) := by decide +kernel
theorem dX12_canSoft_1 : decode cX12_canSoft 1 = .ok (.iload_n 1, 1) := by decide +kernel
theorem dX12_canSoft_2 : decode cX12_canSoft 2 = .ok (.iload_n 2, 1) := by decide +kernel
theorem dX12_canSoft_3 : decode cX12_canSoft 3 = .ok (.iconst 1, 1) := by decide +kernel
theorem dX12_canSoft_4 : decode cX12_canSoft 4 = .ok (.invokevirtual 254, 3) := by decide +kernel
theorem dX12_canSoft_7 : decode cX12_canSoft 7 = .ok (.ifCond .eq 17, 3) := by decide +kernel
theorem dX12_canSoft_10 : decode cX12_canSoft 10 = .ok (.aload_n 0, 1) := by decide +kernel
theorem dX12_canSoft_11 : decode cX12_canSoft 11 = .ok (.iload_n 1, 1) := by decide +kernel
theorem dX12_canSoft_12 : decode cX12_canSoft 12 = .ok (.iload_n 2, 1) := by decide +kernel
theorem dX12_canSoft_13 : decode cX12_canSoft 13 = .ok (.iconst 0, 1) := by decide +kernel
theorem dX12_canSoft_14 : decode cX12_canSoft 14 = .ok (.invokevirtual 254, 3) := by decide +kernel
theorem dX12_canSoft_17 : decode cX12_canSoft 17 = .ok (.ifCond .eq 7, 3) := by decide +kernel
theorem dX12_canSoft_20 : decode cX12_canSoft 20 = .ok (.iconst 1, 1) := by decide +kernel
theorem dX12_canSoft_21 : decode cX12_canSoft 21 = .ok (.goto 4, 3) := by decide +kernel
theorem dX12_canSoft_24 : decode cX12_canSoft 24 = .ok (.iconst 0, 1) := by decide +kernel
theorem dX12_canSoft_25 : decode cX12_canSoft 25 = .ok (.ireturn, 1) := by decide +kernel
theorem dX12_isEdge_0 : decode cX12_isEdge 0 = .ok (.aload_n 0, 1) := by decide +kernel
theorem dX12_isEdge_1 : decode cX12_isEdge 1 = .ok (.getfield 7, 3) := by decide +kernel
theorem dX12_isEdge_4 : decode cX12_isEdge 4 = .ok (.iconst 0, 1) := by decide +kernel
theorem dX12_isEdge_5 : decode cX12_isEdge 5 = .ok (.bipush 16, 2) := by decide +kernel
theorem dX12_isEdge_7 : decode cX12_isEdge 7 = .ok (.iload_n 1, 1) := by decide +kernel
theorem dX12_isEdge_8 : decode cX12_isEdge 8 = .ok (.imul, 1) := by decide +kernel
theorem dX12_isEdge_9 : decode cX12_isEdge 9 = .ok (.iadd, 1) := by decide +kernel
theorem dX12_isEdge_10 : decode cX12_isEdge 10 = .ok (.iload_n 2, 1) := by decide +kernel
theorem dX12_isEdge_11 : decode cX12_isEdge 11 = .ok (.iadd, 1) := by decide +kernel
theorem dX12_isEdge_12 : decode cX12_isEdge 12 = .ok (.iaload, 1) := by decide +kernel
theorem dX12_isEdge_13 : decode cX12_isEdge 13 = .ok (.ifCond .le 7, 3) := by decide +kernel
theorem dX12_isEdge_16 : decode cX12_isEdge 16 = .ok (.iconst 1, 1) := by decide +kernel
theorem dX12_isEdge_17 : decode cX12_isEdge 17 = .ok (.goto 4, 3) := by decide +kernel
theorem dX12_isEdge_20 : decode cX12_isEdge 20 = .ok (.iconst 0, 1) := by decide +kernel
theorem dX12_isEdge_21 : decode cX12_isEdge 21 = .ok (.ireturn, 1) := by decide +kernel
theorem dX12_layWay_0 : decode cX12_layWay 0 = .ok (.iconst 0, 1) := by decide +kernel
theorem dX12_layWay_1 : decode cX12_layWay 1 = .ok (.istore_n 3, 1) := by decide +kernel
theorem dX12_layWay_2 : decode cX12_layWay 2 = .ok (.iload_n 3, 1) := by decide +kernel
theorem dX12_layWay_3 : decode cX12_layWay 3 = .ok (.bipush 16, 2) := by decide +kernel
theorem dX12_layWay_5 : decode cX12_layWay 5 = .ok (.if_icmp .ge 27, 3) := by decide +kernel
theorem dX12_layWay_8 : decode cX12_layWay 8 = .ok (.aload_n 0, 1) := by decide +kernel
theorem dX12_layWay_9 : decode cX12_layWay 9 = .ok (.getfield 60, 3) := by decide +kernel
theorem dX12_layWay_12 : decode cX12_layWay 12 = .ok (.iload_n 3, 1) := by decide +kernel
theorem dX12_layWay_13 : decode cX12_layWay 13 = .ok (.iload_n 3, 1) := by decide +kernel
theorem dX12_layWay_14 : decode cX12_layWay 14 = .ok (.iload_n 2, 1) := by decide +kernel
theorem dX12_layWay_15 : decode cX12_layWay 15 = .ok (.if_icmp .ne 7, 3) := by decide +kernel
theorem dX12_layWay_18 : decode cX12_layWay 18 = .ok (.iconst 0, 1) := by decide +kernel
theorem dX12_layWay_19 : decode cX12_layWay 19 = .ok (.goto 6, 3) := by decide +kernel
theorem dX12_layWay_22 : decode cX12_layWay 22 = .ok (.ldc_w 258, 3) := by decide +kernel
theorem dX12_layWay_25 : decode cX12_layWay 25 = .ok (.iastore, 1) := by decide +kernel
theorem dX12_layWay_26 : decode cX12_layWay 26 = .ok (.iinc 3 1, 3) := by decide +kernel
theorem dX12_layWay_29 : decode cX12_layWay 29 = .ok (.goto (-27), 3) := by decide +kernel
theorem dX12_layWay_32 : decode cX12_layWay 32 = .ok (.iconst 1, 1) := by decide +kernel
theorem dX12_layWay_33 : decode cX12_layWay 33 = .ok (.istore_n 3, 1) := by decide +kernel
theorem dX12_layWay_34 : decode cX12_layWay 34 = .ok (.iload_n 3, 1) := by decide +kernel
theorem dX12_layWay_35 : decode cX12_layWay 35 = .ok (.ifCond .eq 91, 3) := by decide +kernel
theorem dX12_layWay_38 : decode cX12_layWay 38 = .ok (.iconst 0, 1) := by decide +kernel
theorem dX12_layWay_39 : decode cX12_layWay 39 = .ok (.istore_n 3, 1) := by decide +kernel
theorem dX12_layWay_40 : decode cX12_layWay 40 = .ok (.iconst 0, 1) := by decide +kernel
theorem dX12_layWay_41 : decode cX12_layWay 41 = .ok (.istore 4, 2) := by decide +kernel
theorem dX12_layWay_43 : decode cX12_layWay 43 = .ok (.iload 4, 2) := by decide +kernel
theorem dX12_layWay_45 : decode cX12_layWay 45 = .ok (.bipush 16, 2) := by decide +kernel
theorem dX12_layWay_47 : decode cX12_layWay 47 = .ok (.if_icmp .ge 76, 3) := by decide +kernel
theorem dX12_layWay_50 : decode cX12_layWay 50 = .ok (.iconst 0, 1) := by decide +kernel
theorem dX12_layWay_51 : decode cX12_layWay 51 = .ok (.istore 5, 2) := by decide +kernel
theorem dX12_layWay_53 : decode cX12_layWay 53 = .ok (.iload 5, 2) := by decide +kernel
theorem dX12_layWay_55 : decode cX12_layWay 55 = .ok (.bipush 16, 2) := by decide +kernel
theorem dX12_layWay_57 : decode cX12_layWay 57 = .ok (.if_icmp .ge 60, 3) := by decide +kernel
theorem dX12_layWay_60 : decode cX12_layWay 60 = .ok (.aload_n 0, 1) := by decide +kernel
theorem dX12_layWay_61 : decode cX12_layWay 61 = .ok (.iload 4, 2) := by decide +kernel
theorem dX12_layWay_63 : decode cX12_layWay 63 = .ok (.iload 5, 2) := by decide +kernel
theorem dX12_layWay_65 : decode cX12_layWay 65 = .ok (.invokevirtual 259, 3) := by decide +kernel
theorem dX12_layWay_68 : decode cX12_layWay 68 = .ok (.ifCond .eq 43, 3) := by decide +kernel
theorem dX12_layWay_71 : decode cX12_layWay 71 = .ok (.aload_n 0, 1) := by decide +kernel
theorem dX12_layWay_72 : decode cX12_layWay 72 = .ok (.getfield 60, 3) := by decide +kernel
theorem dX12_layWay_75 : decode cX12_layWay 75 = .ok (.iload 5, 2) := by decide +kernel
theorem dX12_layWay_77 : decode cX12_layWay 77 = .ok (.iaload, 1) := by decide +kernel
theorem dX12_layWay_78 : decode cX12_layWay 78 = .ok (.iconst 1, 1) := by decide +kernel
theorem dX12_layWay_79 : decode cX12_layWay 79 = .ok (.iadd, 1) := by decide +kernel
theorem dX12_layWay_80 : decode cX12_layWay 80 = .ok (.aload_n 0, 1) := by decide +kernel
theorem dX12_layWay_81 : decode cX12_layWay 81 = .ok (.getfield 60, 3) := by decide +kernel
theorem dX12_layWay_84 : decode cX12_layWay 84 = .ok (.iload 4, 2) := by decide +kernel
theorem dX12_layWay_86 : decode cX12_layWay 86 = .ok (.iaload, 1) := by decide +kernel
theorem dX12_layWay_87 : decode cX12_layWay 87 = .ok (.if_icmp .lt 6, 3) := by decide +kernel
theorem dX12_layWay_90 : decode cX12_layWay 90 = .ok (.goto 21, 3) := by decide +kernel
theorem dX12_layWay_93 : decode cX12_layWay 93 = .ok (.aload_n 0, 1) := by decide +kernel
theorem dX12_layWay_94 : decode cX12_layWay 94 = .ok (.getfield 60, 3) := by decide +kernel
theorem dX12_layWay_97 : decode cX12_layWay 97 = .ok (.iload 4, 2) := by decide +kernel
theorem dX12_layWay_99 : decode cX12_layWay 99 = .ok (.aload_n 0, 1) := by decide +kernel
theorem dX12_layWay_100 : decode cX12_layWay 100 = .ok (.getfield 60, 3) := by decide +kernel
theorem dX12_layWay_103 : decode cX12_layWay 103 = .ok (.iload 5, 2) := by decide +kernel
theorem dX12_layWay_105 : decode cX12_layWay 105 = .ok (.iaload, 1) := by decide +kernel
theorem dX12_layWay_106 : decode cX12_layWay 106 = .ok (.iconst 1, 1) := by decide +kernel
theorem dX12_layWay_107 : decode cX12_layWay 107 = .ok (.iadd, 1) := by decide +kernel
theorem dX12_layWay_108 : decode cX12_layWay 108 = .ok (.iastore, 1) := by decide +kernel
theorem dX12_layWay_109 : decode cX12_layWay 109 = .ok (.iconst 1, 1) := by decide +kernel
theorem dX12_layWay_110 : decode cX12_layWay 110 = .ok (.istore_n 3, 1) := by decide +kernel
theorem dX12_layWay_111 : decode cX12_layWay 111 = .ok (.iinc 5 1, 3) := by decide +kernel
theorem dX12_layWay_114 : decode cX12_layWay 114 = .ok (.goto (-61), 3) := by decide +kernel
theorem dX12_layWay_117 : decode cX12_layWay 117 = .ok (.iinc 4 1, 3) := by decide +kernel
theorem dX12_layWay_120 : decode cX12_layWay 120 = .ok (.goto (-77), 3) := by decide +kernel
theorem dX12_layWay_123 : decode cX12_layWay 123 = .ok (.goto (-89), 3) := by decide +kernel
theorem dX12_layWay_126 : decode cX12_layWay 126 = .ok (.ldc_w 258, 3) := by decide +kernel
theorem dX12_layWay_129 : decode cX12_layWay 129 = .ok (.istore 4, 2) := by decide +kernel
theorem dX12_layWay_131 : decode cX12_layWay 131 = .ok (.iconst 0, 1) := by decide +kernel
theorem dX12_layWay_132 : decode cX12_layWay 132 = .ok (.istore 5, 2) := by decide +kernel
theorem dX12_layWay_134 : decode cX12_layWay 134 = .ok (.iload 5, 2) := by decide +kernel
theorem dX12_layWay_136 : decode cX12_layWay 136 = .ok (.bipush 16, 2) := by decide +kernel
theorem dX12_layWay_138 : decode cX12_layWay 138 = .ok (.if_icmp .ge 45, 3) := by decide +kernel
theorem dX12_layWay_141 : decode cX12_layWay 141 = .ok (.aload_n 0, 1) := by decide +kernel
theorem dX12_layWay_142 : decode cX12_layWay 142 = .ok (.iload_n 1, 1) := by decide +kernel
theorem dX12_layWay_143 : decode cX12_layWay 143 = .ok (.iload 5, 2) := by decide +kernel
theorem dX12_layWay_145 : decode cX12_layWay 145 = .ok (.invokevirtual 259, 3) := by decide +kernel
theorem dX12_layWay_148 : decode cX12_layWay 148 = .ok (.ifCond .eq 25, 3) := by decide +kernel
theorem dX12_layWay_151 : decode cX12_layWay 151 = .ok (.aload_n 0, 1) := by decide +kernel
theorem dX12_layWay_152 : decode cX12_layWay 152 = .ok (.getfield 60, 3) := by decide +kernel
theorem dX12_layWay_155 : decode cX12_layWay 155 = .ok (.iload 5, 2) := by decide +kernel
theorem dX12_layWay_157 : decode cX12_layWay 157 = .ok (.iaload, 1) := by decide +kernel
theorem dX12_layWay_158 : decode cX12_layWay 158 = .ok (.iload 4, 2) := by decide +kernel
theorem dX12_layWay_160 : decode cX12_layWay 160 = .ok (.if_icmp .ge 13, 3) := by decide +kernel
theorem dX12_layWay_163 : decode cX12_layWay 163 = .ok (.aload_n 0, 1) := by decide +kernel
theorem dX12_layWay_164 : decode cX12_layWay 164 = .ok (.getfield 60, 3) := by decide +kernel
theorem dX12_layWay_167 : decode cX12_layWay 167 = .ok (.iload 5, 2) := by decide +kernel
theorem dX12_layWay_169 : decode cX12_layWay 169 = .ok (.iaload, 1) := by decide +kernel
theorem dX12_layWay_170 : decode cX12_layWay 170 = .ok (.goto 5, 3) := by decide +kernel
theorem dX12_layWay_173 : decode cX12_layWay 173 = .ok (.iload 4, 2) := by decide +kernel
theorem dX12_layWay_175 : decode cX12_layWay 175 = .ok (.istore 4, 2) := by decide +kernel
theorem dX12_layWay_177 : decode cX12_layWay 177 = .ok (.iinc 5 1, 3) := by decide +kernel
theorem dX12_layWay_180 : decode cX12_layWay 180 = .ok (.goto (-46), 3) := by decide +kernel
theorem dX12_layWay_183 : decode cX12_layWay 183 = .ok (.iload 4, 2) := by decide +kernel
theorem dX12_layWay_185 : decode cX12_layWay 185 = .ok (.ldc_w 258, 3) := by decide +kernel
theorem dX12_layWay_188 : decode cX12_layWay 188 = .ok (.if_icmp .ne 5, 3) := by decide +kernel
theorem dX12_layWay_191 : decode cX12_layWay 191 = .ok (.iconst 0, 1) := by decide +kernel
theorem dX12_layWay_192 : decode cX12_layWay 192 = .ok (.ireturn, 1) := by decide +kernel
theorem dX12_layWay_193 : decode cX12_layWay 193 = .ok (.aload_n 0, 1) := by decide +kernel
theorem dX12_layWay_194 : decode cX12_layWay 194 = .ok (.getfield 63, 3) := by decide +kernel
theorem dX12_layWay_197 : decode cX12_layWay 197 = .ok (.iconst 0, 1) := by decide +kernel
theorem dX12_layWay_198 : decode cX12_layWay 198 = .ok (.iload_n 1, 1) := by decide +kernel
theorem dX12_layWay_199 : decode cX12_layWay 199 = .ok (.iastore, 1) := by decide +kernel
theorem dX12_layWay_200 : decode cX12_layWay 200 = .ok (.iconst 1, 1) := by decide +kernel
theorem dX12_layWay_201 : decode cX12_layWay 201 = .ok (.istore 5, 2) := by decide +kernel
theorem dX12_layWay_203 : decode cX12_layWay 203 = .ok (.iload 4, 2) := by decide +kernel
theorem dX12_layWay_205 : decode cX12_layWay 205 = .ok (.istore 6, 2) := by decide +kernel
theorem dX12_layWay_207 : decode cX12_layWay 207 = .ok (.iload 6, 2) := by decide +kernel
theorem dX12_layWay_209 : decode cX12_layWay 209 = .ok (.ifCond .lt 60, 3) := by decide +kernel
theorem dX12_layWay_212 : decode cX12_layWay 212 = .ok (.iconst 0, 1) := by decide +kernel
theorem dX12_layWay_213 : decode cX12_layWay 213 = .ok (.istore 7, 2) := by decide +kernel
theorem dX12_layWay_215 : decode cX12_layWay 215 = .ok (.aload_n 0, 1) := by decide +kernel
theorem dX12_layWay_216 : decode cX12_layWay 216 = .ok (.aload_n 0, 1) := by decide +kernel
theorem dX12_layWay_217 : decode cX12_layWay 217 = .ok (.getfield 63, 3) := by decide +kernel
theorem dX12_layWay_220 : decode cX12_layWay 220 = .ok (.iload 5, 2) := by decide +kernel
theorem dX12_layWay_222 : decode cX12_layWay 222 = .ok (.iconst 1, 1) := by decide +kernel
theorem dX12_layWay_223 : decode cX12_layWay 223 = .ok (.isub, 1) := by decide +kernel
theorem dX12_layWay_224 : decode cX12_layWay 224 = .ok (.iaload, 1) := by decide +kernel
theorem dX12_layWay_225 : decode cX12_layWay 225 = .ok (.iload 7, 2) := by decide +kernel
theorem dX12_layWay_227 : decode cX12_layWay 227 = .ok (.invokevirtual 259, 3) := by decide +kernel
theorem dX12_layWay_230 : decode cX12_layWay 230 = .ok (.ifCond .eq 15, 3) := by decide +kernel
theorem dX12_layWay_233 : decode cX12_layWay 233 = .ok (.aload_n 0, 1) := by decide +kernel
theorem dX12_layWay_234 : decode cX12_layWay 234 = .ok (.getfield 60, 3) := by decide +kernel
theorem dX12_layWay_237 : decode cX12_layWay 237 = .ok (.iload 7, 2) := by decide +kernel
theorem dX12_layWay_239 : decode cX12_layWay 239 = .ok (.iaload, 1) := by decide +kernel
theorem dX12_layWay_240 : decode cX12_layWay 240 = .ok (.iload 6, 2) := by decide +kernel
theorem dX12_layWay_242 : decode cX12_layWay 242 = .ok (.if_icmp .eq 9, 3) := by decide +kernel
theorem dX12_layWay_245 : decode cX12_layWay 245 = .ok (.iinc 7 1, 3) := by decide +kernel
theorem dX12_layWay_248 : decode cX12_layWay 248 = .ok (.goto (-33), 3) := by decide +kernel
theorem dX12_layWay_251 : decode cX12_layWay 251 = .ok (.aload_n 0, 1) := by decide +kernel
theorem dX12_layWay_252 : decode cX12_layWay 252 = .ok (.getfield 63, 3) := by decide +kernel
theorem dX12_layWay_255 : decode cX12_layWay 255 = .ok (.iload 5, 2) := by decide +kernel
theorem dX12_layWay_257 : decode cX12_layWay 257 = .ok (.iload 7, 2) := by decide +kernel
theorem dX12_layWay_259 : decode cX12_layWay 259 = .ok (.iastore, 1) := by decide +kernel
theorem dX12_layWay_260 : decode cX12_layWay 260 = .ok (.iinc 5 1, 3) := by decide +kernel
theorem dX12_layWay_263 : decode cX12_layWay 263 = .ok (.iinc 6 (-1), 3) := by decide +kernel
theorem dX12_layWay_266 : decode cX12_layWay 266 = .ok (.goto (-59), 3) := by decide +kernel
theorem dX12_layWay_269 : decode cX12_layWay 269 = .ok (.iload 5, 2) := by decide +kernel
theorem dX12_layWay_271 : decode cX12_layWay 271 = .ok (.ireturn, 1) := by decide +kernel
theorem dX12_isWay_0 : decode cX12_isWay 0 = .ok (.aload_n 0, 1) := by decide +kernel
theorem dX12_isWay_1 : decode cX12_isWay 1 = .ok (.iload_n 1, 1) := by decide +kernel
theorem dX12_isWay_2 : decode cX12_isWay 2 = .ok (.iload_n 2, 1) := by decide +kernel
theorem dX12_isWay_3 : decode cX12_isWay 3 = .ok (.invokevirtual 262, 3) := by decide +kernel
theorem dX12_isWay_6 : decode cX12_isWay 6 = .ok (.ifCond .le 7, 3) := by decide +kernel
theorem dX12_isWay_9 : decode cX12_isWay 9 = .ok (.iconst 1, 1) := by decide +kernel
theorem dX12_isWay_10 : decode cX12_isWay 10 = .ok (.goto 4, 3) := by decide +kernel
theorem dX12_isWay_13 : decode cX12_isWay 13 = .ok (.iconst 0, 1) := by decide +kernel
theorem dX12_isWay_14 : decode cX12_isWay 14 = .ok (.ireturn, 1) := by decide +kernel
theorem dX12_placeHeld_0 : decode cX12_placeHeld 0 = .ok (.iconst 0, 1) := by decide +kernel
theorem dX12_placeHeld_1 : decode cX12_placeHeld 1 = .ok (.istore_n 2, 1) := by decide +kernel
theorem dX12_placeHeld_2 : decode cX12_placeHeld 2 = .ok (.iload_n 2, 1) := by decide +kernel
theorem dX12_placeHeld_3 : decode cX12_placeHeld 3 = .ok (.aload_n 0, 1) := by decide +kernel
theorem dX12_placeHeld_4 : decode cX12_placeHeld 4 = .ok (.getfield 265, 3) := by decide +kernel
theorem dX12_placeHeld_7 : decode cX12_placeHeld 7 = .ok (.if_icmp .ge 21, 3) := by decide +kernel
theorem dX12_placeHeld_10 : decode cX12_placeHeld 10 = .ok (.aload_n 0, 1) := by decide +kernel
theorem dX12_placeHeld_11 : decode cX12_placeHeld 11 = .ok (.getfield 66, 3) := by decide +kernel
theorem dX12_placeHeld_14 : decode cX12_placeHeld 14 = .ok (.iload_n 2, 1) := by decide +kernel
theorem dX12_placeHeld_15 : decode cX12_placeHeld 15 = .ok (.iaload, 1) := by decide +kernel
theorem dX12_placeHeld_16 : decode cX12_placeHeld 16 = .ok (.iload_n 1, 1) := by decide +kernel
theorem dX12_placeHeld_17 : decode cX12_placeHeld 17 = .ok (.if_icmp .ne 5, 3) := by decide +kernel
theorem dX12_placeHeld_20 : decode cX12_placeHeld 20 = .ok (.iload_n 2, 1) := by decide +kernel
theorem dX12_placeHeld_21 : decode cX12_placeHeld 21 = .ok (.ireturn, 1) := by decide +kernel
theorem dX12_placeHeld_22 : decode cX12_placeHeld 22 = .ok (.iinc 2 1, 3) := by decide +kernel
theorem dX12_placeHeld_25 : decode cX12_placeHeld 25 = .ok (.goto (-23), 3) := by decide +kernel
theorem dX12_placeHeld_28 : decode cX12_placeHeld 28 = .ok (.iconst (-1), 1) := by decide +kernel
theorem dX12_placeHeld_29 : decode cX12_placeHeld 29 = .ok (.ireturn, 1) := by decide +kernel
theorem dX12_atReport_0 : decode cX12_atReport 0 = .ok (.sipush 273, 3) := by decide +kernel
theorem dX12_atReport_3 : decode cX12_atReport 3 = .ok (.bipush 21, 2) := by decide +kernel
theorem dX12_atReport_5 : decode cX12_atReport 5 = .ok (.iload_n 0, 1) := by decide +kernel
theorem dX12_atReport_6 : decode cX12_atReport 6 = .ok (.imul, 1) := by decide +kernel
theorem dX12_atReport_7 : decode cX12_atReport 7 = .ok (.iadd, 1) := by decide +kernel
theorem dX12_atReport_8 : decode cX12_atReport 8 = .ok (.iload_n 1, 1) := by decide +kernel
theorem dX12_atReport_9 : decode cX12_atReport 9 = .ok (.iadd, 1) := by decide +kernel
theorem dX12_atReport_10 : decode cX12_atReport 10 = .ok (.ireturn, 1) := by decide +kernel
theorem dX12_lastOf_0 : decode cX12_lastOf 0 = .ok (.aload_n 0, 1) := by decide +kernel
theorem dX12_lastOf_1 : decode cX12_lastOf 1 = .ok (.getfield 7, 3) := by decide +kernel
theorem dX12_lastOf_4 : decode cX12_lastOf 4 = .ok (.iload_n 1, 1) := by decide +kernel
theorem dX12_lastOf_5 : decode cX12_lastOf 5 = .ok (.iconst 4, 1) := by decide +kernel
theorem dX12_lastOf_6 : decode cX12_lastOf 6 = .ok (.aload_n 0, 1) := by decide +kernel
theorem dX12_lastOf_7 : decode cX12_lastOf 7 = .ok (.getfield 7, 3) := by decide +kernel
theorem dX12_lastOf_10 : decode cX12_lastOf 10 = .ok (.iload_n 1, 1) := by decide +kernel
theorem dX12_lastOf_11 : decode cX12_lastOf 11 = .ok (.iconst 3, 1) := by decide +kernel
theorem dX12_lastOf_12 : decode cX12_lastOf 12 = .ok (.invokestatic 268, 3) := by decide +kernel
theorem dX12_lastOf_15 : decode cX12_lastOf 15 = .ok (.iaload, 1) := by decide +kernel
theorem dX12_lastOf_16 : decode cX12_lastOf 16 = .ok (.iadd, 1) := by decide +kernel
theorem dX12_lastOf_17 : decode cX12_lastOf 17 = .ok (.iconst 1, 1) := by decide +kernel
theorem dX12_lastOf_18 : decode cX12_lastOf 18 = .ok (.isub, 1) := by decide +kernel
theorem dX12_lastOf_19 : decode cX12_lastOf 19 = .ok (.invokestatic 268, 3) := by decide +kernel
theorem dX12_lastOf_22 : decode cX12_lastOf 22 = .ok (.iaload, 1) := by decide +kernel
theorem dX12_lastOf_23 : decode cX12_lastOf 23 = .ok (.ireturn, 1) := by decide +kernel
theorem dX12_firstOf_0 : decode cX12_firstOf 0 = .ok (.aload_n 0, 1) := by decide +kernel
theorem dX12_firstOf_1 : decode cX12_firstOf 1 = .ok (.getfield 7, 3) := by decide +kernel
theorem dX12_firstOf_4 : decode cX12_firstOf 4 = .ok (.iload_n 1, 1) := by decide +kernel
theorem dX12_firstOf_5 : decode cX12_firstOf 5 = .ok (.iconst 4, 1) := by decide +kernel
theorem dX12_firstOf_6 : decode cX12_firstOf 6 = .ok (.invokestatic 268, 3) := by decide +kernel
theorem dX12_firstOf_9 : decode cX12_firstOf 9 = .ok (.iaload, 1) := by decide +kernel
theorem dX12_firstOf_10 : decode cX12_firstOf 10 = .ok (.ireturn, 1) := by decide +kernel
theorem dX12_isReported_0 : decode cX12_isReported 0 = .ok (.iconst 0, 1) := by decide +kernel
theorem dX12_isReported_1 : decode cX12_isReported 1 = .ok (.istore 4, 2) := by decide +kernel
theorem dX12_isReported_3 : decode cX12_isReported 3 = .ok (.iload 4, 2) := by decide +kernel
theorem dX12_isReported_5 : decode cX12_isReported 5 = .ok (.aload_n 0, 1) := by decide +kernel
theorem dX12_isReported_6 : decode cX12_isReported 6 = .ok (.getfield 7, 3) := by decide +kernel
theorem dX12_isReported_9 : decode cX12_isReported 9 = .ok (.sipush 272, 3) := by decide +kernel
theorem dX12_isReported_12 : decode cX12_isReported 12 = .ok (.iaload, 1) := by decide +kernel
theorem dX12_isReported_13 : decode cX12_isReported 13 = .ok (.if_icmp .ge 46, 3) := by decide +kernel
theorem dX12_isReported_16 : decode cX12_isReported 16 = .ok (.aload_n 0, 1) := by decide +kernel
theorem dX12_isReported_17 : decode cX12_isReported 17 = .ok (.getfield 7, 3) := by decide +kernel
theorem dX12_isReported_20 : decode cX12_isReported 20 = .ok (.iload 4, 2) := by decide +kernel
theorem dX12_isReported_22 : decode cX12_isReported 22 = .ok (.iconst 0, 1) := by decide +kernel
theorem dX12_isReported_23 : decode cX12_isReported 23 = .ok (.invokestatic 268, 3) := by decide +kernel
theorem dX12_isReported_26 : decode cX12_isReported 26 = .ok (.iaload, 1) := by decide +kernel
theorem dX12_isReported_27 : decode cX12_isReported 27 = .ok (.iload_n 1, 1) := by decide +kernel
theorem dX12_isReported_28 : decode cX12_isReported 28 = .ok (.if_icmp .ne 25, 3) := by decide +kernel
theorem dX12_isReported_31 : decode cX12_isReported 31 = .ok (.aload_n 0, 1) := by decide +kernel
theorem dX12_isReported_32 : decode cX12_isReported 32 = .ok (.iload 4, 2) := by decide +kernel
theorem dX12_isReported_34 : decode cX12_isReported 34 = .ok (.invokevirtual 271, 3) := by decide +kernel
theorem dX12_isReported_37 : decode cX12_isReported 37 = .ok (.iload_n 2, 1) := by decide +kernel
theorem dX12_isReported_38 : decode cX12_isReported 38 = .ok (.if_icmp .ne 15, 3) := by decide +kernel
theorem dX12_isReported_41 : decode cX12_isReported 41 = .ok (.aload_n 0, 1) := by decide +kernel
theorem dX12_isReported_42 : decode cX12_isReported 42 = .ok (.iload 4, 2) := by decide +kernel
theorem dX12_isReported_44 : decode cX12_isReported 44 = .ok (.invokevirtual 274, 3) := by decide +kernel
theorem dX12_isReported_47 : decode cX12_isReported 47 = .ok (.iload_n 3, 1) := by decide +kernel
theorem dX12_isReported_48 : decode cX12_isReported 48 = .ok (.if_icmp .ne 5, 3) := by decide +kernel
theorem dX12_isReported_51 : decode cX12_isReported 51 = .ok (.iconst 1, 1) := by decide +kernel
theorem dX12_isReported_52 : decode cX12_isReported 52 = .ok (.ireturn, 1) := by decide +kernel
theorem dX12_isReported_53 : decode cX12_isReported 53 = .ok (.iinc 4 1, 3) := by decide +kernel
theorem dX12_isReported_56 : decode cX12_isReported 56 = .ok (.goto (-53), 3) := by decide +kernel
theorem dX12_isReported_59 : decode cX12_isReported 59 = .ok (.iconst 0, 1) := by decide +kernel
theorem dX12_isReported_60 : decode cX12_isReported 60 = .ok (.ireturn, 1) := by decide +kernel
theorem dX12_report_0 : decode cX12_report 0 = .ok (.aload_n 0, 1) := by decide +kernel
theorem dX12_report_1 : decode cX12_report 1 = .ok (.getfield 7, 3) := by decide +kernel
theorem dX12_report_4 : decode cX12_report 4 = .ok (.sipush 272, 3) := by decide +kernel
theorem dX12_report_7 : decode cX12_report 7 = .ok (.iaload, 1) := by decide +kernel
theorem dX12_report_8 : decode cX12_report 8 = .ok (.bipush 60, 2) := by decide +kernel
theorem dX12_report_10 : decode cX12_report 10 = .ok (.if_icmp .ne 4, 3) := by decide +kernel
theorem dX12_report_13 : decode cX12_report 13 = .ok (.return_, 1) := by decide +kernel
theorem dX12_report_14 : decode cX12_report 14 = .ok (.aload_n 0, 1) := by decide +kernel
theorem dX12_report_15 : decode cX12_report 15 = .ok (.getfield 7, 3) := by decide +kernel
theorem dX12_report_18 : decode cX12_report 18 = .ok (.sipush 272, 3) := by decide +kernel
theorem dX12_report_21 : decode cX12_report 21 = .ok (.iaload, 1) := by decide +kernel
theorem dX12_report_22 : decode cX12_report 22 = .ok (.istore 5, 2) := by decide +kernel
theorem dX12_report_24 : decode cX12_report 24 = .ok (.aload_n 0, 1) := by decide +kernel
theorem dX12_report_25 : decode cX12_report 25 = .ok (.getfield 7, 3) := by decide +kernel
theorem dX12_report_28 : decode cX12_report 28 = .ok (.iload 5, 2) := by decide +kernel
theorem dX12_report_30 : decode cX12_report 30 = .ok (.iconst 0, 1) := by decide +kernel
theorem dX12_report_31 : decode cX12_report 31 = .ok (.invokestatic 268, 3) := by decide +kernel
theorem dX12_report_34 : decode cX12_report 34 = .ok (.iload_n 1, 1) := by decide +kernel
theorem dX12_report_35 : decode cX12_report 35 = .ok (.iastore, 1) := by decide +kernel
theorem dX12_report_36 : decode cX12_report 36 = .ok (.aload_n 0, 1) := by decide +kernel
theorem dX12_report_37 : decode cX12_report 37 = .ok (.getfield 7, 3) := by decide +kernel
theorem dX12_report_40 : decode cX12_report 40 = .ok (.iload 5, 2) := by decide +kernel
theorem dX12_report_42 : decode cX12_report 42 = .ok (.iconst 1, 1) := by decide +kernel
theorem dX12_report_43 : decode cX12_report 43 = .ok (.invokestatic 268, 3) := by decide +kernel
theorem dX12_report_46 : decode cX12_report 46 = .ok (.iload_n 2, 1) := by decide +kernel
theorem dX12_report_47 : decode cX12_report 47 = .ok (.iastore, 1) := by decide +kernel
theorem dX12_report_48 : decode cX12_report 48 = .ok (.aload_n 0, 1) := by decide +kernel
theorem dX12_report_49 : decode cX12_report 49 = .ok (.getfield 7, 3) := by decide +kernel
theorem dX12_report_52 : decode cX12_report 52 = .ok (.iload 5, 2) := by decide +kernel
theorem dX12_report_54 : decode cX12_report 54 = .ok (.iconst 2, 1) := by decide +kernel
theorem dX12_report_55 : decode cX12_report 55 = .ok (.invokestatic 268, 3) := by decide +kernel
theorem dX12_report_58 : decode cX12_report 58 = .ok (.iload_n 3, 1) := by decide +kernel
theorem dX12_report_59 : decode cX12_report 59 = .ok (.iastore, 1) := by decide +kernel
theorem dX12_report_60 : decode cX12_report 60 = .ok (.aload_n 0, 1) := by decide +kernel
theorem dX12_report_61 : decode cX12_report 61 = .ok (.getfield 7, 3) := by decide +kernel
theorem dX12_report_64 : decode cX12_report 64 = .ok (.iload 5, 2) := by decide +kernel
theorem dX12_report_66 : decode cX12_report 66 = .ok (.iconst 3, 1) := by decide +kernel
theorem dX12_report_67 : decode cX12_report 67 = .ok (.invokestatic 268, 3) := by decide +kernel
theorem dX12_report_70 : decode cX12_report 70 = .ok (.iload 4, 2) := by decide +kernel
theorem dX12_report_72 : decode cX12_report 72 = .ok (.iastore, 1) := by decide +kernel
theorem dX12_report_73 : decode cX12_report 73 = .ok (.iconst 0, 1) := by decide +kernel
theorem dX12_report_74 : decode cX12_report 74 = .ok (.istore 6, 2) := by decide +kernel
theorem dX12_report_76 : decode cX12_report 76 = .ok (.iload 6, 2) := by decide +kernel
theorem dX12_report_78 : decode cX12_report 78 = .ok (.iload 4, 2) := by decide +kernel
theorem dX12_report_80 : decode cX12_report 80 = .ok (.if_icmp .ge 30, 3) := by decide +kernel
theorem dX12_report_83 : decode cX12_report 83 = .ok (.aload_n 0, 1) := by decide +kernel
theorem dX12_report_84 : decode cX12_report 84 = .ok (.getfield 7, 3) := by decide +kernel
theorem dX12_report_87 : decode cX12_report 87 = .ok (.iload 5, 2) := by decide +kernel
theorem dX12_report_89 : decode cX12_report 89 = .ok (.iconst 4, 1) := by decide +kernel
theorem dX12_report_90 : decode cX12_report 90 = .ok (.iload 6, 2) := by decide +kernel
theorem dX12_report_92 : decode cX12_report 92 = .ok (.iadd, 1) := by decide +kernel
theorem dX12_report_93 : decode cX12_report 93 = .ok (.invokestatic 268, 3) := by decide +kernel
theorem dX12_report_96 : decode cX12_report 96 = .ok (.aload_n 0, 1) := by decide +kernel
theorem dX12_report_97 : decode cX12_report 97 = .ok (.getfield 63, 3) := by decide +kernel
theorem dX12_report_100 : decode cX12_report 100 = .ok (.iload 6, 2) := by decide +kernel
theorem dX12_report_102 : decode cX12_report 102 = .ok (.iaload, 1) := by decide +kernel
theorem dX12_report_103 : decode cX12_report 103 = .ok (.iastore, 1) := by decide +kernel
theorem dX12_report_104 : decode cX12_report 104 = .ok (.iinc 6 1, 3) := by decide +kernel
theorem dX12_report_107 : decode cX12_report 107 = .ok (.goto (-31), 3) := by decide +kernel
theorem dX12_report_110 : decode cX12_report 110 = .ok (.aload_n 0, 1) := by decide +kernel
theorem dX12_report_111 : decode cX12_report 111 = .ok (.getfield 7, 3) := by decide +kernel
theorem dX12_report_114 : decode cX12_report 114 = .ok (.sipush 272, 3) := by decide +kernel
theorem dX12_report_117 : decode cX12_report 117 = .ok (.dup2, 1) := by decide +kernel
theorem dX12_report_118 : decode cX12_report 118 = .ok (.iaload, 1) := by decide +kernel
theorem dX12_report_119 : decode cX12_report 119 = .ok (.iconst 1, 1) := by decide +kernel
theorem dX12_report_120 : decode cX12_report 120 = .ok (.iadd, 1) := by decide +kernel
theorem dX12_report_121 : decode cX12_report 121 = .ok (.iastore, 1) := by decide +kernel
theorem dX12_report_122 : decode cX12_report 122 = .ok (.return_, 1) := by decide +kernel
theorem dX12_reportOne_0 : decode cX12_reportOne 0 = .ok (.aload_n 0, 1) := by decide +kernel
theorem dX12_reportOne_1 : decode cX12_reportOne 1 = .ok (.getfield 63, 3) := by decide +kernel
theorem dX12_reportOne_4 : decode cX12_reportOne 4 = .ok (.iconst 0, 1) := by decide +kernel
theorem dX12_reportOne_5 : decode cX12_reportOne 5 = .ok (.iload 4, 2) := by decide +kernel
theorem dX12_reportOne_7 : decode cX12_reportOne 7 = .ok (.iastore, 1) := by decide +kernel
theorem dX12_reportOne_8 : decode cX12_reportOne 8 = .ok (.aload_n 0, 1) := by decide +kernel
theorem dX12_reportOne_9 : decode cX12_reportOne 9 = .ok (.iload_n 1, 1) := by decide +kernel
theorem dX12_reportOne_10 : decode cX12_reportOne 10 = .ok (.iload_n 2, 1) := by decide +kernel
theorem dX12_reportOne_11 : decode cX12_reportOne 11 = .ok (.iload_n 3, 1) := by decide +kernel
theorem dX12_reportOne_12 : decode cX12_reportOne 12 = .ok (.iconst 1, 1) := by decide +kernel
theorem dX12_reportOne_13 : decode cX12_reportOne 13 = .ok (.invokevirtual 277, 3) := by decide +kernel
theorem dX12_reportOne_16 : decode cX12_reportOne 16 = .ok (.return_, 1) := by decide +kernel
theorem dX12_reportOnce_0 : decode cX12_reportOnce 0 = .ok (.aload_n 0, 1) := by decide +kernel
theorem dX12_reportOnce_1 : decode cX12_reportOnce 1 = .ok (.iload_n 1, 1) := by decide +kernel
theorem dX12_reportOnce_2 : decode cX12_reportOnce 2 = .ok (.iload 4, 2) := by decide +kernel
theorem dX12_reportOnce_4 : decode cX12_reportOnce 4 = .ok (.iload 4, 2) := by decide +kernel
theorem dX12_reportOnce_6 : decode cX12_reportOnce 6 = .ok (.invokevirtual 281, 3) := by decide +kernel
theorem dX12_reportOnce_9 : decode cX12_reportOnce 9 = .ok (.ifCond .ne 12, 3) := by decide +kernel
theorem dX12_reportOnce_12 : decode cX12_reportOnce 12 = .ok (.aload_n 0, 1) := by decide +kernel
theorem dX12_reportOnce_13 : decode cX12_reportOnce 13 = .ok (.iload_n 1, 1) := by decide +kernel
theorem dX12_reportOnce_14 : decode cX12_reportOnce 14 = .ok (.iload_n 2, 1) := by decide +kernel
theorem dX12_reportOnce_15 : decode cX12_reportOnce 15 = .ok (.iload_n 3, 1) := by decide +kernel
theorem dX12_reportOnce_16 : decode cX12_reportOnce 16 = .ok (.iload 4, 2) := by decide +kernel
theorem dX12_reportOnce_18 : decode cX12_reportOnce 18 = .ok (.invokevirtual 284, 3) := by decide +kernel
theorem dX12_reportOnce_21 : decode cX12_reportOnce 21 = .ok (.return_, 1) := by decide +kernel
theorem dX12_learn_0 : decode cX12_learn 0 = .ok (.iconst 0, 1) := by decide +kernel
theorem dX12_learn_1 : decode cX12_learn 1 = .ok (.istore 4, 2) := by decide +kernel
theorem dX12_learn_3 : decode cX12_learn 3 = .ok (.iload 4, 2) := by decide +kernel
theorem dX12_learn_5 : decode cX12_learn 5 = .ok (.aload_n 0, 1) := by decide +kernel
theorem dX12_learn_6 : decode cX12_learn 6 = .ok (.getfield 265, 3) := by decide +kernel
theorem dX12_learn_9 : decode cX12_learn 9 = .ok (.if_icmp .ge 54, 3) := by decide +kernel
theorem dX12_learn_12 : decode cX12_learn 12 = .ok (.aload_n 0, 1) := by decide +kernel
theorem dX12_learn_13 : decode cX12_learn 13 = .ok (.getfield 69, 3) := by decide +kernel
theorem dX12_learn_16 : decode cX12_learn 16 = .ok (.iload 4, 2) := by decide +kernel
theorem dX12_learn_18 : decode cX12_learn 18 = .ok (.iaload, 1) := by decide +kernel
theorem dX12_learn_19 : decode cX12_learn 19 = .ok (.istore 5, 2) := by decide +kernel
theorem dX12_learn_21 : decode cX12_learn 21 = .ok (.iload 5, 2) := by decide +kernel
theorem dX12_learn_23 : decode cX12_learn 23 = .ok (.iload_n 3, 1) := by decide +kernel
theorem dX12_learn_24 : decode cX12_learn 24 = .ok (.if_icmp .ne 14, 3) := by decide +kernel
theorem dX12_learn_27 : decode cX12_learn 27 = .ok (.aload_n 0, 1) := by decide +kernel
theorem dX12_learn_28 : decode cX12_learn 28 = .ok (.iconst 2, 1) := by decide +kernel
theorem dX12_learn_29 : decode cX12_learn 29 = .ok (.iload_n 1, 1) := by decide +kernel
theorem dX12_learn_30 : decode cX12_learn 30 = .ok (.iload_n 2, 1) := by decide +kernel
theorem dX12_learn_31 : decode cX12_learn 31 = .ok (.iload_n 3, 1) := by decide +kernel
theorem dX12_learn_32 : decode cX12_learn 32 = .ok (.invokevirtual 287, 3) := by decide +kernel
theorem dX12_learn_35 : decode cX12_learn 35 = .ok (.goto 22, 3) := by decide +kernel
theorem dX12_learn_38 : decode cX12_learn 38 = .ok (.aload_n 0, 1) := by decide +kernel
theorem dX12_learn_39 : decode cX12_learn 39 = .ok (.iload 5, 2) := by decide +kernel
theorem dX12_learn_41 : decode cX12_learn 41 = .ok (.iload_n 3, 1) := by decide +kernel
theorem dX12_learn_42 : decode cX12_learn 42 = .ok (.invokevirtual 259, 3) := by decide +kernel
theorem dX12_learn_45 : decode cX12_learn 45 = .ok (.ifCond .ne 12, 3) := by decide +kernel
theorem dX12_learn_48 : decode cX12_learn 48 = .ok (.aload_n 0, 1) := by decide +kernel
theorem dX12_learn_49 : decode cX12_learn 49 = .ok (.iload_n 1, 1) := by decide +kernel
theorem dX12_learn_50 : decode cX12_learn 50 = .ok (.iload_n 2, 1) := by decide +kernel
theorem dX12_learn_51 : decode cX12_learn 51 = .ok (.iload 5, 2) := by decide +kernel
theorem dX12_learn_53 : decode cX12_learn 53 = .ok (.iload_n 3, 1) := by decide +kernel
theorem dX12_learn_54 : decode cX12_learn 54 = .ok (.invokevirtual 290, 3) := by decide +kernel
theorem dX12_learn_57 : decode cX12_learn 57 = .ok (.iinc 4 1, 3) := by decide +kernel
theorem dX12_learn_60 : decode cX12_learn 60 = .ok (.goto (-57), 3) := by decide +kernel
theorem dX12_learn_63 : decode cX12_learn 63 = .ok (.return_, 1) := by decide +kernel
theorem dX12_learnEdge_0 : decode cX12_learnEdge 0 = .ok (.aload_n 0, 1) := by decide +kernel
theorem dX12_learnEdge_1 : decode cX12_learnEdge 1 = .ok (.getfield 7, 3) := by decide +kernel
theorem dX12_learnEdge_4 : decode cX12_learnEdge 4 = .ok (.iconst 0, 1) := by decide +kernel
theorem dX12_learnEdge_5 : decode cX12_learnEdge 5 = .ok (.bipush 16, 2) := by decide +kernel
theorem dX12_learnEdge_7 : decode cX12_learnEdge 7 = .ok (.iload_n 3, 1) := by decide +kernel
theorem dX12_learnEdge_8 : decode cX12_learnEdge 8 = .ok (.imul, 1) := by decide +kernel
theorem dX12_learnEdge_9 : decode cX12_learnEdge 9 = .ok (.iadd, 1) := by decide +kernel
theorem dX12_learnEdge_10 : decode cX12_learnEdge 10 = .ok (.iload 4, 2) := by decide +kernel
theorem dX12_learnEdge_12 : decode cX12_learnEdge 12 = .ok (.iadd, 1) := by decide +kernel
theorem dX12_learnEdge_13 : decode cX12_learnEdge 13 = .ok (.iconst 1, 1) := by decide +kernel
theorem dX12_learnEdge_14 : decode cX12_learnEdge 14 = .ok (.bipush 16, 2) := by decide +kernel
theorem dX12_learnEdge_16 : decode cX12_learnEdge 16 = .ok (.iload_n 1, 1) := by decide +kernel
theorem dX12_learnEdge_17 : decode cX12_learnEdge 17 = .ok (.imul, 1) := by decide +kernel
theorem dX12_learnEdge_18 : decode cX12_learnEdge 18 = .ok (.iadd, 1) := by decide +kernel
theorem dX12_learnEdge_19 : decode cX12_learnEdge 19 = .ok (.iload_n 2, 1) := by decide +kernel
theorem dX12_learnEdge_20 : decode cX12_learnEdge 20 = .ok (.iadd, 1) := by decide +kernel
theorem dX12_learnEdge_21 : decode cX12_learnEdge 21 = .ok (.iastore, 1) := by decide +kernel
theorem dX12_learnEdge_22 : decode cX12_learnEdge 22 = .ok (.aload_n 0, 1) := by decide +kernel
theorem dX12_learnEdge_23 : decode cX12_learnEdge 23 = .ok (.iload 4, 2) := by decide +kernel
theorem dX12_learnEdge_25 : decode cX12_learnEdge 25 = .ok (.iload_n 3, 1) := by decide +kernel
theorem dX12_learnEdge_26 : decode cX12_learnEdge 26 = .ok (.invokevirtual 262, 3) := by decide +kernel
theorem dX12_learnEdge_29 : decode cX12_learnEdge 29 = .ok (.istore 5, 2) := by decide +kernel
theorem dX12_learnEdge_31 : decode cX12_learnEdge 31 = .ok (.iload 5, 2) := by decide +kernel
theorem dX12_learnEdge_33 : decode cX12_learnEdge 33 = .ok (.ifCond .ne 4, 3) := by decide +kernel
theorem dX12_learnEdge_36 : decode cX12_learnEdge 36 = .ok (.return_, 1) := by decide +kernel
theorem dX12_learnEdge_37 : decode cX12_learnEdge 37 = .ok (.iload 5, 2) := by decide +kernel
theorem dX12_learnEdge_39 : decode cX12_learnEdge 39 = .ok (.istore 6, 2) := by decide +kernel
theorem dX12_learnEdge_41 : decode cX12_learnEdge 41 = .ok (.iload 6, 2) := by decide +kernel
theorem dX12_learnEdge_43 : decode cX12_learnEdge 43 = .ok (.ifCond .le 25, 3) := by decide +kernel
theorem dX12_learnEdge_46 : decode cX12_learnEdge 46 = .ok (.aload_n 0, 1) := by decide +kernel
theorem dX12_learnEdge_47 : decode cX12_learnEdge 47 = .ok (.getfield 63, 3) := by decide +kernel
theorem dX12_learnEdge_50 : decode cX12_learnEdge 50 = .ok (.iload 6, 2) := by decide +kernel
theorem dX12_learnEdge_52 : decode cX12_learnEdge 52 = .ok (.aload_n 0, 1) := by decide +kernel
theorem dX12_learnEdge_53 : decode cX12_learnEdge 53 = .ok (.getfield 63, 3) := by decide +kernel
theorem dX12_learnEdge_56 : decode cX12_learnEdge 56 = .ok (.iload 6, 2) := by decide +kernel
theorem dX12_learnEdge_58 : decode cX12_learnEdge 58 = .ok (.iconst 1, 1) := by decide +kernel
theorem dX12_learnEdge_59 : decode cX12_learnEdge 59 = .ok (.isub, 1) := by decide +kernel
theorem dX12_learnEdge_60 : decode cX12_learnEdge 60 = .ok (.iaload, 1) := by decide +kernel
theorem dX12_learnEdge_61 : decode cX12_learnEdge 61 = .ok (.iastore, 1) := by decide +kernel
theorem dX12_learnEdge_62 : decode cX12_learnEdge 62 = .ok (.iinc 6 (-1), 3) := by decide +kernel
theorem dX12_learnEdge_65 : decode cX12_learnEdge 65 = .ok (.goto (-24), 3) := by decide +kernel
theorem dX12_learnEdge_68 : decode cX12_learnEdge 68 = .ok (.aload_n 0, 1) := by decide +kernel
theorem dX12_learnEdge_69 : decode cX12_learnEdge 69 = .ok (.getfield 63, 3) := by decide +kernel
theorem dX12_learnEdge_72 : decode cX12_learnEdge 72 = .ok (.iconst 0, 1) := by decide +kernel
theorem dX12_learnEdge_73 : decode cX12_learnEdge 73 = .ok (.iload_n 3, 1) := by decide +kernel
theorem dX12_learnEdge_74 : decode cX12_learnEdge 74 = .ok (.iastore, 1) := by decide +kernel
theorem dX12_learnEdge_75 : decode cX12_learnEdge 75 = .ok (.aload_n 0, 1) := by decide +kernel
theorem dX12_learnEdge_76 : decode cX12_learnEdge 76 = .ok (.iconst 3, 1) := by decide +kernel
theorem dX12_learnEdge_77 : decode cX12_learnEdge 77 = .ok (.iload_n 1, 1) := by decide +kernel
theorem dX12_learnEdge_78 : decode cX12_learnEdge 78 = .ok (.iload_n 2, 1) := by decide +kernel
theorem dX12_learnEdge_79 : decode cX12_learnEdge 79 = .ok (.iload 5, 2) := by decide +kernel
theorem dX12_learnEdge_81 : decode cX12_learnEdge 81 = .ok (.iconst 1, 1) := by decide +kernel
theorem dX12_learnEdge_82 : decode cX12_learnEdge 82 = .ok (.iadd, 1) := by decide +kernel
theorem dX12_learnEdge_83 : decode cX12_learnEdge 83 = .ok (.invokevirtual 277, 3) := by decide +kernel
theorem dX12_learnEdge_86 : decode cX12_learnEdge 86 = .ok (.return_, 1) := by decide +kernel
theorem dX12_use_0 : decode cX12_use 0 = .ok (.aload_n 0, 1) := by decide +kernel
theorem dX12_use_1 : decode cX12_use 1 = .ok (.iload_n 1, 1) := by decide +kernel
theorem dX12_use_2 : decode cX12_use 2 = .ok (.invokevirtual 247, 3) := by decide +kernel
theorem dX12_use_5 : decode cX12_use 5 = .ok (.iconst 2, 1) := by decide +kernel
theorem dX12_use_6 : decode cX12_use 6 = .ok (.if_icmp .ne 7, 3) := by decide +kernel
theorem dX12_use_9 : decode cX12_use 9 = .ok (.iconst 1, 1) := by decide +kernel
theorem dX12_use_10 : decode cX12_use 10 = .ok (.goto 17, 3) := by decide +kernel
theorem dX12_use_13 : decode cX12_use 13 = .ok (.aload_n 0, 1) := by decide +kernel
theorem dX12_use_14 : decode cX12_use 14 = .ok (.iload_n 1, 1) := by decide +kernel
theorem dX12_use_15 : decode cX12_use 15 = .ok (.invokevirtual 247, 3) := by decide +kernel
theorem dX12_use_18 : decode cX12_use 18 = .ok (.iconst 1, 1) := by decide +kernel
theorem dX12_use_19 : decode cX12_use 19 = .ok (.if_icmp .ne 7, 3) := by decide +kernel
theorem dX12_use_22 : decode cX12_use 22 = .ok (.iconst 2, 1) := by decide +kernel
theorem dX12_use_23 : decode cX12_use 23 = .ok (.goto 4, 3) := by decide +kernel
theorem dX12_use_26 : decode cX12_use 26 = .ok (.iconst 0, 1) := by decide +kernel
theorem dX12_use_27 : decode cX12_use 27 = .ok (.istore 4, 2) := by decide +kernel
theorem dX12_use_29 : decode cX12_use 29 = .ok (.iload 4, 2) := by decide +kernel
theorem dX12_use_31 : decode cX12_use 31 = .ok (.aload_n 0, 1) := by decide +kernel
theorem dX12_use_32 : decode cX12_use 32 = .ok (.iload_n 1, 1) := by decide +kernel
theorem dX12_use_33 : decode cX12_use 33 = .ok (.iload_n 2, 1) := by decide +kernel
theorem dX12_use_34 : decode cX12_use 34 = .ok (.iconst 1, 1) := by decide +kernel
theorem dX12_use_35 : decode cX12_use 35 = .ok (.invokevirtual 254, 3) := by decide +kernel
theorem dX12_use_38 : decode cX12_use 38 = .ok (.ifCond .eq 7, 3) := by decide +kernel
theorem dX12_use_41 : decode cX12_use 41 = .ok (.iconst 4, 1) := by decide +kernel
theorem dX12_use_42 : decode cX12_use 42 = .ok (.goto 4, 3) := by decide +kernel
theorem dX12_use_45 : decode cX12_use 45 = .ok (.iconst 0, 1) := by decide +kernel
theorem dX12_use_46 : decode cX12_use 46 = .ok (.aload_n 0, 1) := by decide +kernel
theorem dX12_use_47 : decode cX12_use 47 = .ok (.iload_n 1, 1) := by decide +kernel
theorem dX12_use_48 : decode cX12_use 48 = .ok (.iload_n 2, 1) := by decide +kernel
theorem dX12_use_49 : decode cX12_use 49 = .ok (.invokevirtual 293, 3) := by decide +kernel
theorem dX12_use_52 : decode cX12_use 52 = .ok (.ifCond .eq 8, 3) := by decide +kernel
theorem dX12_use_55 : decode cX12_use 55 = .ok (.bipush 8, 2) := by decide +kernel
theorem dX12_use_57 : decode cX12_use 57 = .ok (.goto 4, 3) := by decide +kernel
theorem dX12_use_60 : decode cX12_use 60 = .ok (.iconst 0, 1) := by decide +kernel
theorem dX12_use_61 : decode cX12_use 61 = .ok (.ior, 1) := by decide +kernel
theorem dX12_use_62 : decode cX12_use 62 = .ok (.ior, 1) := by decide +kernel
theorem dX12_use_63 : decode cX12_use 63 = .ok (.istore 4, 2) := by decide +kernel
theorem dX12_use_65 : decode cX12_use 65 = .ok (.aload_n 0, 1) := by decide +kernel
theorem dX12_use_66 : decode cX12_use 66 = .ok (.getfield 7, 3) := by decide +kernel
theorem dX12_use_69 : decode cX12_use 69 = .ok (.sipush 256, 3) := by decide +kernel
theorem dX12_use_72 : decode cX12_use 72 = .ok (.iload_n 3, 1) := by decide +kernel
theorem dX12_use_73 : decode cX12_use 73 = .ok (.iadd, 1) := by decide +kernel
theorem dX12_use_74 : decode cX12_use 74 = .ok (.dup2, 1) := by decide +kernel
theorem dX12_use_75 : decode cX12_use 75 = .ok (.iaload, 1) := by decide +kernel
theorem dX12_use_76 : decode cX12_use 76 = .ok (.iload 4, 2) := by decide +kernel
theorem dX12_use_78 : decode cX12_use 78 = .ok (.ior, 1) := by decide +kernel
theorem dX12_use_79 : decode cX12_use 79 = .ok (.iastore, 1) := by decide +kernel
theorem dX12_use_80 : decode cX12_use 80 = .ok (.aload_n 0, 1) := by decide +kernel
theorem dX12_use_81 : decode cX12_use 81 = .ok (.getfield 7, 3) := by decide +kernel
theorem dX12_use_84 : decode cX12_use 84 = .ok (.sipush 256, 3) := by decide +kernel
theorem dX12_use_87 : decode cX12_use 87 = .ok (.iload_n 3, 1) := by decide +kernel
theorem dX12_use_88 : decode cX12_use 88 = .ok (.iadd, 1) := by decide +kernel
theorem dX12_use_89 : decode cX12_use 89 = .ok (.iaload, 1) := by decide +kernel
theorem dX12_use_90 : decode cX12_use 90 = .ok (.iconst 1, 1) := by decide +kernel
theorem dX12_use_91 : decode cX12_use 91 = .ok (.iand, 1) := by decide +kernel
theorem dX12_use_92 : decode cX12_use 92 = .ok (.ifCond .le 26, 3) := by decide +kernel
theorem dX12_use_95 : decode cX12_use 95 = .ok (.aload_n 0, 1) := by decide +kernel
theorem dX12_use_96 : decode cX12_use 96 = .ok (.getfield 7, 3) := by decide +kernel
theorem dX12_use_99 : decode cX12_use 99 = .ok (.sipush 256, 3) := by decide +kernel
theorem dX12_use_102 : decode cX12_use 102 = .ok (.iload_n 3, 1) := by decide +kernel
theorem dX12_use_103 : decode cX12_use 103 = .ok (.iadd, 1) := by decide +kernel
theorem dX12_use_104 : decode cX12_use 104 = .ok (.iaload, 1) := by decide +kernel
theorem dX12_use_105 : decode cX12_use 105 = .ok (.iconst 4, 1) := by decide +kernel
theorem dX12_use_106 : decode cX12_use 106 = .ok (.iand, 1) := by decide +kernel
theorem dX12_use_107 : decode cX12_use 107 = .ok (.ifCond .le 11, 3) := by decide +kernel
theorem dX12_use_110 : decode cX12_use 110 = .ok (.aload_n 0, 1) := by decide +kernel
theorem dX12_use_111 : decode cX12_use 111 = .ok (.iconst 4, 1) := by decide +kernel
theorem dX12_use_112 : decode cX12_use 112 = .ok (.iload_n 1, 1) := by decide +kernel
theorem dX12_use_113 : decode cX12_use 113 = .ok (.iload_n 2, 1) := by decide +kernel
theorem dX12_use_114 : decode cX12_use 114 = .ok (.iload_n 3, 1) := by decide +kernel
theorem dX12_use_115 : decode cX12_use 115 = .ok (.invokevirtual 287, 3) := by decide +kernel
theorem dX12_use_118 : decode cX12_use 118 = .ok (.aload_n 0, 1) := by decide +kernel
theorem dX12_use_119 : decode cX12_use 119 = .ok (.getfield 7, 3) := by decide +kernel
theorem dX12_use_122 : decode cX12_use 122 = .ok (.sipush 256, 3) := by decide +kernel
theorem dX12_use_125 : decode cX12_use 125 = .ok (.iload_n 3, 1) := by decide +kernel
theorem dX12_use_126 : decode cX12_use 126 = .ok (.iadd, 1) := by decide +kernel
theorem dX12_use_127 : decode cX12_use 127 = .ok (.iaload, 1) := by decide +kernel
theorem dX12_use_128 : decode cX12_use 128 = .ok (.iconst 2, 1) := by decide +kernel
theorem dX12_use_129 : decode cX12_use 129 = .ok (.iand, 1) := by decide +kernel
theorem dX12_use_130 : decode cX12_use 130 = .ok (.ifCond .le 27, 3) := by decide +kernel
theorem dX12_use_133 : decode cX12_use 133 = .ok (.aload_n 0, 1) := by decide +kernel
theorem dX12_use_134 : decode cX12_use 134 = .ok (.getfield 7, 3) := by decide +kernel
theorem dX12_use_137 : decode cX12_use 137 = .ok (.sipush 256, 3) := by decide +kernel
theorem dX12_use_140 : decode cX12_use 140 = .ok (.iload_n 3, 1) := by decide +kernel
theorem dX12_use_141 : decode cX12_use 141 = .ok (.iadd, 1) := by decide +kernel
theorem dX12_use_142 : decode cX12_use 142 = .ok (.iaload, 1) := by decide +kernel
theorem dX12_use_143 : decode cX12_use 143 = .ok (.bipush 8, 2) := by decide +kernel
theorem dX12_use_145 : decode cX12_use 145 = .ok (.iand, 1) := by decide +kernel
theorem dX12_use_146 : decode cX12_use 146 = .ok (.ifCond .le 11, 3) := by decide +kernel
theorem dX12_use_149 : decode cX12_use 149 = .ok (.aload_n 0, 1) := by decide +kernel
theorem dX12_use_150 : decode cX12_use 150 = .ok (.iconst 5, 1) := by decide +kernel
theorem dX12_use_151 : decode cX12_use 151 = .ok (.iload_n 1, 1) := by decide +kernel
theorem dX12_use_152 : decode cX12_use 152 = .ok (.iload_n 2, 1) := by decide +kernel
theorem dX12_use_153 : decode cX12_use 153 = .ok (.iload_n 3, 1) := by decide +kernel
theorem dX12_use_154 : decode cX12_use 154 = .ok (.invokevirtual 287, 3) := by decide +kernel
theorem dX12_use_157 : decode cX12_use 157 = .ok (.return_, 1) := by decide +kernel
theorem dX12_lookUnsafe_0 : decode cX12_lookUnsafe 0 = .ok (.iconst 0, 1) := by decide +kernel
theorem dX12_lookUnsafe_1 : decode cX12_lookUnsafe 1 = .ok (.istore 6, 2) := by decide +kernel
theorem dX12_lookUnsafe_3 : decode cX12_lookUnsafe 3 = .ok (.iload 6, 2) := by decide +kernel
theorem dX12_lookUnsafe_5 : decode cX12_lookUnsafe 5 = .ok (.bipush 16, 2) := by decide +kernel
theorem dX12_lookUnsafe_7 : decode cX12_lookUnsafe 7 = .ok (.if_icmp .ge 105, 3) := by decide +kernel
theorem dX12_lookUnsafe_10 : decode cX12_lookUnsafe 10 = .ok (.iconst 0, 1) := by decide +kernel
theorem dX12_lookUnsafe_11 : decode cX12_lookUnsafe 11 = .ok (.istore 7, 2) := by decide +kernel
theorem dX12_lookUnsafe_13 : decode cX12_lookUnsafe 13 = .ok (.iload 7, 2) := by decide +kernel
theorem dX12_lookUnsafe_15 : decode cX12_lookUnsafe 15 = .ok (.bipush 16, 2) := by decide +kernel
theorem dX12_lookUnsafe_17 : decode cX12_lookUnsafe 17 = .ok (.if_icmp .ge 89, 3) := by decide +kernel
theorem dX12_lookUnsafe_20 : decode cX12_lookUnsafe 20 = .ok (.iload 6, 2) := by decide +kernel
theorem dX12_lookUnsafe_22 : decode cX12_lookUnsafe 22 = .ok (.iload 7, 2) := by decide +kernel
theorem dX12_lookUnsafe_24 : decode cX12_lookUnsafe 24 = .ok (.if_icmp .eq 76, 3) := by decide +kernel
theorem dX12_lookUnsafe_27 : decode cX12_lookUnsafe 27 = .ok (.aload_n 0, 1) := by decide +kernel
theorem dX12_lookUnsafe_28 : decode cX12_lookUnsafe 28 = .ok (.getfield 7, 3) := by decide +kernel
theorem dX12_lookUnsafe_31 : decode cX12_lookUnsafe 31 = .ok (.sipush 256, 3) := by decide +kernel
theorem dX12_lookUnsafe_34 : decode cX12_lookUnsafe 34 = .ok (.iload 6, 2) := by decide +kernel
theorem dX12_lookUnsafe_36 : decode cX12_lookUnsafe 36 = .ok (.iadd, 1) := by decide +kernel
theorem dX12_lookUnsafe_37 : decode cX12_lookUnsafe 37 = .ok (.iaload, 1) := by decide +kernel
theorem dX12_lookUnsafe_38 : decode cX12_lookUnsafe 38 = .ok (.iload 4, 2) := by decide +kernel
theorem dX12_lookUnsafe_40 : decode cX12_lookUnsafe 40 = .ok (.iand, 1) := by decide +kernel
theorem dX12_lookUnsafe_41 : decode cX12_lookUnsafe 41 = .ok (.ifCond .eq 59, 3) := by decide +kernel
theorem dX12_lookUnsafe_44 : decode cX12_lookUnsafe 44 = .ok (.aload_n 0, 1) := by decide +kernel
theorem dX12_lookUnsafe_45 : decode cX12_lookUnsafe 45 = .ok (.getfield 7, 3) := by decide +kernel
theorem dX12_lookUnsafe_48 : decode cX12_lookUnsafe 48 = .ok (.sipush 256, 3) := by decide +kernel
theorem dX12_lookUnsafe_51 : decode cX12_lookUnsafe 51 = .ok (.iload 7, 2) := by decide +kernel
theorem dX12_lookUnsafe_53 : decode cX12_lookUnsafe 53 = .ok (.iadd, 1) := by decide +kernel
theorem dX12_lookUnsafe_54 : decode cX12_lookUnsafe 54 = .ok (.iaload, 1) := by decide +kernel
theorem dX12_lookUnsafe_55 : decode cX12_lookUnsafe 55 = .ok (.iload 5, 2) := by decide +kernel
theorem dX12_lookUnsafe_57 : decode cX12_lookUnsafe 57 = .ok (.iand, 1) := by decide +kernel
theorem dX12_lookUnsafe_58 : decode cX12_lookUnsafe 58 = .ok (.ifCond .eq 42, 3) := by decide +kernel
theorem dX12_lookUnsafe_61 : decode cX12_lookUnsafe 61 = .ok (.aload_n 0, 1) := by decide +kernel
theorem dX12_lookUnsafe_62 : decode cX12_lookUnsafe 62 = .ok (.iload_n 3, 1) := by decide +kernel
theorem dX12_lookUnsafe_63 : decode cX12_lookUnsafe 63 = .ok (.iload 6, 2) := by decide +kernel
theorem dX12_lookUnsafe_65 : decode cX12_lookUnsafe 65 = .ok (.iload 7, 2) := by decide +kernel
theorem dX12_lookUnsafe_67 : decode cX12_lookUnsafe 67 = .ok (.invokevirtual 281, 3) := by decide +kernel
theorem dX12_lookUnsafe_70 : decode cX12_lookUnsafe 70 = .ok (.ifCond .eq 6, 3) := by decide +kernel
theorem dX12_lookUnsafe_73 : decode cX12_lookUnsafe 73 = .ok (.goto 27, 3) := by decide +kernel
theorem dX12_lookUnsafe_76 : decode cX12_lookUnsafe 76 = .ok (.aload_n 0, 1) := by decide +kernel
theorem dX12_lookUnsafe_77 : decode cX12_lookUnsafe 77 = .ok (.iload 6, 2) := by decide +kernel
theorem dX12_lookUnsafe_79 : decode cX12_lookUnsafe 79 = .ok (.iload 7, 2) := by decide +kernel
theorem dX12_lookUnsafe_81 : decode cX12_lookUnsafe 81 = .ok (.invokevirtual 262, 3) := by decide +kernel
theorem dX12_lookUnsafe_84 : decode cX12_lookUnsafe 84 = .ok (.istore 8, 2) := by decide +kernel
theorem dX12_lookUnsafe_86 : decode cX12_lookUnsafe 86 = .ok (.iload 8, 2) := by decide +kernel
theorem dX12_lookUnsafe_88 : decode cX12_lookUnsafe 88 = .ok (.ifCond .le 12, 3) := by decide +kernel
theorem dX12_lookUnsafe_91 : decode cX12_lookUnsafe 91 = .ok (.aload_n 0, 1) := by decide +kernel
theorem dX12_lookUnsafe_92 : decode cX12_lookUnsafe 92 = .ok (.iload_n 3, 1) := by decide +kernel
theorem dX12_lookUnsafe_93 : decode cX12_lookUnsafe 93 = .ok (.iload_n 1, 1) := by decide +kernel
theorem dX12_lookUnsafe_94 : decode cX12_lookUnsafe 94 = .ok (.iload_n 2, 1) := by decide +kernel
theorem dX12_lookUnsafe_95 : decode cX12_lookUnsafe 95 = .ok (.iload 8, 2) := by decide +kernel
theorem dX12_lookUnsafe_97 : decode cX12_lookUnsafe 97 = .ok (.invokevirtual 277, 3) := by decide +kernel
theorem dX12_lookUnsafe_100 : decode cX12_lookUnsafe 100 = .ok (.iinc 7 1, 3) := by decide +kernel
theorem dX12_lookUnsafe_103 : decode cX12_lookUnsafe 103 = .ok (.goto (-90), 3) := by decide +kernel
theorem dX12_lookUnsafe_106 : decode cX12_lookUnsafe 106 = .ok (.iinc 6 1, 3) := by decide +kernel
theorem dX12_lookUnsafe_109 : decode cX12_lookUnsafe 109 = .ok (.goto (-106), 3) := by decide +kernel
theorem dX12_lookUnsafe_112 : decode cX12_lookUnsafe 112 = .ok (.return_, 1) := by decide +kernel
theorem dX12_keepChain_0 : decode cX12_keepChain 0 = .ok (.iconst 0, 1) := by decide +kernel
theorem dX12_keepChain_1 : decode cX12_keepChain 1 = .ok (.istore_n 2, 1) := by decide +kernel
theorem dX12_keepChain_2 : decode cX12_keepChain 2 = .ok (.iconst 0, 1) := by decide +kernel
theorem dX12_keepChain_3 : decode cX12_keepChain 3 = .ok (.istore_n 3, 1) := by decide +kernel
theorem dX12_keepChain_4 : decode cX12_keepChain 4 = .ok (.iconst 0, 1) := by decide +kernel
theorem dX12_keepChain_5 : decode cX12_keepChain 5 = .ok (.istore 4, 2) := by decide +kernel
theorem dX12_keepChain_7 : decode cX12_keepChain 7 = .ok (.iload 4, 2) := by decide +kernel
theorem dX12_keepChain_9 : decode cX12_keepChain 9 = .ok (.aload_n 0, 1) := by decide +kernel
theorem dX12_keepChain_10 : decode cX12_keepChain 10 = .ok (.getfield 265, 3) := by decide +kernel
theorem dX12_keepChain_13 : decode cX12_keepChain 13 = .ok (.if_icmp .gt 66, 3) := by decide +kernel
theorem dX12_keepChain_16 : decode cX12_keepChain 16 = .ok (.iload 4, 2) := by decide +kernel
theorem dX12_keepChain_18 : decode cX12_keepChain 18 = .ok (.aload_n 0, 1) := by decide +kernel
theorem dX12_keepChain_19 : decode cX12_keepChain 19 = .ok (.getfield 265, 3) := by decide +kernel
theorem dX12_keepChain_22 : decode cX12_keepChain 22 = .ok (.if_icmp .ge 13, 3) := by decide +kernel
theorem dX12_keepChain_25 : decode cX12_keepChain 25 = .ok (.aload_n 0, 1) := by decide +kernel
theorem dX12_keepChain_26 : decode cX12_keepChain 26 = .ok (.getfield 69, 3) := by decide +kernel
theorem dX12_keepChain_29 : decode cX12_keepChain 29 = .ok (.iload 4, 2) := by decide +kernel
theorem dX12_keepChain_31 : decode cX12_keepChain 31 = .ok (.iaload, 1) := by decide +kernel
theorem dX12_keepChain_32 : decode cX12_keepChain 32 = .ok (.goto 4, 3) := by decide +kernel
theorem dX12_keepChain_35 : decode cX12_keepChain 35 = .ok (.iload_n 1, 1) := by decide +kernel
theorem dX12_keepChain_36 : decode cX12_keepChain 36 = .ok (.istore 5, 2) := by decide +kernel
theorem dX12_keepChain_38 : decode cX12_keepChain 38 = .ok (.iload 4, 2) := by decide +kernel
theorem dX12_keepChain_40 : decode cX12_keepChain 40 = .ok (.iconst 5, 1) := by decide +kernel
theorem dX12_keepChain_41 : decode cX12_keepChain 41 = .ok (.if_icmp .ge 18, 3) := by decide +kernel
theorem dX12_keepChain_44 : decode cX12_keepChain 44 = .ok (.iload_n 2, 1) := by decide +kernel
theorem dX12_keepChain_45 : decode cX12_keepChain 45 = .ok (.iload 5, 2) := by decide +kernel
theorem dX12_keepChain_47 : decode cX12_keepChain 47 = .ok (.iconst 1, 1) := by decide +kernel
theorem dX12_keepChain_48 : decode cX12_keepChain 48 = .ok (.iadd, 1) := by decide +kernel
theorem dX12_keepChain_49 : decode cX12_keepChain 49 = .ok (.iconst 5, 1) := by decide +kernel
theorem dX12_keepChain_50 : decode cX12_keepChain 50 = .ok (.iload 4, 2) := by decide +kernel
theorem dX12_keepChain_52 : decode cX12_keepChain 52 = .ok (.imul, 1) := by decide +kernel
theorem dX12_keepChain_53 : decode cX12_keepChain 53 = .ok (.ishl, 1) := by decide +kernel
theorem dX12_keepChain_54 : decode cX12_keepChain 54 = .ok (.ior, 1) := by decide +kernel
theorem dX12_keepChain_55 : decode cX12_keepChain 55 = .ok (.istore_n 2, 1) := by decide +kernel
theorem dX12_keepChain_56 : decode cX12_keepChain 56 = .ok (.goto 17, 3) := by decide +kernel
theorem dX12_keepChain_59 : decode cX12_keepChain 59 = .ok (.iload_n 3, 1) := by decide +kernel
theorem dX12_keepChain_60 : decode cX12_keepChain 60 = .ok (.iload 5, 2) := by decide +kernel
theorem dX12_keepChain_62 : decode cX12_keepChain 62 = .ok (.iconst 1, 1) := by decide +kernel
theorem dX12_keepChain_63 : decode cX12_keepChain 63 = .ok (.iadd, 1) := by decide +kernel
theorem dX12_keepChain_64 : decode cX12_keepChain 64 = .ok (.iconst 5, 1) := by decide +kernel
theorem dX12_keepChain_65 : decode cX12_keepChain 65 = .ok (.iload 4, 2) := by decide +kernel
theorem dX12_keepChain_67 : decode cX12_keepChain 67 = .ok (.iconst 5, 1) := by decide +kernel
theorem dX12_keepChain_68 : decode cX12_keepChain 68 = .ok (.isub, 1) := by decide +kernel
theorem dX12_keepChain_69 : decode cX12_keepChain 69 = .ok (.imul, 1) := by decide +kernel
theorem dX12_keepChain_70 : decode cX12_keepChain 70 = .ok (.ishl, 1) := by decide +kernel
theorem dX12_keepChain_71 : decode cX12_keepChain 71 = .ok (.ior, 1) := by decide +kernel
theorem dX12_keepChain_72 : decode cX12_keepChain 72 = .ok (.istore_n 3, 1) := by decide +kernel
theorem dX12_keepChain_73 : decode cX12_keepChain 73 = .ok (.iinc 4 1, 3) := by decide +kernel
theorem dX12_keepChain_76 : decode cX12_keepChain 76 = .ok (.goto (-69), 3) := by decide +kernel
theorem dX12_keepChain_79 : decode cX12_keepChain 79 = .ok (.iconst 0, 1) := by decide +kernel
theorem dX12_keepChain_80 : decode cX12_keepChain 80 = .ok (.istore 4, 2) := by decide +kernel
theorem dX12_keepChain_82 : decode cX12_keepChain 82 = .ok (.iload 4, 2) := by decide +kernel
theorem dX12_keepChain_84 : decode cX12_keepChain 84 = .ok (.aload_n 0, 1) := by decide +kernel
theorem dX12_keepChain_85 : decode cX12_keepChain 85 = .ok (.getfield 7, 3) := by decide +kernel
theorem dX12_keepChain_88 : decode cX12_keepChain 88 = .ok (.sipush 1539, 3) := by decide +kernel
theorem dX12_keepChain_91 : decode cX12_keepChain 91 = .ok (.iaload, 1) := by decide +kernel
theorem dX12_keepChain_92 : decode cX12_keepChain 92 = .ok (.if_icmp .ge 61, 3) := by decide +kernel
theorem dX12_keepChain_95 : decode cX12_keepChain 95 = .ok (.aload_n 0, 1) := by decide +kernel
theorem dX12_keepChain_96 : decode cX12_keepChain 96 = .ok (.getfield 7, 3) := by decide +kernel
theorem dX12_keepChain_99 : decode cX12_keepChain 99 = .ok (.sipush 1685, 3) := by decide +kernel
theorem dX12_keepChain_102 : decode cX12_keepChain 102 = .ok (.iconst 2, 1) := by decide +kernel
theorem dX12_keepChain_103 : decode cX12_keepChain 103 = .ok (.iload 4, 2) := by decide +kernel
theorem dX12_keepChain_105 : decode cX12_keepChain 105 = .ok (.imul, 1) := by decide +kernel
theorem dX12_keepChain_106 : decode cX12_keepChain 106 = .ok (.iadd, 1) := by decide +kernel
theorem dX12_keepChain_107 : decode cX12_keepChain 107 = .ok (.iaload, 1) := by decide +kernel
theorem dX12_keepChain_108 : decode cX12_keepChain 108 = .ok (.iload_n 2, 1) := by decide +kernel
theorem dX12_keepChain_109 : decode cX12_keepChain 109 = .ok (.if_icmp .ne 38, 3) := by decide +kernel
theorem dX12_keepChain_112 : decode cX12_keepChain 112 = .ok (.aload_n 0, 1) := by decide +kernel
theorem dX12_keepChain_113 : decode cX12_keepChain 113 = .ok (.getfield 7, 3) := by decide +kernel
theorem dX12_keepChain_116 : decode cX12_keepChain 116 = .ok (.sipush 1685, 3) := by decide +kernel
theorem dX12_keepChain_119 : decode cX12_keepChain 119 = .ok (.iconst 2, 1) := by decide +kernel
theorem dX12_keepChain_120 : decode cX12_keepChain 120 = .ok (.iload 4, 2) := by decide +kernel
theorem dX12_keepChain_122 : decode cX12_keepChain 122 = .ok (.imul, 1) := by decide +kernel
theorem dX12_keepChain_123 : decode cX12_keepChain 123 = .ok (.iadd, 1) := by decide +kernel
theorem dX12_keepChain_124 : decode cX12_keepChain 124 = .ok (.iconst 1, 1) := by decide +kernel
theorem dX12_keepChain_125 : decode cX12_keepChain 125 = .ok (.iadd, 1) := by decide +kernel
theorem dX12_keepChain_126 : decode cX12_keepChain 126 = .ok (.iaload, 1) := by decide +kernel
theorem dX12_keepChain_127 : decode cX12_keepChain 127 = .ok (.iload_n 3, 1) := by decide +kernel
theorem dX12_keepChain_128 : decode cX12_keepChain 128 = .ok (.if_icmp .eq 6, 3) := by decide +kernel
theorem dX12_keepChain_131 : decode cX12_keepChain 131 = .ok (.goto 16, 3) := by decide +kernel
theorem dX12_keepChain_134 : decode cX12_keepChain 134 = .ok (.aload_n 0, 1) := by decide +kernel
theorem dX12_keepChain_135 : decode cX12_keepChain 135 = .ok (.getfield 7, 3) := by decide +kernel
theorem dX12_keepChain_138 : decode cX12_keepChain 138 = .ok (.sipush 1540, 3) := by decide +kernel
theorem dX12_keepChain_141 : decode cX12_keepChain 141 = .ok (.dup2, 1) := by decide +kernel
theorem dX12_keepChain_142 : decode cX12_keepChain 142 = .ok (.iaload, 1) := by decide +kernel
theorem dX12_keepChain_143 : decode cX12_keepChain 143 = .ok (.iconst 1, 1) := by decide +kernel
theorem dX12_keepChain_144 : decode cX12_keepChain 144 = .ok (.iadd, 1) := by decide +kernel
theorem dX12_keepChain_145 : decode cX12_keepChain 145 = .ok (.iastore, 1) := by decide +kernel
theorem dX12_keepChain_146 : decode cX12_keepChain 146 = .ok (.return_, 1) := by decide +kernel
theorem dX12_keepChain_147 : decode cX12_keepChain 147 = .ok (.iinc 4 1, 3) := by decide +kernel
theorem dX12_keepChain_150 : decode cX12_keepChain 150 = .ok (.goto (-68), 3) := by decide +kernel
theorem dX12_keepChain_153 : decode cX12_keepChain 153 = .ok (.aload_n 0, 1) := by decide +kernel
theorem dX12_keepChain_154 : decode cX12_keepChain 154 = .ok (.getfield 7, 3) := by decide +kernel
theorem dX12_keepChain_157 : decode cX12_keepChain 157 = .ok (.sipush 1685, 3) := by decide +kernel
theorem dX12_keepChain_160 : decode cX12_keepChain 160 = .ok (.iconst 2, 1) := by decide +kernel
theorem dX12_keepChain_161 : decode cX12_keepChain 161 = .ok (.aload_n 0, 1) := by decide +kernel
theorem dX12_keepChain_162 : decode cX12_keepChain 162 = .ok (.getfield 7, 3) := by decide +kernel
theorem dX12_keepChain_165 : decode cX12_keepChain 165 = .ok (.sipush 1539, 3) := by decide +kernel
theorem dX12_keepChain_168 : decode cX12_keepChain 168 = .ok (.iaload, 1) := by decide +kernel
theorem dX12_keepChain_169 : decode cX12_keepChain 169 = .ok (.imul, 1) := by decide +kernel
theorem dX12_keepChain_170 : decode cX12_keepChain 170 = .ok (.iadd, 1) := by decide +kernel
theorem dX12_keepChain_171 : decode cX12_keepChain 171 = .ok (.iload_n 2, 1) := by decide +kernel
theorem dX12_keepChain_172 : decode cX12_keepChain 172 = .ok (.iastore, 1) := by decide +kernel
theorem dX12_keepChain_173 : decode cX12_keepChain 173 = .ok (.aload_n 0, 1) := by decide +kernel
theorem dX12_keepChain_174 : decode cX12_keepChain 174 = .ok (.getfield 7, 3) := by decide +kernel
theorem dX12_keepChain_177 : decode cX12_keepChain 177 = .ok (.sipush 1685, 3) := by decide +kernel
theorem dX12_keepChain_180 : decode cX12_keepChain 180 = .ok (.iconst 2, 1) := by decide +kernel
theorem dX12_keepChain_181 : decode cX12_keepChain 181 = .ok (.aload_n 0, 1) := by decide +kernel
theorem dX12_keepChain_182 : decode cX12_keepChain 182 = .ok (.getfield 7, 3) := by decide +kernel
theorem dX12_keepChain_185 : decode cX12_keepChain 185 = .ok (.sipush 1539, 3) := by decide +kernel
theorem dX12_keepChain_188 : decode cX12_keepChain 188 = .ok (.iaload, 1) := by decide +kernel
theorem dX12_keepChain_189 : decode cX12_keepChain 189 = .ok (.imul, 1) := by decide +kernel
theorem dX12_keepChain_190 : decode cX12_keepChain 190 = .ok (.iadd, 1) := by decide +kernel
theorem dX12_keepChain_191 : decode cX12_keepChain 191 = .ok (.iconst 1, 1) := by decide +kernel
theorem dX12_keepChain_192 : decode cX12_keepChain 192 = .ok (.iadd, 1) := by decide +kernel
theorem dX12_keepChain_193 : decode cX12_keepChain 193 = .ok (.iload_n 3, 1) := by decide +kernel
theorem dX12_keepChain_194 : decode cX12_keepChain 194 = .ok (.iastore, 1) := by decide +kernel
theorem dX12_keepChain_195 : decode cX12_keepChain 195 = .ok (.aload_n 0, 1) := by decide +kernel
theorem dX12_keepChain_196 : decode cX12_keepChain 196 = .ok (.getfield 7, 3) := by decide +kernel
theorem dX12_keepChain_199 : decode cX12_keepChain 199 = .ok (.sipush 1539, 3) := by decide +kernel
theorem dX12_keepChain_202 : decode cX12_keepChain 202 = .ok (.dup2, 1) := by decide +kernel
theorem dX12_keepChain_203 : decode cX12_keepChain 203 = .ok (.iaload, 1) := by decide +kernel
theorem dX12_keepChain_204 : decode cX12_keepChain 204 = .ok (.iconst 1, 1) := by decide +kernel
theorem dX12_keepChain_205 : decode cX12_keepChain 205 = .ok (.iadd, 1) := by decide +kernel
theorem dX12_keepChain_206 : decode cX12_keepChain 206 = .ok (.iastore, 1) := by decide +kernel
theorem dX12_keepChain_207 : decode cX12_keepChain 207 = .ok (.return_, 1) := by decide +kernel
theorem dX12_doTake_0 : decode cX12_doTake 0 = .ok (.aload_n 0, 1) := by decide +kernel
theorem dX12_doTake_1 : decode cX12_doTake 1 = .ok (.iload_n 1, 1) := by decide +kernel
theorem dX12_doTake_2 : decode cX12_doTake 2 = .ok (.iload_n 2, 1) := by decide +kernel
theorem dX12_doTake_3 : decode cX12_doTake 3 = .ok (.invokevirtual 296, 3) := by decide +kernel
theorem dX12_doTake_6 : decode cX12_doTake 6 = .ok (.istore_n 3, 1) := by decide +kernel
theorem dX12_doTake_7 : decode cX12_doTake 7 = .ok (.aload_n 0, 1) := by decide +kernel
theorem dX12_doTake_8 : decode cX12_doTake 8 = .ok (.iload_n 3, 1) := by decide +kernel
theorem dX12_doTake_9 : decode cX12_doTake 9 = .ok (.invokevirtual 299, 3) := by decide +kernel
theorem dX12_doTake_12 : decode cX12_doTake 12 = .ok (.istore 4, 2) := by decide +kernel
theorem dX12_doTake_14 : decode cX12_doTake 14 = .ok (.iload 4, 2) := by decide +kernel
theorem dX12_doTake_16 : decode cX12_doTake 16 = .ok (.ifCond .lt 18, 3) := by decide +kernel
theorem dX12_doTake_19 : decode cX12_doTake 19 = .ok (.aload_n 0, 1) := by decide +kernel
theorem dX12_doTake_20 : decode cX12_doTake 20 = .ok (.iconst 1, 1) := by decide +kernel
theorem dX12_doTake_21 : decode cX12_doTake 21 = .ok (.iload_n 1, 1) := by decide +kernel
theorem dX12_doTake_22 : decode cX12_doTake 22 = .ok (.iload_n 2, 1) := by decide +kernel
theorem dX12_doTake_23 : decode cX12_doTake 23 = .ok (.aload_n 0, 1) := by decide +kernel
theorem dX12_doTake_24 : decode cX12_doTake 24 = .ok (.getfield 69, 3) := by decide +kernel
theorem dX12_doTake_27 : decode cX12_doTake 27 = .ok (.iload 4, 2) := by decide +kernel
theorem dX12_doTake_29 : decode cX12_doTake 29 = .ok (.iaload, 1) := by decide +kernel
theorem dX12_doTake_30 : decode cX12_doTake 30 = .ok (.invokevirtual 284, 3) := by decide +kernel
theorem dX12_doTake_33 : decode cX12_doTake 33 = .ok (.return_, 1) := by decide +kernel
theorem dX12_doTake_34 : decode cX12_doTake 34 = .ok (.iconst 2, 1) := by decide +kernel
theorem dX12_doTake_35 : decode cX12_doTake 35 = .ok (.aload_n 0, 1) := by decide +kernel
theorem dX12_doTake_36 : decode cX12_doTake 36 = .ok (.iload_n 3, 1) := by decide +kernel
theorem dX12_doTake_37 : decode cX12_doTake 37 = .ok (.invokevirtual 302, 3) := by decide +kernel
theorem dX12_doTake_40 : decode cX12_doTake 40 = .ok (.imul, 1) := by decide +kernel
theorem dX12_doTake_41 : decode cX12_doTake 41 = .ok (.aload_n 0, 1) := by decide +kernel
theorem dX12_doTake_42 : decode cX12_doTake 42 = .ok (.iload_n 1, 1) := by decide +kernel
theorem dX12_doTake_43 : decode cX12_doTake 43 = .ok (.iload_n 2, 1) := by decide +kernel
theorem dX12_doTake_44 : decode cX12_doTake 44 = .ok (.invokevirtual 250, 3) := by decide +kernel
theorem dX12_doTake_47 : decode cX12_doTake 47 = .ok (.iconst 1, 1) := by decide +kernel
theorem dX12_doTake_48 : decode cX12_doTake 48 = .ok (.if_icmp .ne 7, 3) := by decide +kernel
theorem dX12_doTake_51 : decode cX12_doTake 51 = .ok (.iconst 1, 1) := by decide +kernel
theorem dX12_doTake_52 : decode cX12_doTake 52 = .ok (.goto 4, 3) := by decide +kernel
theorem dX12_doTake_55 : decode cX12_doTake 55 = .ok (.iconst 0, 1) := by decide +kernel
theorem dX12_doTake_56 : decode cX12_doTake 56 = .ok (.iadd, 1) := by decide +kernel
theorem dX12_doTake_57 : decode cX12_doTake 57 = .ok (.istore 5, 2) := by decide +kernel
theorem dX12_doTake_59 : decode cX12_doTake 59 = .ok (.aload_n 0, 1) := by decide +kernel
theorem dX12_doTake_60 : decode cX12_doTake 60 = .ok (.iload 5, 2) := by decide +kernel
theorem dX12_doTake_62 : decode cX12_doTake 62 = .ok (.invokevirtual 305, 3) := by decide +kernel
theorem dX12_doTake_65 : decode cX12_doTake 65 = .ok (.aload_n 0, 1) := by decide +kernel
theorem dX12_doTake_66 : decode cX12_doTake 66 = .ok (.iload_n 1, 1) := by decide +kernel
theorem dX12_doTake_67 : decode cX12_doTake 67 = .ok (.iload_n 2, 1) := by decide +kernel
theorem dX12_doTake_68 : decode cX12_doTake 68 = .ok (.invokevirtual 250, 3) := by decide +kernel
theorem dX12_doTake_71 : decode cX12_doTake 71 = .ok (.iconst 3, 1) := by decide +kernel
theorem dX12_doTake_72 : decode cX12_doTake 72 = .ok (.if_icmp .eq 11, 3) := by decide +kernel
theorem dX12_doTake_75 : decode cX12_doTake 75 = .ok (.aload_n 0, 1) := by decide +kernel
theorem dX12_doTake_76 : decode cX12_doTake 76 = .ok (.iload_n 1, 1) := by decide +kernel
theorem dX12_doTake_77 : decode cX12_doTake 77 = .ok (.iload_n 2, 1) := by decide +kernel
theorem dX12_doTake_78 : decode cX12_doTake 78 = .ok (.iload 5, 2) := by decide +kernel
theorem dX12_doTake_80 : decode cX12_doTake 80 = .ok (.invokevirtual 308, 3) := by decide +kernel
theorem dX12_doTake_83 : decode cX12_doTake 83 = .ok (.aload_n 0, 1) := by decide +kernel
theorem dX12_doTake_84 : decode cX12_doTake 84 = .ok (.iload_n 1, 1) := by decide +kernel
theorem dX12_doTake_85 : decode cX12_doTake 85 = .ok (.iload_n 2, 1) := by decide +kernel
theorem dX12_doTake_86 : decode cX12_doTake 86 = .ok (.iload 5, 2) := by decide +kernel
theorem dX12_doTake_88 : decode cX12_doTake 88 = .ok (.invokevirtual 312, 3) := by decide +kernel
theorem dX12_doTake_91 : decode cX12_doTake 91 = .ok (.aload_n 0, 1) := by decide +kernel
theorem dX12_doTake_92 : decode cX12_doTake 92 = .ok (.iload_n 1, 1) := by decide +kernel
theorem dX12_doTake_93 : decode cX12_doTake 93 = .ok (.iload_n 2, 1) := by decide +kernel
theorem dX12_doTake_94 : decode cX12_doTake 94 = .ok (.bipush 6, 2) := by decide +kernel
theorem dX12_doTake_96 : decode cX12_doTake 96 = .ok (.iconst 1, 1) := by decide +kernel
theorem dX12_doTake_97 : decode cX12_doTake 97 = .ok (.iconst 4, 1) := by decide +kernel
theorem dX12_doTake_98 : decode cX12_doTake 98 = .ok (.invokevirtual 315, 3) := by decide +kernel
theorem dX12_doTake_101 : decode cX12_doTake 101 = .ok (.aload_n 0, 1) := by decide +kernel
theorem dX12_doTake_102 : decode cX12_doTake 102 = .ok (.iload_n 1, 1) := by decide +kernel
theorem dX12_doTake_103 : decode cX12_doTake 103 = .ok (.iload_n 2, 1) := by decide +kernel
theorem dX12_doTake_104 : decode cX12_doTake 104 = .ok (.bipush 7, 2) := by decide +kernel
theorem dX12_doTake_106 : decode cX12_doTake 106 = .ok (.iconst 2, 1) := by decide +kernel
theorem dX12_doTake_107 : decode cX12_doTake 107 = .ok (.bipush 8, 2) := by decide +kernel
theorem dX12_doTake_109 : decode cX12_doTake 109 = .ok (.invokevirtual 315, 3) := by decide +kernel
theorem dX12_doTake_112 : decode cX12_doTake 112 = .ok (.aload_n 0, 1) := by decide +kernel
theorem dX12_doTake_113 : decode cX12_doTake 113 = .ok (.getfield 66, 3) := by decide +kernel
theorem dX12_doTake_116 : decode cX12_doTake 116 = .ok (.aload_n 0, 1) := by decide +kernel
theorem dX12_doTake_117 : decode cX12_doTake 117 = .ok (.getfield 265, 3) := by decide +kernel
theorem dX12_doTake_120 : decode cX12_doTake 120 = .ok (.iload_n 3, 1) := by decide +kernel
theorem dX12_doTake_121 : decode cX12_doTake 121 = .ok (.iastore, 1) := by decide +kernel
theorem dX12_doTake_122 : decode cX12_doTake 122 = .ok (.aload_n 0, 1) := by decide +kernel
theorem dX12_doTake_123 : decode cX12_doTake 123 = .ok (.getfield 69, 3) := by decide +kernel
theorem dX12_doTake_126 : decode cX12_doTake 126 = .ok (.aload_n 0, 1) := by decide +kernel
theorem dX12_doTake_127 : decode cX12_doTake 127 = .ok (.getfield 265, 3) := by decide +kernel
theorem dX12_doTake_130 : decode cX12_doTake 130 = .ok (.iload 5, 2) := by decide +kernel
theorem dX12_doTake_132 : decode cX12_doTake 132 = .ok (.iastore, 1) := by decide +kernel
theorem dX12_doTake_133 : decode cX12_doTake 133 = .ok (.aload_n 0, 1) := by decide +kernel
theorem dX12_doTake_134 : decode cX12_doTake 134 = .ok (.dup, 1) := by decide +kernel
theorem dX12_doTake_135 : decode cX12_doTake 135 = .ok (.getfield 265, 3) := by decide +kernel
theorem dX12_doTake_138 : decode cX12_doTake 138 = .ok (.iconst 1, 1) := by decide +kernel
theorem dX12_doTake_139 : decode cX12_doTake 139 = .ok (.iadd, 1) := by decide +kernel
theorem dX12_doTake_140 : decode cX12_doTake 140 = .ok (.putfield 265, 3) := by decide +kernel
theorem dX12_doTake_143 : decode cX12_doTake 143 = .ok (.return_, 1) := by decide +kernel
theorem dX12_doDrop_0 : decode cX12_doDrop 0 = .ok (.aload_n 0, 1) := by decide +kernel
theorem dX12_doDrop_1 : decode cX12_doDrop 1 = .ok (.aload_n 0, 1) := by decide +kernel
theorem dX12_doDrop_2 : decode cX12_doDrop 2 = .ok (.iload_n 1, 1) := by decide +kernel
theorem dX12_doDrop_3 : decode cX12_doDrop 3 = .ok (.iload_n 2, 1) := by decide +kernel
theorem dX12_doDrop_4 : decode cX12_doDrop 4 = .ok (.invokevirtual 296, 3) := by decide +kernel
theorem dX12_doDrop_7 : decode cX12_doDrop 7 = .ok (.invokevirtual 299, 3) := by decide +kernel
theorem dX12_doDrop_10 : decode cX12_doDrop 10 = .ok (.istore_n 3, 1) := by decide +kernel
theorem dX12_doDrop_11 : decode cX12_doDrop 11 = .ok (.iload_n 3, 1) := by decide +kernel
theorem dX12_doDrop_12 : decode cX12_doDrop 12 = .ok (.ifCond .ge 24, 3) := by decide +kernel
theorem dX12_doDrop_15 : decode cX12_doDrop 15 = .ok (.aload_n 0, 1) := by decide +kernel
theorem dX12_doDrop_16 : decode cX12_doDrop 16 = .ok (.bipush 8, 2) := by decide +kernel
theorem dX12_doDrop_18 : decode cX12_doDrop 18 = .ok (.iload_n 1, 1) := by decide +kernel
theorem dX12_doDrop_19 : decode cX12_doDrop 19 = .ok (.iload_n 2, 1) := by decide +kernel
theorem dX12_doDrop_20 : decode cX12_doDrop 20 = .ok (.iconst 2, 1) := by decide +kernel
theorem dX12_doDrop_21 : decode cX12_doDrop 21 = .ok (.aload_n 0, 1) := by decide +kernel
theorem dX12_doDrop_22 : decode cX12_doDrop 22 = .ok (.aload_n 0, 1) := by decide +kernel
theorem dX12_doDrop_23 : decode cX12_doDrop 23 = .ok (.iload_n 1, 1) := by decide +kernel
theorem dX12_doDrop_24 : decode cX12_doDrop 24 = .ok (.iload_n 2, 1) := by decide +kernel
theorem dX12_doDrop_25 : decode cX12_doDrop 25 = .ok (.invokevirtual 296, 3) := by decide +kernel
theorem dX12_doDrop_28 : decode cX12_doDrop 28 = .ok (.invokevirtual 302, 3) := by decide +kernel
theorem dX12_doDrop_31 : decode cX12_doDrop 31 = .ok (.imul, 1) := by decide +kernel
theorem dX12_doDrop_32 : decode cX12_doDrop 32 = .ok (.invokevirtual 284, 3) := by decide +kernel
theorem dX12_doDrop_35 : decode cX12_doDrop 35 = .ok (.return_, 1) := by decide +kernel
theorem dX12_doDrop_36 : decode cX12_doDrop 36 = .ok (.aload_n 0, 1) := by decide +kernel
theorem dX12_doDrop_37 : decode cX12_doDrop 37 = .ok (.dup, 1) := by decide +kernel
theorem dX12_doDrop_38 : decode cX12_doDrop 38 = .ok (.getfield 265, 3) := by decide +kernel
theorem dX12_doDrop_41 : decode cX12_doDrop 41 = .ok (.iconst 1, 1) := by decide +kernel
theorem dX12_doDrop_42 : decode cX12_doDrop 42 = .ok (.isub, 1) := by decide +kernel
theorem dX12_doDrop_43 : decode cX12_doDrop 43 = .ok (.putfield 265, 3) := by decide +kernel
theorem dX12_doDrop_46 : decode cX12_doDrop 46 = .ok (.iload_n 3, 1) := by decide +kernel
theorem dX12_doDrop_47 : decode cX12_doDrop 47 = .ok (.istore 4, 2) := by decide +kernel
theorem dX12_doDrop_49 : decode cX12_doDrop 49 = .ok (.iload 4, 2) := by decide +kernel
theorem dX12_doDrop_51 : decode cX12_doDrop 51 = .ok (.aload_n 0, 1) := by decide +kernel
theorem dX12_doDrop_52 : decode cX12_doDrop 52 = .ok (.getfield 265, 3) := by decide +kernel
theorem dX12_doDrop_55 : decode cX12_doDrop 55 = .ok (.if_icmp .ge 41, 3) := by decide +kernel
theorem dX12_doDrop_58 : decode cX12_doDrop 58 = .ok (.aload_n 0, 1) := by decide +kernel
theorem dX12_doDrop_59 : decode cX12_doDrop 59 = .ok (.getfield 66, 3) := by decide +kernel
theorem dX12_doDrop_62 : decode cX12_doDrop 62 = .ok (.iload 4, 2) := by decide +kernel
theorem dX12_doDrop_64 : decode cX12_doDrop 64 = .ok (.aload_n 0, 1) := by decide +kernel
theorem dX12_doDrop_65 : decode cX12_doDrop 65 = .ok (.getfield 66, 3) := by decide +kernel
theorem dX12_doDrop_68 : decode cX12_doDrop 68 = .ok (.iload 4, 2) := by decide +kernel
theorem dX12_doDrop_70 : decode cX12_doDrop 70 = .ok (.iconst 1, 1) := by decide +kernel
theorem dX12_doDrop_71 : decode cX12_doDrop 71 = .ok (.iadd, 1) := by decide +kernel
theorem dX12_doDrop_72 : decode cX12_doDrop 72 = .ok (.iaload, 1) := by decide +kernel
theorem dX12_doDrop_73 : decode cX12_doDrop 73 = .ok (.iastore, 1) := by decide +kernel
theorem dX12_doDrop_74 : decode cX12_doDrop 74 = .ok (.aload_n 0, 1) := by decide +kernel
theorem dX12_doDrop_75 : decode cX12_doDrop 75 = .ok (.getfield 69, 3) := by decide +kernel
theorem dX12_doDrop_78 : decode cX12_doDrop 78 = .ok (.iload 4, 2) := by decide +kernel
theorem dX12_doDrop_80 : decode cX12_doDrop 80 = .ok (.aload_n 0, 1) := by decide +kernel
theorem dX12_doDrop_81 : decode cX12_doDrop 81 = .ok (.getfield 69, 3) := by decide +kernel
theorem dX12_doDrop_84 : decode cX12_doDrop 84 = .ok (.iload 4, 2) := by decide +kernel
theorem dX12_doDrop_86 : decode cX12_doDrop 86 = .ok (.iconst 1, 1) := by decide +kernel
theorem dX12_doDrop_87 : decode cX12_doDrop 87 = .ok (.iadd, 1) := by decide +kernel
theorem dX12_doDrop_88 : decode cX12_doDrop 88 = .ok (.iaload, 1) := by decide +kernel
theorem dX12_doDrop_89 : decode cX12_doDrop 89 = .ok (.iastore, 1) := by decide +kernel
theorem dX12_doDrop_90 : decode cX12_doDrop 90 = .ok (.iinc 4 1, 3) := by decide +kernel
theorem dX12_doDrop_93 : decode cX12_doDrop 93 = .ok (.goto (-44), 3) := by decide +kernel
theorem dX12_doDrop_96 : decode cX12_doDrop 96 = .ok (.return_, 1) := by decide +kernel
theorem dX12_goRun_0 : decode cX12_goRun 0 = .ok (.aload_n 0, 1) := by decide +kernel
theorem dX12_goRun_1 : decode cX12_goRun 1 = .ok (.iconst 0, 1) := by decide +kernel
theorem dX12_goRun_2 : decode cX12_goRun 2 = .ok (.putfield 265, 3) := by decide +kernel
theorem dX12_goRun_5 : decode cX12_goRun 5 = .ok (.iconst 0, 1) := by decide +kernel
theorem dX12_goRun_6 : decode cX12_goRun 6 = .ok (.istore_n 2, 1) := by decide +kernel
theorem dX12_goRun_7 : decode cX12_goRun 7 = .ok (.iload_n 2, 1) := by decide +kernel
theorem dX12_goRun_8 : decode cX12_goRun 8 = .ok (.aload_n 0, 1) := by decide +kernel
theorem dX12_goRun_9 : decode cX12_goRun 9 = .ok (.iload_n 1, 1) := by decide +kernel
theorem dX12_goRun_10 : decode cX12_goRun 10 = .ok (.invokevirtual 319, 3) := by decide +kernel
theorem dX12_goRun_13 : decode cX12_goRun 13 = .ok (.if_icmp .ge 44, 3) := by decide +kernel
theorem dX12_goRun_16 : decode cX12_goRun 16 = .ok (.aload_n 0, 1) := by decide +kernel
theorem dX12_goRun_17 : decode cX12_goRun 17 = .ok (.iload_n 1, 1) := by decide +kernel
theorem dX12_goRun_18 : decode cX12_goRun 18 = .ok (.iload_n 2, 1) := by decide +kernel
theorem dX12_goRun_19 : decode cX12_goRun 19 = .ok (.invokevirtual 250, 3) := by decide +kernel
theorem dX12_goRun_22 : decode cX12_goRun 22 = .ok (.iconst 4, 1) := by decide +kernel
theorem dX12_goRun_23 : decode cX12_goRun 23 = .ok (.if_icmp .ge 12, 3) := by decide +kernel
theorem dX12_goRun_26 : decode cX12_goRun 26 = .ok (.aload_n 0, 1) := by decide +kernel
theorem dX12_goRun_27 : decode cX12_goRun 27 = .ok (.iload_n 1, 1) := by decide +kernel
theorem dX12_goRun_28 : decode cX12_goRun 28 = .ok (.iload_n 2, 1) := by decide +kernel
theorem dX12_goRun_29 : decode cX12_goRun 29 = .ok (.invokevirtual 322, 3) := by decide +kernel
theorem dX12_goRun_32 : decode cX12_goRun 32 = .ok (.goto 19, 3) := by decide +kernel
theorem dX12_goRun_35 : decode cX12_goRun 35 = .ok (.aload_n 0, 1) := by decide +kernel
theorem dX12_goRun_36 : decode cX12_goRun 36 = .ok (.iload_n 1, 1) := by decide +kernel
theorem dX12_goRun_37 : decode cX12_goRun 37 = .ok (.iload_n 2, 1) := by decide +kernel
theorem dX12_goRun_38 : decode cX12_goRun 38 = .ok (.invokevirtual 250, 3) := by decide +kernel
theorem dX12_goRun_41 : decode cX12_goRun 41 = .ok (.iconst 4, 1) := by decide +kernel
theorem dX12_goRun_42 : decode cX12_goRun 42 = .ok (.if_icmp .ne 9, 3) := by decide +kernel
theorem dX12_goRun_45 : decode cX12_goRun 45 = .ok (.aload_n 0, 1) := by decide +kernel
theorem dX12_goRun_46 : decode cX12_goRun 46 = .ok (.iload_n 1, 1) := by decide +kernel
theorem dX12_goRun_47 : decode cX12_goRun 47 = .ok (.iload_n 2, 1) := by decide +kernel
theorem dX12_goRun_48 : decode cX12_goRun 48 = .ok (.invokevirtual 325, 3) := by decide +kernel
theorem dX12_goRun_51 : decode cX12_goRun 51 = .ok (.iinc 2 1, 3) := by decide +kernel
theorem dX12_goRun_54 : decode cX12_goRun 54 = .ok (.goto (-47), 3) := by decide +kernel
theorem dX12_goRun_57 : decode cX12_goRun 57 = .ok (.iconst 0, 1) := by decide +kernel
theorem dX12_goRun_58 : decode cX12_goRun 58 = .ok (.istore_n 2, 1) := by decide +kernel
theorem dX12_goRun_59 : decode cX12_goRun 59 = .ok (.iload_n 2, 1) := by decide +kernel
theorem dX12_goRun_60 : decode cX12_goRun 60 = .ok (.aload_n 0, 1) := by decide +kernel
theorem dX12_goRun_61 : decode cX12_goRun 61 = .ok (.getfield 265, 3) := by decide +kernel
theorem dX12_goRun_64 : decode cX12_goRun 64 = .ok (.if_icmp .ge 27, 3) := by decide +kernel
theorem dX12_goRun_67 : decode cX12_goRun 67 = .ok (.aload_n 0, 1) := by decide +kernel
theorem dX12_goRun_68 : decode cX12_goRun 68 = .ok (.bipush 9, 2) := by decide +kernel
theorem dX12_goRun_70 : decode cX12_goRun 70 = .ok (.iload_n 1, 1) := by decide +kernel
theorem dX12_goRun_71 : decode cX12_goRun 71 = .ok (.aload_n 0, 1) := by decide +kernel
theorem dX12_goRun_72 : decode cX12_goRun 72 = .ok (.iload_n 1, 1) := by decide +kernel
theorem dX12_goRun_73 : decode cX12_goRun 73 = .ok (.invokevirtual 319, 3) := by decide +kernel
theorem dX12_goRun_76 : decode cX12_goRun 76 = .ok (.aload_n 0, 1) := by decide +kernel
theorem dX12_goRun_77 : decode cX12_goRun 77 = .ok (.getfield 69, 3) := by decide +kernel
theorem dX12_goRun_80 : decode cX12_goRun 80 = .ok (.iload_n 2, 1) := by decide +kernel
theorem dX12_goRun_81 : decode cX12_goRun 81 = .ok (.iaload, 1) := by decide +kernel
theorem dX12_goRun_82 : decode cX12_goRun 82 = .ok (.invokevirtual 284, 3) := by decide +kernel
theorem dX12_goRun_85 : decode cX12_goRun 85 = .ok (.iinc 2 1, 3) := by decide +kernel
theorem dX12_goRun_88 : decode cX12_goRun 88 = .ok (.goto (-29), 3) := by decide +kernel
theorem dX12_goRun_91 : decode cX12_goRun 91 = .ok (.aload_n 0, 1) := by decide +kernel
theorem dX12_goRun_92 : decode cX12_goRun 92 = .ok (.getfield 7, 3) := by decide +kernel
theorem dX12_goRun_95 : decode cX12_goRun 95 = .ok (.sipush 1533, 3) := by decide +kernel
theorem dX12_goRun_98 : decode cX12_goRun 98 = .ok (.iload_n 1, 1) := by decide +kernel
theorem dX12_goRun_99 : decode cX12_goRun 99 = .ok (.iadd, 1) := by decide +kernel
theorem dX12_goRun_100 : decode cX12_goRun 100 = .ok (.dup2, 1) := by decide +kernel
theorem dX12_goRun_101 : decode cX12_goRun 101 = .ok (.iaload, 1) := by decide +kernel
theorem dX12_goRun_102 : decode cX12_goRun 102 = .ok (.iconst 1, 1) := by decide +kernel
theorem dX12_goRun_103 : decode cX12_goRun 103 = .ok (.iadd, 1) := by decide +kernel
theorem dX12_goRun_104 : decode cX12_goRun 104 = .ok (.iastore, 1) := by decide +kernel
theorem dX12_goRun_105 : decode cX12_goRun 105 = .ok (.return_, 1) := by decide +kernel
theorem dX12_runs_0 : decode cX12_runs 0 = .ok (.aload_n 0, 1) := by decide +kernel
theorem dX12_runs_1 : decode cX12_runs 1 = .ok (.iload_n 1, 1) := by decide +kernel
theorem dX12_runs_2 : decode cX12_runs 2 = .ok (.invokevirtual 328, 3) := by decide +kernel
theorem dX12_runs_5 : decode cX12_runs 5 = .ok (.ifCond .ne 5, 3) := by decide +kernel
theorem dX12_runs_8 : decode cX12_runs 8 = .ok (.iconst (-1), 1) := by decide +kernel
theorem dX12_runs_9 : decode cX12_runs 9 = .ok (.ireturn, 1) := by decide +kernel
theorem dX12_runs_10 : decode cX12_runs 10 = .ok (.aload_n 0, 1) := by decide +kernel
theorem dX12_runs_11 : decode cX12_runs 11 = .ok (.invokevirtual 331, 3) := by decide +kernel
theorem dX12_runs_14 : decode cX12_runs 14 = .ok (.aload_n 0, 1) := by decide +kernel
theorem dX12_runs_15 : decode cX12_runs 15 = .ok (.getfield 7, 3) := by decide +kernel
theorem dX12_runs_18 : decode cX12_runs 18 = .ok (.sipush 272, 3) := by decide +kernel
theorem dX12_runs_21 : decode cX12_runs 21 = .ok (.iaload, 1) := by decide +kernel
theorem dX12_runs_22 : decode cX12_runs 22 = .ok (.istore_n 2, 1) := by decide +kernel
theorem dX12_runs_23 : decode cX12_runs 23 = .ok (.aload_n 0, 1) := by decide +kernel
theorem dX12_runs_24 : decode cX12_runs 24 = .ok (.iload_n 1, 1) := by decide +kernel
theorem dX12_runs_25 : decode cX12_runs 25 = .ok (.invokevirtual 334, 3) := by decide +kernel
theorem dX12_runs_28 : decode cX12_runs 28 = .ok (.aload_n 0, 1) := by decide +kernel
theorem dX12_runs_29 : decode cX12_runs 29 = .ok (.getfield 7, 3) := by decide +kernel
theorem dX12_runs_32 : decode cX12_runs 32 = .ok (.sipush 272, 3) := by decide +kernel
theorem dX12_runs_35 : decode cX12_runs 35 = .ok (.iaload, 1) := by decide +kernel
theorem dX12_runs_36 : decode cX12_runs 36 = .ok (.iload_n 2, 1) := by decide +kernel
theorem dX12_runs_37 : decode cX12_runs 37 = .ok (.isub, 1) := by decide +kernel
theorem dX12_runs_38 : decode cX12_runs 38 = .ok (.ireturn, 1) := by decide +kernel
theorem dX12_forget_0 : decode cX12_forget 0 = .ok (.aload_n 0, 1) := by decide +kernel
theorem dX12_forget_1 : decode cX12_forget 1 = .ok (.invokevirtual 331, 3) := by decide +kernel
theorem dX12_forget_4 : decode cX12_forget 4 = .ok (.aload_n 0, 1) := by decide +kernel
theorem dX12_forget_5 : decode cX12_forget 5 = .ok (.getfield 7, 3) := by decide +kernel
theorem dX12_forget_8 : decode cX12_forget 8 = .ok (.sipush 272, 3) := by decide +kernel
theorem dX12_forget_11 : decode cX12_forget 11 = .ok (.iaload, 1) := by decide +kernel
theorem dX12_forget_12 : decode cX12_forget 12 = .ok (.istore_n 1, 1) := by decide +kernel
theorem dX12_forget_13 : decode cX12_forget 13 = .ok (.aload_n 0, 1) := by decide +kernel
theorem dX12_forget_14 : decode cX12_forget 14 = .ok (.invokevirtual 238, 3) := by decide +kernel
theorem dX12_forget_17 : decode cX12_forget 17 = .ok (.iload_n 1, 1) := by decide +kernel
theorem dX12_forget_18 : decode cX12_forget 18 = .ok (.ireturn, 1) := by decide +kernel
theorem dX12_swapAt_0 : decode cX12_swapAt 0 = .ok (.aload_n 0, 1) := by decide +kernel
theorem dX12_swapAt_1 : decode cX12_swapAt 1 = .ok (.getfield 7, 3) := by decide +kernel
theorem dX12_swapAt_4 : decode cX12_swapAt 4 = .ok (.iload_n 1, 1) := by decide +kernel
theorem dX12_swapAt_5 : decode cX12_swapAt 5 = .ok (.iaload, 1) := by decide +kernel
theorem dX12_swapAt_6 : decode cX12_swapAt 6 = .ok (.istore_n 2, 1) := by decide +kernel
theorem dX12_swapAt_7 : decode cX12_swapAt 7 = .ok (.aload_n 0, 1) := by decide +kernel
theorem dX12_swapAt_8 : decode cX12_swapAt 8 = .ok (.getfield 7, 3) := by decide +kernel
theorem dX12_swapAt_11 : decode cX12_swapAt 11 = .ok (.iload_n 1, 1) := by decide +kernel
theorem dX12_swapAt_12 : decode cX12_swapAt 12 = .ok (.aload_n 0, 1) := by decide +kernel
theorem dX12_swapAt_13 : decode cX12_swapAt 13 = .ok (.getfield 7, 3) := by decide +kernel
theorem dX12_swapAt_16 : decode cX12_swapAt 16 = .ok (.iload_n 1, 1) := by decide +kernel
theorem dX12_swapAt_17 : decode cX12_swapAt 17 = .ok (.iconst 1, 1) := by decide +kernel
theorem dX12_swapAt_18 : decode cX12_swapAt 18 = .ok (.iadd, 1) := by decide +kernel
theorem dX12_swapAt_19 : decode cX12_swapAt 19 = .ok (.iaload, 1) := by decide +kernel
theorem dX12_swapAt_20 : decode cX12_swapAt 20 = .ok (.iastore, 1) := by decide +kernel
theorem dX12_swapAt_21 : decode cX12_swapAt 21 = .ok (.aload_n 0, 1) := by decide +kernel
theorem dX12_swapAt_22 : decode cX12_swapAt 22 = .ok (.getfield 7, 3) := by decide +kernel
theorem dX12_swapAt_25 : decode cX12_swapAt 25 = .ok (.iload_n 1, 1) := by decide +kernel
theorem dX12_swapAt_26 : decode cX12_swapAt 26 = .ok (.iconst 1, 1) := by decide +kernel
theorem dX12_swapAt_27 : decode cX12_swapAt 27 = .ok (.iadd, 1) := by decide +kernel
theorem dX12_swapAt_28 : decode cX12_swapAt 28 = .ok (.iload_n 2, 1) := by decide +kernel
theorem dX12_swapAt_29 : decode cX12_swapAt 29 = .ok (.iastore, 1) := by decide +kernel
theorem dX12_swapAt_30 : decode cX12_swapAt 30 = .ok (.return_, 1) := by decide +kernel
theorem dX12_swapSteps_0 : decode cX12_swapSteps 0 = .ok (.aload_n 0, 1) := by decide +kernel
theorem dX12_swapSteps_1 : decode cX12_swapSteps 1 = .ok (.sipush 1541, 3) := by decide +kernel
theorem dX12_swapSteps_4 : decode cX12_swapSteps 4 = .ok (.bipush 12, 2) := by decide +kernel
theorem dX12_swapSteps_6 : decode cX12_swapSteps 6 = .ok (.iload_n 1, 1) := by decide +kernel
theorem dX12_swapSteps_7 : decode cX12_swapSteps 7 = .ok (.imul, 1) := by decide +kernel
theorem dX12_swapSteps_8 : decode cX12_swapSteps 8 = .ok (.iadd, 1) := by decide +kernel
theorem dX12_swapSteps_9 : decode cX12_swapSteps 9 = .ok (.iload_n 2, 1) := by decide +kernel
theorem dX12_swapSteps_10 : decode cX12_swapSteps 10 = .ok (.iadd, 1) := by decide +kernel
theorem dX12_swapSteps_11 : decode cX12_swapSteps 11 = .ok (.invokevirtual 337, 3) := by decide +kernel
theorem dX12_swapSteps_14 : decode cX12_swapSteps 14 = .ok (.aload_n 0, 1) := by decide +kernel
theorem dX12_swapSteps_15 : decode cX12_swapSteps 15 = .ok (.sipush 1613, 3) := by decide +kernel
theorem dX12_swapSteps_18 : decode cX12_swapSteps 18 = .ok (.bipush 12, 2) := by decide +kernel
theorem dX12_swapSteps_20 : decode cX12_swapSteps 20 = .ok (.iload_n 1, 1) := by decide +kernel
theorem dX12_swapSteps_21 : decode cX12_swapSteps 21 = .ok (.imul, 1) := by decide +kernel
theorem dX12_swapSteps_22 : decode cX12_swapSteps 22 = .ok (.iadd, 1) := by decide +kernel
theorem dX12_swapSteps_23 : decode cX12_swapSteps 23 = .ok (.iload_n 2, 1) := by decide +kernel
theorem dX12_swapSteps_24 : decode cX12_swapSteps 24 = .ok (.iadd, 1) := by decide +kernel
theorem dX12_swapSteps_25 : decode cX12_swapSteps 25 = .ok (.invokevirtual 337, 3) := by decide +kernel
theorem dX12_swapSteps_28 : decode cX12_swapSteps 28 = .ok (.return_, 1) := by decide +kernel
theorem dX12_isPair_0 : decode cX12_isPair 0 = .ok (.aload_n 0, 1) := by decide +kernel
theorem dX12_isPair_1 : decode cX12_isPair 1 = .ok (.iload_n 1, 1) := by decide +kernel
theorem dX12_isPair_2 : decode cX12_isPair 2 = .ok (.invokevirtual 328, 3) := by decide +kernel
theorem dX12_isPair_5 : decode cX12_isPair 5 = .ok (.ifCond .eq 22, 3) := by decide +kernel
theorem dX12_isPair_8 : decode cX12_isPair 8 = .ok (.iload_n 2, 1) := by decide +kernel
theorem dX12_isPair_9 : decode cX12_isPair 9 = .ok (.iconst 0, 1) := by decide +kernel
theorem dX12_isPair_10 : decode cX12_isPair 10 = .ok (.aload_n 0, 1) := by decide +kernel
theorem dX12_isPair_11 : decode cX12_isPair 11 = .ok (.iload_n 1, 1) := by decide +kernel
theorem dX12_isPair_12 : decode cX12_isPair 12 = .ok (.invokevirtual 319, 3) := by decide +kernel
theorem dX12_isPair_15 : decode cX12_isPair 15 = .ok (.iconst 2, 1) := by decide +kernel
theorem dX12_isPair_16 : decode cX12_isPair 16 = .ok (.isub, 1) := by decide +kernel
theorem dX12_isPair_17 : decode cX12_isPair 17 = .ok (.invokestatic 225, 3) := by decide +kernel
theorem dX12_isPair_20 : decode cX12_isPair 20 = .ok (.ifCond .eq 7, 3) := by decide +kernel
theorem dX12_isPair_23 : decode cX12_isPair 23 = .ok (.iconst 1, 1) := by decide +kernel
theorem dX12_isPair_24 : decode cX12_isPair 24 = .ok (.goto 4, 3) := by decide +kernel
theorem dX12_isPair_27 : decode cX12_isPair 27 = .ok (.iconst 0, 1) := by decide +kernel
theorem dX12_isPair_28 : decode cX12_isPair 28 = .ok (.ireturn, 1) := by decide +kernel
theorem dX12_swap_0 : decode cX12_swap 0 = .ok (.aload_n 0, 1) := by decide +kernel
theorem dX12_swap_1 : decode cX12_swap 1 = .ok (.iload_n 1, 1) := by decide +kernel
theorem dX12_swap_2 : decode cX12_swap 2 = .ok (.iload_n 2, 1) := by decide +kernel
theorem dX12_swap_3 : decode cX12_swap 3 = .ok (.invokevirtual 340, 3) := by decide +kernel
theorem dX12_swap_6 : decode cX12_swap 6 = .ok (.ifCond .ne 5, 3) := by decide +kernel
theorem dX12_swap_9 : decode cX12_swap 9 = .ok (.iconst 0, 1) := by decide +kernel
theorem dX12_swap_10 : decode cX12_swap 10 = .ok (.ireturn, 1) := by decide +kernel
theorem dX12_swap_11 : decode cX12_swap 11 = .ok (.aload_n 0, 1) := by decide +kernel
theorem dX12_swap_12 : decode cX12_swap 12 = .ok (.invokevirtual 331, 3) := by decide +kernel
theorem dX12_swap_15 : decode cX12_swap 15 = .ok (.aload_n 0, 1) := by decide +kernel
theorem dX12_swap_16 : decode cX12_swap 16 = .ok (.iload_n 1, 1) := by decide +kernel
theorem dX12_swap_17 : decode cX12_swap 17 = .ok (.iload_n 2, 1) := by decide +kernel
theorem dX12_swap_18 : decode cX12_swap 18 = .ok (.invokevirtual 343, 3) := by decide +kernel
theorem dX12_swap_21 : decode cX12_swap 21 = .ok (.iconst 1, 1) := by decide +kernel
theorem dX12_swap_22 : decode cX12_swap 22 = .ok (.ireturn, 1) := by decide +kernel
theorem dX12_lock_0 : decode cX12_lock 0 = .ok (.iload_n 1, 1) := by decide +kernel
theorem dX12_lock_1 : decode cX12_lock 1 = .ok (.iconst 0, 1) := by decide +kernel
theorem dX12_lock_2 : decode cX12_lock 2 = .ok (.aload_n 0, 1) := by decide +kernel
theorem dX12_lock_3 : decode cX12_lock 3 = .ok (.getfield 16, 3) := by decide +kernel
theorem dX12_lock_6 : decode cX12_lock 6 = .ok (.aload_n 0, 1) := by decide +kernel
theorem dX12_lock_7 : decode cX12_lock 7 = .ok (.getfield 229, 3) := by decide +kernel
theorem dX12_lock_10 : decode cX12_lock 10 = .ok (.iaload, 1) := by decide +kernel
theorem dX12_lock_11 : decode cX12_lock 11 = .ok (.iconst 1, 1) := by decide +kernel
theorem dX12_lock_12 : decode cX12_lock 12 = .ok (.isub, 1) := by decide +kernel
theorem dX12_lock_13 : decode cX12_lock 13 = .ok (.invokestatic 225, 3) := by decide +kernel
theorem dX12_lock_16 : decode cX12_lock 16 = .ok (.ifCond .eq 11, 3) := by decide +kernel
theorem dX12_lock_19 : decode cX12_lock 19 = .ok (.aload_n 0, 1) := by decide +kernel
theorem dX12_lock_20 : decode cX12_lock 20 = .ok (.iload_n 1, 1) := by decide +kernel
theorem dX12_lock_21 : decode cX12_lock 21 = .ok (.invokevirtual 302, 3) := by decide +kernel
theorem dX12_lock_24 : decode cX12_lock 24 = .ok (.goto 4, 3) := by decide +kernel
theorem dX12_lock_27 : decode cX12_lock 27 = .ok (.iconst (-1), 1) := by decide +kernel
theorem dX12_lock_28 : decode cX12_lock 28 = .ok (.ireturn, 1) := by decide +kernel
theorem dX12_program_0 : decode cX12_program 0 = .ok (.aload_n 0, 1) := by decide +kernel
theorem dX12_program_1 : decode cX12_program 1 = .ok (.iload_n 1, 1) := by decide +kernel
theorem dX12_program_2 : decode cX12_program 2 = .ok (.invokevirtual 328, 3) := by decide +kernel
theorem dX12_program_5 : decode cX12_program 5 = .ok (.ifCond .ne 5, 3) := by decide +kernel
theorem dX12_program_8 : decode cX12_program 8 = .ok (.iconst (-1), 1) := by decide +kernel
theorem dX12_program_9 : decode cX12_program 9 = .ok (.ireturn, 1) := by decide +kernel
theorem dX12_program_10 : decode cX12_program 10 = .ok (.iload_n 2, 1) := by decide +kernel
theorem dX12_program_11 : decode cX12_program 11 = .ok (.ifCond .ne 11, 3) := by decide +kernel
theorem dX12_program_14 : decode cX12_program 14 = .ok (.aload_n 0, 1) := by decide +kernel
theorem dX12_program_15 : decode cX12_program 15 = .ok (.iload_n 1, 1) := by decide +kernel
theorem dX12_program_16 : decode cX12_program 16 = .ok (.invokevirtual 247, 3) := by decide +kernel
theorem dX12_program_19 : decode cX12_program 19 = .ok (.goto 35, 3) := by decide +kernel
theorem dX12_program_22 : decode cX12_program 22 = .ok (.iload_n 2, 1) := by decide +kernel
theorem dX12_program_23 : decode cX12_program 23 = .ok (.iconst 1, 1) := by decide +kernel
theorem dX12_program_24 : decode cX12_program 24 = .ok (.if_icmp .ne 11, 3) := by decide +kernel
theorem dX12_program_27 : decode cX12_program 27 = .ok (.aload_n 0, 1) := by decide +kernel
theorem dX12_program_28 : decode cX12_program 28 = .ok (.iload_n 1, 1) := by decide +kernel
theorem dX12_program_29 : decode cX12_program 29 = .ok (.invokevirtual 319, 3) := by decide +kernel
theorem dX12_program_32 : decode cX12_program 32 = .ok (.goto 22, 3) := by decide +kernel
theorem dX12_program_35 : decode cX12_program 35 = .ok (.iload_n 2, 1) := by decide +kernel
theorem dX12_program_36 : decode cX12_program 36 = .ok (.iconst 2, 1) := by decide +kernel
theorem dX12_program_37 : decode cX12_program 37 = .ok (.if_icmp .ne 16, 3) := by decide +kernel
theorem dX12_program_40 : decode cX12_program 40 = .ok (.aload_n 0, 1) := by decide +kernel
theorem dX12_program_41 : decode cX12_program 41 = .ok (.getfield 7, 3) := by decide +kernel
theorem dX12_program_44 : decode cX12_program 44 = .ok (.sipush 1533, 3) := by decide +kernel
theorem dX12_program_47 : decode cX12_program 47 = .ok (.iload_n 1, 1) := by decide +kernel
theorem dX12_program_48 : decode cX12_program 48 = .ok (.iadd, 1) := by decide +kernel
theorem dX12_program_49 : decode cX12_program 49 = .ok (.iaload, 1) := by decide +kernel
theorem dX12_program_50 : decode cX12_program 50 = .ok (.goto 4, 3) := by decide +kernel
theorem dX12_program_53 : decode cX12_program 53 = .ok (.iconst (-1), 1) := by decide +kernel
theorem dX12_program_54 : decode cX12_program 54 = .ok (.ireturn, 1) := by decide +kernel
theorem dX12_step_0 : decode cX12_step 0 = .ok (.aload_n 0, 1) := by decide +kernel
theorem dX12_step_1 : decode cX12_step 1 = .ok (.iload_n 1, 1) := by decide +kernel
theorem dX12_step_2 : decode cX12_step 2 = .ok (.invokevirtual 328, 3) := by decide +kernel
theorem dX12_step_5 : decode cX12_step 5 = .ok (.ifCond .eq 27, 3) := by decide +kernel
theorem dX12_step_8 : decode cX12_step 8 = .ok (.iload_n 2, 1) := by decide +kernel
theorem dX12_step_9 : decode cX12_step 9 = .ok (.iconst 0, 1) := by decide +kernel
theorem dX12_step_10 : decode cX12_step 10 = .ok (.aload_n 0, 1) := by decide +kernel
theorem dX12_step_11 : decode cX12_step 11 = .ok (.iload_n 1, 1) := by decide +kernel
theorem dX12_step_12 : decode cX12_step 12 = .ok (.invokevirtual 319, 3) := by decide +kernel
theorem dX12_step_15 : decode cX12_step 15 = .ok (.iconst 1, 1) := by decide +kernel
theorem dX12_step_16 : decode cX12_step 16 = .ok (.isub, 1) := by decide +kernel
theorem dX12_step_17 : decode cX12_step 17 = .ok (.invokestatic 225, 3) := by decide +kernel
theorem dX12_step_20 : decode cX12_step 20 = .ok (.ifCond .eq 12, 3) := by decide +kernel
theorem dX12_step_23 : decode cX12_step 23 = .ok (.iload_n 3, 1) := by decide +kernel
theorem dX12_step_24 : decode cX12_step 24 = .ok (.iconst 0, 1) := by decide +kernel
theorem dX12_step_25 : decode cX12_step 25 = .ok (.iconst 1, 1) := by decide +kernel
theorem dX12_step_26 : decode cX12_step 26 = .ok (.invokestatic 225, 3) := by decide +kernel
theorem dX12_step_29 : decode cX12_step 29 = .ok (.ifCond .ne 6, 3) := by decide +kernel
theorem dX12_step_32 : decode cX12_step 32 = .ok (.bipush (-2), 2) := by decide +kernel
theorem dX12_step_34 : decode cX12_step 34 = .ok (.ireturn, 1) := by decide +kernel
theorem dX12_step_35 : decode cX12_step 35 = .ok (.iload_n 3, 1) := by decide +kernel
theorem dX12_step_36 : decode cX12_step 36 = .ok (.ifCond .ne 12, 3) := by decide +kernel
theorem dX12_step_39 : decode cX12_step 39 = .ok (.aload_n 0, 1) := by decide +kernel
theorem dX12_step_40 : decode cX12_step 40 = .ok (.iload_n 1, 1) := by decide +kernel
theorem dX12_step_41 : decode cX12_step 41 = .ok (.iload_n 2, 1) := by decide +kernel
theorem dX12_step_42 : decode cX12_step 42 = .ok (.invokevirtual 250, 3) := by decide +kernel
theorem dX12_step_45 : decode cX12_step 45 = .ok (.goto 9, 3) := by decide +kernel
theorem dX12_step_48 : decode cX12_step 48 = .ok (.aload_n 0, 1) := by decide +kernel
theorem dX12_step_49 : decode cX12_step 49 = .ok (.iload_n 1, 1) := by decide +kernel
theorem dX12_step_50 : decode cX12_step 50 = .ok (.iload_n 2, 1) := by decide +kernel
theorem dX12_step_51 : decode cX12_step 51 = .ok (.invokevirtual 296, 3) := by decide +kernel
theorem dX12_step_54 : decode cX12_step 54 = .ok (.ireturn, 1) := by decide +kernel
theorem dX12_edge_0 : decode cX12_edge 0 = .ok (.iload_n 1, 1) := by decide +kernel
theorem dX12_edge_1 : decode cX12_edge 1 = .ok (.invokestatic 346, 3) := by decide +kernel
theorem dX12_edge_4 : decode cX12_edge 4 = .ok (.ifCond .eq 28, 3) := by decide +kernel
theorem dX12_edge_7 : decode cX12_edge 7 = .ok (.iload_n 2, 1) := by decide +kernel
theorem dX12_edge_8 : decode cX12_edge 8 = .ok (.invokestatic 346, 3) := by decide +kernel
theorem dX12_edge_11 : decode cX12_edge 11 = .ok (.ifCond .eq 21, 3) := by decide +kernel
theorem dX12_edge_14 : decode cX12_edge 14 = .ok (.aload_n 0, 1) := by decide +kernel
theorem dX12_edge_15 : decode cX12_edge 15 = .ok (.iload_n 1, 1) := by decide +kernel
theorem dX12_edge_16 : decode cX12_edge 16 = .ok (.iload_n 2, 1) := by decide +kernel
theorem dX12_edge_17 : decode cX12_edge 17 = .ok (.invokevirtual 259, 3) := by decide +kernel
theorem dX12_edge_20 : decode cX12_edge 20 = .ok (.ifCond .eq 12, 3) := by decide +kernel
theorem dX12_edge_23 : decode cX12_edge 23 = .ok (.iload_n 3, 1) := by decide +kernel
theorem dX12_edge_24 : decode cX12_edge 24 = .ok (.iconst 0, 1) := by decide +kernel
theorem dX12_edge_25 : decode cX12_edge 25 = .ok (.iconst 1, 1) := by decide +kernel
theorem dX12_edge_26 : decode cX12_edge 26 = .ok (.invokestatic 225, 3) := by decide +kernel
theorem dX12_edge_29 : decode cX12_edge 29 = .ok (.ifCond .ne 5, 3) := by decide +kernel
theorem dX12_edge_32 : decode cX12_edge 32 = .ok (.iconst (-1), 1) := by decide +kernel
theorem dX12_edge_33 : decode cX12_edge 33 = .ok (.ireturn, 1) := by decide +kernel
theorem dX12_edge_34 : decode cX12_edge 34 = .ok (.aload_n 0, 1) := by decide +kernel
theorem dX12_edge_35 : decode cX12_edge 35 = .ok (.getfield 7, 3) := by decide +kernel
theorem dX12_edge_38 : decode cX12_edge 38 = .ok (.iconst 0, 1) := by decide +kernel
theorem dX12_edge_39 : decode cX12_edge 39 = .ok (.bipush 16, 2) := by decide +kernel
theorem dX12_edge_41 : decode cX12_edge 41 = .ok (.iload_n 1, 1) := by decide +kernel
theorem dX12_edge_42 : decode cX12_edge 42 = .ok (.imul, 1) := by decide +kernel
theorem dX12_edge_43 : decode cX12_edge 43 = .ok (.iadd, 1) := by decide +kernel
theorem dX12_edge_44 : decode cX12_edge 44 = .ok (.iload_n 2, 1) := by decide +kernel
theorem dX12_edge_45 : decode cX12_edge 45 = .ok (.iadd, 1) := by decide +kernel
theorem dX12_edge_46 : decode cX12_edge 46 = .ok (.iaload, 1) := by decide +kernel
theorem dX12_edge_47 : decode cX12_edge 47 = .ok (.iconst 1, 1) := by decide +kernel
theorem dX12_edge_48 : decode cX12_edge 48 = .ok (.isub, 1) := by decide +kernel
theorem dX12_edge_49 : decode cX12_edge 49 = .ok (.istore 4, 2) := by decide +kernel
theorem dX12_edge_51 : decode cX12_edge 51 = .ok (.iload_n 3, 1) := by decide +kernel
theorem dX12_edge_52 : decode cX12_edge 52 = .ok (.ifCond .ne 11, 3) := by decide +kernel
theorem dX12_edge_55 : decode cX12_edge 55 = .ok (.iload 4, 2) := by decide +kernel
theorem dX12_edge_57 : decode cX12_edge 57 = .ok (.bipush 16, 2) := by decide +kernel
theorem dX12_edge_59 : decode cX12_edge 59 = .ok (.idiv, 1) := by decide +kernel
theorem dX12_edge_60 : decode cX12_edge 60 = .ok (.goto 8, 3) := by decide +kernel
theorem dX12_edge_63 : decode cX12_edge 63 = .ok (.iload 4, 2) := by decide +kernel
theorem dX12_edge_65 : decode cX12_edge 65 = .ok (.bipush 16, 2) := by decide +kernel
theorem dX12_edge_67 : decode cX12_edge 67 = .ok (.irem, 1) := by decide +kernel
theorem dX12_edge_68 : decode cX12_edge 68 = .ok (.ireturn, 1) := by decide +kernel
theorem dX12_uses_0 : decode cX12_uses 0 = .ok (.iload_n 1, 1) := by decide +kernel
theorem dX12_uses_1 : decode cX12_uses 1 = .ok (.invokestatic 346, 3) := by decide +kernel
theorem dX12_uses_4 : decode cX12_uses 4 = .ok (.ifCond .eq 16, 3) := by decide +kernel
theorem dX12_uses_7 : decode cX12_uses 7 = .ok (.aload_n 0, 1) := by decide +kernel
theorem dX12_uses_8 : decode cX12_uses 8 = .ok (.getfield 7, 3) := by decide +kernel
theorem dX12_uses_11 : decode cX12_uses 11 = .ok (.sipush 256, 3) := by decide +kernel
theorem dX12_uses_14 : decode cX12_uses 14 = .ok (.iload_n 1, 1) := by decide +kernel
theorem dX12_uses_15 : decode cX12_uses 15 = .ok (.iadd, 1) := by decide +kernel
theorem dX12_uses_16 : decode cX12_uses 16 = .ok (.iaload, 1) := by decide +kernel
theorem dX12_uses_17 : decode cX12_uses 17 = .ok (.goto 4, 3) := by decide +kernel
theorem dX12_uses_20 : decode cX12_uses 20 = .ok (.iconst 0, 1) := by decide +kernel
theorem dX12_uses_21 : decode cX12_uses 21 = .ok (.ireturn, 1) := by decide +kernel
theorem dX12_way_0 : decode cX12_way 0 = .ok (.iload_n 1, 1) := by decide +kernel
theorem dX12_way_1 : decode cX12_way 1 = .ok (.invokestatic 346, 3) := by decide +kernel
theorem dX12_way_4 : decode cX12_way 4 = .ok (.ifCond .eq 19, 3) := by decide +kernel
theorem dX12_way_7 : decode cX12_way 7 = .ok (.iload_n 2, 1) := by decide +kernel
theorem dX12_way_8 : decode cX12_way 8 = .ok (.invokestatic 346, 3) := by decide +kernel
theorem dX12_way_11 : decode cX12_way 11 = .ok (.ifCond .eq 12, 3) := by decide +kernel
theorem dX12_way_14 : decode cX12_way 14 = .ok (.aload_n 0, 1) := by decide +kernel
theorem dX12_way_15 : decode cX12_way 15 = .ok (.iload_n 1, 1) := by decide +kernel
theorem dX12_way_16 : decode cX12_way 16 = .ok (.iload_n 2, 1) := by decide +kernel
theorem dX12_way_17 : decode cX12_way 17 = .ok (.invokevirtual 262, 3) := by decide +kernel
theorem dX12_way_20 : decode cX12_way 20 = .ok (.goto 4, 3) := by decide +kernel
theorem dX12_way_23 : decode cX12_way 23 = .ok (.iconst 0, 1) := by decide +kernel
theorem dX12_way_24 : decode cX12_way 24 = .ok (.istore 4, 2) := by decide +kernel
theorem dX12_way_26 : decode cX12_way 26 = .ok (.iload 4, 2) := by decide +kernel
theorem dX12_way_28 : decode cX12_way 28 = .ok (.ifCond .ne 5, 3) := by decide +kernel
theorem dX12_way_31 : decode cX12_way 31 = .ok (.iconst (-1), 1) := by decide +kernel
theorem dX12_way_32 : decode cX12_way 32 = .ok (.ireturn, 1) := by decide +kernel
theorem dX12_way_33 : decode cX12_way 33 = .ok (.iload_n 3, 1) := by decide +kernel
theorem dX12_way_34 : decode cX12_way 34 = .ok (.iconst (-1), 1) := by decide +kernel
theorem dX12_way_35 : decode cX12_way 35 = .ok (.if_icmp .ne 10, 3) := by decide +kernel
theorem dX12_way_38 : decode cX12_way 38 = .ok (.iload 4, 2) := by decide +kernel
theorem dX12_way_40 : decode cX12_way 40 = .ok (.iconst 1, 1) := by decide +kernel
theorem dX12_way_41 : decode cX12_way 41 = .ok (.isub, 1) := by decide +kernel
theorem dX12_way_42 : decode cX12_way 42 = .ok (.goto 25, 3) := by decide +kernel
theorem dX12_way_45 : decode cX12_way 45 = .ok (.iload_n 3, 1) := by decide +kernel
theorem dX12_way_46 : decode cX12_way 46 = .ok (.iconst 0, 1) := by decide +kernel
theorem dX12_way_47 : decode cX12_way 47 = .ok (.iload 4, 2) := by decide +kernel
theorem dX12_way_49 : decode cX12_way 49 = .ok (.iconst 1, 1) := by decide +kernel
theorem dX12_way_50 : decode cX12_way 50 = .ok (.isub, 1) := by decide +kernel
theorem dX12_way_51 : decode cX12_way 51 = .ok (.invokestatic 225, 3) := by decide +kernel
theorem dX12_way_54 : decode cX12_way 54 = .ok (.ifCond .eq 12, 3) := by decide +kernel
theorem dX12_way_57 : decode cX12_way 57 = .ok (.aload_n 0, 1) := by decide +kernel
theorem dX12_way_58 : decode cX12_way 58 = .ok (.getfield 63, 3) := by decide +kernel
theorem dX12_way_61 : decode cX12_way 61 = .ok (.iload_n 3, 1) := by decide +kernel
theorem dX12_way_62 : decode cX12_way 62 = .ok (.iaload, 1) := by decide +kernel
theorem dX12_way_63 : decode cX12_way 63 = .ok (.goto 4, 3) := by decide +kernel
theorem dX12_way_66 : decode cX12_way 66 = .ok (.iconst (-1), 1) := by decide +kernel
theorem dX12_way_67 : decode cX12_way 67 = .ok (.ireturn, 1) := by decide +kernel
theorem dX12_reaches_0 : decode cX12_reaches 0 = .ok (.iconst 0, 1) := by decide +kernel
theorem dX12_reaches_1 : decode cX12_reaches 1 = .ok (.istore_n 2, 1) := by decide +kernel
theorem dX12_reaches_2 : decode cX12_reaches 2 = .ok (.iconst 0, 1) := by decide +kernel
theorem dX12_reaches_3 : decode cX12_reaches 3 = .ok (.istore_n 3, 1) := by decide +kernel
theorem dX12_reaches_4 : decode cX12_reaches 4 = .ok (.iload_n 3, 1) := by decide +kernel
theorem dX12_reaches_5 : decode cX12_reaches 5 = .ok (.bipush 16, 2) := by decide +kernel
theorem dX12_reaches_7 : decode cX12_reaches 7 = .ok (.if_icmp .ge 35, 3) := by decide +kernel
theorem dX12_reaches_10 : decode cX12_reaches 10 = .ok (.iload_n 1, 1) := by decide +kernel
theorem dX12_reaches_11 : decode cX12_reaches 11 = .ok (.invokestatic 346, 3) := by decide +kernel
theorem dX12_reaches_14 : decode cX12_reaches 14 = .ok (.ifCond .eq 28, 3) := by decide +kernel
theorem dX12_reaches_17 : decode cX12_reaches 17 = .ok (.iload_n 2, 1) := by decide +kernel
theorem dX12_reaches_18 : decode cX12_reaches 18 = .ok (.aload_n 0, 1) := by decide +kernel
theorem dX12_reaches_19 : decode cX12_reaches 19 = .ok (.iload_n 1, 1) := by decide +kernel
theorem dX12_reaches_20 : decode cX12_reaches 20 = .ok (.iload_n 3, 1) := by decide +kernel
theorem dX12_reaches_21 : decode cX12_reaches 21 = .ok (.invokevirtual 349, 3) := by decide +kernel
theorem dX12_reaches_24 : decode cX12_reaches 24 = .ok (.ifCond .eq 9, 3) := by decide +kernel
theorem dX12_reaches_27 : decode cX12_reaches 27 = .ok (.iconst 1, 1) := by decide +kernel
theorem dX12_reaches_28 : decode cX12_reaches 28 = .ok (.iload_n 3, 1) := by decide +kernel
theorem dX12_reaches_29 : decode cX12_reaches 29 = .ok (.ishl, 1) := by decide +kernel
theorem dX12_reaches_30 : decode cX12_reaches 30 = .ok (.goto 4, 3) := by decide +kernel
theorem dX12_reaches_33 : decode cX12_reaches 33 = .ok (.iconst 0, 1) := by decide +kernel
theorem dX12_reaches_34 : decode cX12_reaches 34 = .ok (.ior, 1) := by decide +kernel
theorem dX12_reaches_35 : decode cX12_reaches 35 = .ok (.istore_n 2, 1) := by decide +kernel
theorem dX12_reaches_36 : decode cX12_reaches 36 = .ok (.iinc 3 1, 3) := by decide +kernel
theorem dX12_reaches_39 : decode cX12_reaches 39 = .ok (.goto (-35), 3) := by decide +kernel
theorem dX12_reaches_42 : decode cX12_reaches 42 = .ok (.iload_n 2, 1) := by decide +kernel
theorem dX12_reaches_43 : decode cX12_reaches 43 = .ok (.ireturn, 1) := by decide +kernel
theorem dX12_isReport_0 : decode cX12_isReport 0 = .ok (.iload_n 1, 1) := by decide +kernel
theorem dX12_isReport_1 : decode cX12_isReport 1 = .ok (.iconst 0, 1) := by decide +kernel
theorem dX12_isReport_2 : decode cX12_isReport 2 = .ok (.aload_n 0, 1) := by decide +kernel
theorem dX12_isReport_3 : decode cX12_isReport 3 = .ok (.getfield 7, 3) := by decide +kernel
theorem dX12_isReport_6 : decode cX12_isReport 6 = .ok (.sipush 272, 3) := by decide +kernel
theorem dX12_isReport_9 : decode cX12_isReport 9 = .ok (.iaload, 1) := by decide +kernel
theorem dX12_isReport_10 : decode cX12_isReport 10 = .ok (.iconst 1, 1) := by decide +kernel
theorem dX12_isReport_11 : decode cX12_isReport 11 = .ok (.isub, 1) := by decide +kernel
theorem dX12_isReport_12 : decode cX12_isReport 12 = .ok (.invokestatic 225, 3) := by decide +kernel
theorem dX12_isReport_15 : decode cX12_isReport 15 = .ok (.ireturn, 1) := by decide +kernel
theorem dX12_report__0 : decode cX12_report_ 0 = .ok (.aload_n 0, 1) := by decide +kernel
theorem dX12_report__1 : decode cX12_report_ 1 = .ok (.iload_n 1, 1) := by decide +kernel
theorem dX12_report__2 : decode cX12_report_ 2 = .ok (.invokevirtual 352, 3) := by decide +kernel
theorem dX12_report__5 : decode cX12_report_ 5 = .ok (.ifCond .ne 5, 3) := by decide +kernel
theorem dX12_report__8 : decode cX12_report_ 8 = .ok (.iconst (-1), 1) := by decide +kernel
theorem dX12_report__9 : decode cX12_report_ 9 = .ok (.ireturn, 1) := by decide +kernel
theorem dX12_report__10 : decode cX12_report_ 10 = .ok (.iload_n 2, 1) := by decide +kernel
theorem dX12_report__11 : decode cX12_report_ 11 = .ok (.iconst 0, 1) := by decide +kernel
theorem dX12_report__12 : decode cX12_report_ 12 = .ok (.iconst 3, 1) := by decide +kernel
theorem dX12_report__13 : decode cX12_report_ 13 = .ok (.invokestatic 225, 3) := by decide +kernel
theorem dX12_report__16 : decode cX12_report_ 16 = .ok (.ifCond .eq 14, 3) := by decide +kernel
theorem dX12_report__19 : decode cX12_report_ 19 = .ok (.aload_n 0, 1) := by decide +kernel
theorem dX12_report__20 : decode cX12_report_ 20 = .ok (.getfield 7, 3) := by decide +kernel
theorem dX12_report__23 : decode cX12_report_ 23 = .ok (.iload_n 1, 1) := by decide +kernel
theorem dX12_report__24 : decode cX12_report_ 24 = .ok (.iload_n 2, 1) := by decide +kernel
theorem dX12_report__25 : decode cX12_report_ 25 = .ok (.invokestatic 268, 3) := by decide +kernel
theorem dX12_report__28 : decode cX12_report_ 28 = .ok (.iaload, 1) := by decide +kernel
theorem dX12_report__29 : decode cX12_report_ 29 = .ok (.ireturn, 1) := by decide +kernel
theorem dX12_report__30 : decode cX12_report_ 30 = .ok (.iload_n 2, 1) := by decide +kernel
theorem dX12_report__31 : decode cX12_report_ 31 = .ok (.iconst 4, 1) := by decide +kernel
theorem dX12_report__32 : decode cX12_report_ 32 = .ok (.if_icmp .ne 11, 3) := by decide +kernel
theorem dX12_report__35 : decode cX12_report_ 35 = .ok (.aload_n 0, 1) := by decide +kernel
theorem dX12_report__36 : decode cX12_report_ 36 = .ok (.iload_n 1, 1) := by decide +kernel
theorem dX12_report__37 : decode cX12_report_ 37 = .ok (.invokevirtual 271, 3) := by decide +kernel
theorem dX12_report__40 : decode cX12_report_ 40 = .ok (.goto 17, 3) := by decide +kernel
theorem dX12_report__43 : decode cX12_report_ 43 = .ok (.iload_n 2, 1) := by decide +kernel
theorem dX12_report__44 : decode cX12_report_ 44 = .ok (.iconst 5, 1) := by decide +kernel
theorem dX12_report__45 : decode cX12_report_ 45 = .ok (.if_icmp .ne 11, 3) := by decide +kernel
theorem dX12_report__48 : decode cX12_report_ 48 = .ok (.aload_n 0, 1) := by decide +kernel
theorem dX12_report__49 : decode cX12_report_ 49 = .ok (.iload_n 1, 1) := by decide +kernel
theorem dX12_report__50 : decode cX12_report_ 50 = .ok (.invokevirtual 274, 3) := by decide +kernel
theorem dX12_report__53 : decode cX12_report_ 53 = .ok (.goto 4, 3) := by decide +kernel
theorem dX12_report__56 : decode cX12_report_ 56 = .ok (.iconst (-1), 1) := by decide +kernel
theorem dX12_report__57 : decode cX12_report_ 57 = .ok (.ireturn, 1) := by decide +kernel
theorem dX12_chain_0 : decode cX12_chain 0 = .ok (.aload_n 0, 1) := by decide +kernel
theorem dX12_chain_1 : decode cX12_chain 1 = .ok (.iload_n 1, 1) := by decide +kernel
theorem dX12_chain_2 : decode cX12_chain 2 = .ok (.invokevirtual 352, 3) := by decide +kernel
theorem dX12_chain_5 : decode cX12_chain 5 = .ok (.ifCond .eq 38, 3) := by decide +kernel
theorem dX12_chain_8 : decode cX12_chain 8 = .ok (.iload_n 2, 1) := by decide +kernel
theorem dX12_chain_9 : decode cX12_chain 9 = .ok (.iconst 0, 1) := by decide +kernel
theorem dX12_chain_10 : decode cX12_chain 10 = .ok (.aload_n 0, 1) := by decide +kernel
theorem dX12_chain_11 : decode cX12_chain 11 = .ok (.getfield 7, 3) := by decide +kernel
theorem dX12_chain_14 : decode cX12_chain 14 = .ok (.iload_n 1, 1) := by decide +kernel
theorem dX12_chain_15 : decode cX12_chain 15 = .ok (.iconst 3, 1) := by decide +kernel
theorem dX12_chain_16 : decode cX12_chain 16 = .ok (.invokestatic 268, 3) := by decide +kernel
theorem dX12_chain_19 : decode cX12_chain 19 = .ok (.iaload, 1) := by decide +kernel
theorem dX12_chain_20 : decode cX12_chain 20 = .ok (.iconst 1, 1) := by decide +kernel
theorem dX12_chain_21 : decode cX12_chain 21 = .ok (.isub, 1) := by decide +kernel
theorem dX12_chain_22 : decode cX12_chain 22 = .ok (.invokestatic 225, 3) := by decide +kernel
theorem dX12_chain_25 : decode cX12_chain 25 = .ok (.ifCond .eq 18, 3) := by decide +kernel
theorem dX12_chain_28 : decode cX12_chain 28 = .ok (.aload_n 0, 1) := by decide +kernel
theorem dX12_chain_29 : decode cX12_chain 29 = .ok (.getfield 7, 3) := by decide +kernel
theorem dX12_chain_32 : decode cX12_chain 32 = .ok (.iload_n 1, 1) := by decide +kernel
theorem dX12_chain_33 : decode cX12_chain 33 = .ok (.iconst 4, 1) := by decide +kernel
theorem dX12_chain_34 : decode cX12_chain 34 = .ok (.iload_n 2, 1) := by decide +kernel
