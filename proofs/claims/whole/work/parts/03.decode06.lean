theorem dX12_chain_35 : decode cX12_chain 35 = .ok (.iadd, 1) := by decide +kernel
theorem dX12_chain_36 : decode cX12_chain 36 = .ok (.invokestatic 268, 3) := by decide +kernel
theorem dX12_chain_39 : decode cX12_chain 39 = .ok (.iaload, 1) := by decide +kernel
theorem dX12_chain_40 : decode cX12_chain 40 = .ok (.goto 4, 3) := by decide +kernel
theorem dX12_chain_43 : decode cX12_chain 43 = .ok (.iconst (-1), 1) := by decide +kernel
theorem dX12_chain_44 : decode cX12_chain 44 = .ok (.ireturn, 1) := by decide +kernel
theorem dX12_edges_0 : decode cX12_edges 0 = .ok (.iconst 0, 1) := by decide +kernel
theorem dX12_edges_1 : decode cX12_edges 1 = .ok (.istore_n 1, 1) := by decide +kernel
theorem dX12_edges_2 : decode cX12_edges 2 = .ok (.iconst 0, 1) := by decide +kernel
theorem dX12_edges_3 : decode cX12_edges 3 = .ok (.istore_n 2, 1) := by decide +kernel
theorem dX12_edges_4 : decode cX12_edges 4 = .ok (.iload_n 2, 1) := by decide +kernel
theorem dX12_edges_5 : decode cX12_edges 5 = .ok (.sipush 256, 3) := by decide +kernel
theorem dX12_edges_8 : decode cX12_edges 8 = .ok (.if_icmp .ge 28, 3) := by decide +kernel
theorem dX12_edges_11 : decode cX12_edges 11 = .ok (.iload_n 1, 1) := by decide +kernel
theorem dX12_edges_12 : decode cX12_edges 12 = .ok (.aload_n 0, 1) := by decide +kernel
theorem dX12_edges_13 : decode cX12_edges 13 = .ok (.getfield 7, 3) := by decide +kernel
theorem dX12_edges_16 : decode cX12_edges 16 = .ok (.iconst 0, 1) := by decide +kernel
theorem dX12_edges_17 : decode cX12_edges 17 = .ok (.iload_n 2, 1) := by decide +kernel
theorem dX12_edges_18 : decode cX12_edges 18 = .ok (.iadd, 1) := by decide +kernel
theorem dX12_edges_19 : decode cX12_edges 19 = .ok (.iaload, 1) := by decide +kernel
theorem dX12_edges_20 : decode cX12_edges 20 = .ok (.ifCond .le 7, 3) := by decide +kernel
theorem dX12_edges_23 : decode cX12_edges 23 = .ok (.iconst 1, 1) := by decide +kernel
theorem dX12_edges_24 : decode cX12_edges 24 = .ok (.goto 4, 3) := by decide +kernel
theorem dX12_edges_27 : decode cX12_edges 27 = .ok (.iconst 0, 1) := by decide +kernel
theorem dX12_edges_28 : decode cX12_edges 28 = .ok (.iadd, 1) := by decide +kernel
theorem dX12_edges_29 : decode cX12_edges 29 = .ok (.istore_n 1, 1) := by decide +kernel
theorem dX12_edges_30 : decode cX12_edges 30 = .ok (.iinc 2 1, 3) := by decide +kernel
theorem dX12_edges_33 : decode cX12_edges 33 = .ok (.goto (-29), 3) := by decide +kernel
theorem dX12_edges_36 : decode cX12_edges 36 = .ok (.iload_n 1, 1) := by decide +kernel
theorem dX12_edges_37 : decode cX12_edges 37 = .ok (.ireturn, 1) := by decide +kernel
theorem dX12_putAside_0 : decode cX12_putAside 0 = .ok (.iconst 0, 1) := by decide +kernel
theorem dX12_putAside_1 : decode cX12_putAside 1 = .ok (.istore_n 1, 1) := by decide +kernel
theorem dX12_putAside_2 : decode cX12_putAside 2 = .ok (.iload_n 1, 1) := by decide +kernel
theorem dX12_putAside_3 : decode cX12_putAside 3 = .ok (.sipush 9685, 3) := by decide +kernel
theorem dX12_putAside_6 : decode cX12_putAside 6 = .ok (.if_icmp .ge 21, 3) := by decide +kernel
theorem dX12_putAside_9 : decode cX12_putAside 9 = .ok (.aload_n 0, 1) := by decide +kernel
theorem dX12_putAside_10 : decode cX12_putAside 10 = .ok (.getfield 72, 3) := by decide +kernel
theorem dX12_putAside_13 : decode cX12_putAside 13 = .ok (.iload_n 1, 1) := by decide +kernel
theorem dX12_putAside_14 : decode cX12_putAside 14 = .ok (.aload_n 0, 1) := by decide +kernel
theorem dX12_putAside_15 : decode cX12_putAside 15 = .ok (.getfield 7, 3) := by decide +kernel
theorem dX12_putAside_18 : decode cX12_putAside 18 = .ok (.iload_n 1, 1) := by decide +kernel
theorem dX12_putAside_19 : decode cX12_putAside 19 = .ok (.iaload, 1) := by decide +kernel
theorem dX12_putAside_20 : decode cX12_putAside 20 = .ok (.iastore, 1) := by decide +kernel
theorem dX12_putAside_21 : decode cX12_putAside 21 = .ok (.iinc 1 1, 3) := by decide +kernel
theorem dX12_putAside_24 : decode cX12_putAside 24 = .ok (.goto (-22), 3) := by decide +kernel
theorem dX12_putAside_27 : decode cX12_putAside 27 = .ok (.return_, 1) := by decide +kernel
theorem dX12_bringBack_0 : decode cX12_bringBack 0 = .ok (.iconst 0, 1) := by decide +kernel
theorem dX12_bringBack_1 : decode cX12_bringBack 1 = .ok (.istore_n 1, 1) := by decide +kernel
theorem dX12_bringBack_2 : decode cX12_bringBack 2 = .ok (.iload_n 1, 1) := by decide +kernel
theorem dX12_bringBack_3 : decode cX12_bringBack 3 = .ok (.sipush 9685, 3) := by decide +kernel
theorem dX12_bringBack_6 : decode cX12_bringBack 6 = .ok (.if_icmp .ge 21, 3) := by decide +kernel
theorem dX12_bringBack_9 : decode cX12_bringBack 9 = .ok (.aload_n 0, 1) := by decide +kernel
theorem dX12_bringBack_10 : decode cX12_bringBack 10 = .ok (.getfield 7, 3) := by decide +kernel
theorem dX12_bringBack_13 : decode cX12_bringBack 13 = .ok (.iload_n 1, 1) := by decide +kernel
theorem dX12_bringBack_14 : decode cX12_bringBack 14 = .ok (.aload_n 0, 1) := by decide +kernel
theorem dX12_bringBack_15 : decode cX12_bringBack 15 = .ok (.getfield 72, 3) := by decide +kernel
theorem dX12_bringBack_18 : decode cX12_bringBack 18 = .ok (.iload_n 1, 1) := by decide +kernel
theorem dX12_bringBack_19 : decode cX12_bringBack 19 = .ok (.iaload, 1) := by decide +kernel
theorem dX12_bringBack_20 : decode cX12_bringBack 20 = .ok (.iastore, 1) := by decide +kernel
theorem dX12_bringBack_21 : decode cX12_bringBack 21 = .ok (.iinc 1 1, 3) := by decide +kernel
theorem dX12_bringBack_24 : decode cX12_bringBack 24 = .ok (.goto (-22), 3) := by decide +kernel
theorem dX12_bringBack_27 : decode cX12_bringBack 27 = .ok (.return_, 1) := by decide +kernel
theorem dX12_would_0 : decode cX12_would 0 = .ok (.aload_n 0, 1) := by decide +kernel
theorem dX12_would_1 : decode cX12_would 1 = .ok (.iload_n 1, 1) := by decide +kernel
theorem dX12_would_2 : decode cX12_would 2 = .ok (.invokevirtual 328, 3) := by decide +kernel
theorem dX12_would_5 : decode cX12_would 5 = .ok (.ifCond .eq 12, 3) := by decide +kernel
theorem dX12_would_8 : decode cX12_would 8 = .ok (.iload_n 2, 1) := by decide +kernel
theorem dX12_would_9 : decode cX12_would 9 = .ok (.iconst 0, 1) := by decide +kernel
theorem dX12_would_10 : decode cX12_would 10 = .ok (.iconst 2, 1) := by decide +kernel
theorem dX12_would_11 : decode cX12_would 11 = .ok (.invokestatic 225, 3) := by decide +kernel
theorem dX12_would_14 : decode cX12_would 14 = .ok (.ifCond .ne 5, 3) := by decide +kernel
theorem dX12_would_17 : decode cX12_would 17 = .ok (.iconst (-1), 1) := by decide +kernel
theorem dX12_would_18 : decode cX12_would 18 = .ok (.ireturn, 1) := by decide +kernel
theorem dX12_would_19 : decode cX12_would 19 = .ok (.aload_n 0, 1) := by decide +kernel
theorem dX12_would_20 : decode cX12_would 20 = .ok (.invokevirtual 355, 3) := by decide +kernel
theorem dX12_would_23 : decode cX12_would 23 = .ok (.iload_n 2, 1) := by decide +kernel
theorem dX12_would_24 : decode cX12_would 24 = .ok (.ifCond .ne 14, 3) := by decide +kernel
theorem dX12_would_27 : decode cX12_would 27 = .ok (.aload_n 0, 1) := by decide +kernel
theorem dX12_would_28 : decode cX12_would 28 = .ok (.getfield 7, 3) := by decide +kernel
theorem dX12_would_31 : decode cX12_would 31 = .ok (.sipush 272, 3) := by decide +kernel
theorem dX12_would_34 : decode cX12_would 34 = .ok (.iaload, 1) := by decide +kernel
theorem dX12_would_35 : decode cX12_would 35 = .ok (.goto 23, 3) := by decide +kernel
theorem dX12_would_38 : decode cX12_would 38 = .ok (.iload_n 2, 1) := by decide +kernel
theorem dX12_would_39 : decode cX12_would 39 = .ok (.iconst 1, 1) := by decide +kernel
theorem dX12_would_40 : decode cX12_would 40 = .ok (.if_icmp .ne 10, 3) := by decide +kernel
theorem dX12_would_43 : decode cX12_would 43 = .ok (.aload_n 0, 1) := by decide +kernel
theorem dX12_would_44 : decode cX12_would 44 = .ok (.invokevirtual 358, 3) := by decide +kernel
theorem dX12_would_47 : decode cX12_would 47 = .ok (.goto 11, 3) := by decide +kernel
theorem dX12_would_50 : decode cX12_would 50 = .ok (.aload_n 0, 1) := by decide +kernel
theorem dX12_would_51 : decode cX12_would 51 = .ok (.getfield 7, 3) := by decide +kernel
theorem dX12_would_54 : decode cX12_would 54 = .ok (.sipush 1539, 3) := by decide +kernel
theorem dX12_would_57 : decode cX12_would 57 = .ok (.iaload, 1) := by decide +kernel
theorem dX12_would_58 : decode cX12_would 58 = .ok (.istore_n 3, 1) := by decide +kernel
theorem dX12_would_59 : decode cX12_would 59 = .ok (.aload_n 0, 1) := by decide +kernel
theorem dX12_would_60 : decode cX12_would 60 = .ok (.iload_n 1, 1) := by decide +kernel
theorem dX12_would_61 : decode cX12_would 61 = .ok (.invokevirtual 334, 3) := by decide +kernel
theorem dX12_would_64 : decode cX12_would 64 = .ok (.iload_n 2, 1) := by decide +kernel
theorem dX12_would_65 : decode cX12_would 65 = .ok (.ifCond .ne 14, 3) := by decide +kernel
theorem dX12_would_68 : decode cX12_would 68 = .ok (.aload_n 0, 1) := by decide +kernel
theorem dX12_would_69 : decode cX12_would 69 = .ok (.getfield 7, 3) := by decide +kernel
theorem dX12_would_72 : decode cX12_would 72 = .ok (.sipush 272, 3) := by decide +kernel
theorem dX12_would_75 : decode cX12_would 75 = .ok (.iaload, 1) := by decide +kernel
theorem dX12_would_76 : decode cX12_would 76 = .ok (.goto 23, 3) := by decide +kernel
theorem dX12_would_79 : decode cX12_would 79 = .ok (.iload_n 2, 1) := by decide +kernel
theorem dX12_would_80 : decode cX12_would 80 = .ok (.iconst 1, 1) := by decide +kernel
theorem dX12_would_81 : decode cX12_would 81 = .ok (.if_icmp .ne 10, 3) := by decide +kernel
theorem dX12_would_84 : decode cX12_would 84 = .ok (.aload_n 0, 1) := by decide +kernel
theorem dX12_would_85 : decode cX12_would 85 = .ok (.invokevirtual 358, 3) := by decide +kernel
theorem dX12_would_88 : decode cX12_would 88 = .ok (.goto 11, 3) := by decide +kernel
theorem dX12_would_91 : decode cX12_would 91 = .ok (.aload_n 0, 1) := by decide +kernel
theorem dX12_would_92 : decode cX12_would 92 = .ok (.getfield 7, 3) := by decide +kernel
theorem dX12_would_95 : decode cX12_would 95 = .ok (.sipush 1539, 3) := by decide +kernel
theorem dX12_would_98 : decode cX12_would 98 = .ok (.iaload, 1) := by decide +kernel
theorem dX12_would_99 : decode cX12_would 99 = .ok (.iload_n 3, 1) := by decide +kernel
theorem dX12_would_100 : decode cX12_would 100 = .ok (.isub, 1) := by decide +kernel
theorem dX12_would_101 : decode cX12_would 101 = .ok (.istore 4, 2) := by decide +kernel
theorem dX12_would_103 : decode cX12_would 103 = .ok (.aload_n 0, 1) := by decide +kernel
theorem dX12_would_104 : decode cX12_would 104 = .ok (.invokevirtual 361, 3) := by decide +kernel
theorem dX12_would_107 : decode cX12_would 107 = .ok (.iload 4, 2) := by decide +kernel
theorem dX12_would_109 : decode cX12_would 109 = .ok (.ireturn, 1) := by decide +kernel
theorem dX12_goAll_0 : decode cX12_goAll 0 = .ok (.aload_n 0, 1) := by decide +kernel
theorem dX12_goAll_1 : decode cX12_goAll 1 = .ok (.invokevirtual 355, 3) := by decide +kernel
theorem dX12_goAll_4 : decode cX12_goAll 4 = .ok (.aload_n 0, 1) := by decide +kernel
theorem dX12_goAll_5 : decode cX12_goAll 5 = .ok (.invokevirtual 238, 3) := by decide +kernel
theorem dX12_goAll_8 : decode cX12_goAll 8 = .ok (.iconst 0, 1) := by decide +kernel
theorem dX12_goAll_9 : decode cX12_goAll 9 = .ok (.istore_n 1, 1) := by decide +kernel
theorem dX12_goAll_10 : decode cX12_goAll 10 = .ok (.iload_n 1, 1) := by decide +kernel
theorem dX12_goAll_11 : decode cX12_goAll 11 = .ok (.aload_n 0, 1) := by decide +kernel
theorem dX12_goAll_12 : decode cX12_goAll 12 = .ok (.getfield 19, 3) := by decide +kernel
theorem dX12_goAll_15 : decode cX12_goAll 15 = .ok (.aload_n 0, 1) := by decide +kernel
theorem dX12_goAll_16 : decode cX12_goAll 16 = .ok (.getfield 229, 3) := by decide +kernel
theorem dX12_goAll_19 : decode cX12_goAll 19 = .ok (.iaload, 1) := by decide +kernel
theorem dX12_goAll_20 : decode cX12_goAll 20 = .ok (.if_icmp .ge 14, 3) := by decide +kernel
theorem dX12_goAll_23 : decode cX12_goAll 23 = .ok (.aload_n 0, 1) := by decide +kernel
theorem dX12_goAll_24 : decode cX12_goAll 24 = .ok (.iload_n 1, 1) := by decide +kernel
theorem dX12_goAll_25 : decode cX12_goAll 25 = .ok (.invokevirtual 334, 3) := by decide +kernel
theorem dX12_goAll_28 : decode cX12_goAll 28 = .ok (.iinc 1 1, 3) := by decide +kernel
theorem dX12_goAll_31 : decode cX12_goAll 31 = .ok (.goto (-21), 3) := by decide +kernel
theorem dX12_goAll_34 : decode cX12_goAll 34 = .ok (.return_, 1) := by decide +kernel
theorem dX12_all_0 : decode cX12_all 0 = .ok (.iload_n 1, 1) := by decide +kernel
theorem dX12_all_1 : decode cX12_all 1 = .ok (.iconst 1, 1) := by decide +kernel
theorem dX12_all_2 : decode cX12_all 2 = .ok (.bipush 9, 2) := by decide +kernel
theorem dX12_all_4 : decode cX12_all 4 = .ok (.invokestatic 225, 3) := by decide +kernel
theorem dX12_all_7 : decode cX12_all 7 = .ok (.ifCond .ne 5, 3) := by decide +kernel
theorem dX12_all_10 : decode cX12_all 10 = .ok (.iconst (-1), 1) := by decide +kernel
theorem dX12_all_11 : decode cX12_all 11 = .ok (.ireturn, 1) := by decide +kernel
theorem dX12_all_12 : decode cX12_all 12 = .ok (.aload_n 0, 1) := by decide +kernel
theorem dX12_all_13 : decode cX12_all 13 = .ok (.invokevirtual 364, 3) := by decide +kernel
theorem dX12_all_16 : decode cX12_all 16 = .ok (.iconst 0, 1) := by decide +kernel
theorem dX12_all_17 : decode cX12_all 17 = .ok (.istore_n 2, 1) := by decide +kernel
theorem dX12_all_18 : decode cX12_all 18 = .ok (.iconst 0, 1) := by decide +kernel
theorem dX12_all_19 : decode cX12_all 19 = .ok (.istore_n 3, 1) := by decide +kernel
theorem dX12_all_20 : decode cX12_all 20 = .ok (.iload_n 3, 1) := by decide +kernel
theorem dX12_all_21 : decode cX12_all 21 = .ok (.aload_n 0, 1) := by decide +kernel
theorem dX12_all_22 : decode cX12_all 22 = .ok (.getfield 7, 3) := by decide +kernel
theorem dX12_all_25 : decode cX12_all 25 = .ok (.sipush 272, 3) := by decide +kernel
theorem dX12_all_28 : decode cX12_all 28 = .ok (.iaload, 1) := by decide +kernel
theorem dX12_all_29 : decode cX12_all 29 = .ok (.if_icmp .ge 31, 3) := by decide +kernel
theorem dX12_all_32 : decode cX12_all 32 = .ok (.iload_n 2, 1) := by decide +kernel
theorem dX12_all_33 : decode cX12_all 33 = .ok (.aload_n 0, 1) := by decide +kernel
theorem dX12_all_34 : decode cX12_all 34 = .ok (.getfield 7, 3) := by decide +kernel
theorem dX12_all_37 : decode cX12_all 37 = .ok (.iload_n 3, 1) := by decide +kernel
theorem dX12_all_38 : decode cX12_all 38 = .ok (.iconst 0, 1) := by decide +kernel
theorem dX12_all_39 : decode cX12_all 39 = .ok (.invokestatic 268, 3) := by decide +kernel
theorem dX12_all_42 : decode cX12_all 42 = .ok (.iaload, 1) := by decide +kernel
theorem dX12_all_43 : decode cX12_all 43 = .ok (.iload_n 1, 1) := by decide +kernel
theorem dX12_all_44 : decode cX12_all 44 = .ok (.if_icmp .ne 7, 3) := by decide +kernel
theorem dX12_all_47 : decode cX12_all 47 = .ok (.iconst 1, 1) := by decide +kernel
theorem dX12_all_48 : decode cX12_all 48 = .ok (.goto 4, 3) := by decide +kernel
theorem dX12_all_51 : decode cX12_all 51 = .ok (.iconst 0, 1) := by decide +kernel
theorem dX12_all_52 : decode cX12_all 52 = .ok (.iadd, 1) := by decide +kernel
theorem dX12_all_53 : decode cX12_all 53 = .ok (.istore_n 2, 1) := by decide +kernel
theorem dX12_all_54 : decode cX12_all 54 = .ok (.iinc 3 1, 3) := by decide +kernel
theorem dX12_all_57 : decode cX12_all 57 = .ok (.goto (-37), 3) := by decide +kernel
theorem dX12_all_60 : decode cX12_all 60 = .ok (.aload_n 0, 1) := by decide +kernel
theorem dX12_all_61 : decode cX12_all 61 = .ok (.invokevirtual 361, 3) := by decide +kernel
theorem dX12_all_64 : decode cX12_all 64 = .ok (.iload_n 2, 1) := by decide +kernel
theorem dX12_all_65 : decode cX12_all 65 = .ok (.ireturn, 1) := by decide +kernel
theorem dX12_bestSwap_0 : decode cX12_bestSwap 0 = .ok (.iload_n 1, 1) := by decide +kernel
theorem dX12_bestSwap_1 : decode cX12_bestSwap 1 = .ok (.iconst 0, 1) := by decide +kernel
theorem dX12_bestSwap_2 : decode cX12_bestSwap 2 = .ok (.iconst 2, 1) := by decide +kernel
theorem dX12_bestSwap_3 : decode cX12_bestSwap 3 = .ok (.invokestatic 225, 3) := by decide +kernel
theorem dX12_bestSwap_6 : decode cX12_bestSwap 6 = .ok (.ifCond .ne 5, 3) := by decide +kernel
theorem dX12_bestSwap_9 : decode cX12_bestSwap 9 = .ok (.iconst (-1), 1) := by decide +kernel
theorem dX12_bestSwap_10 : decode cX12_bestSwap 10 = .ok (.ireturn, 1) := by decide +kernel
theorem dX12_bestSwap_11 : decode cX12_bestSwap 11 = .ok (.aload_n 0, 1) := by decide +kernel
theorem dX12_bestSwap_12 : decode cX12_bestSwap 12 = .ok (.iconst 3, 1) := by decide +kernel
theorem dX12_bestSwap_13 : decode cX12_bestSwap 13 = .ok (.invokevirtual 367, 3) := by decide +kernel
theorem dX12_bestSwap_16 : decode cX12_bestSwap 16 = .ok (.istore_n 2, 1) := by decide +kernel
theorem dX12_bestSwap_17 : decode cX12_bestSwap 17 = .ok (.iconst (-1), 1) := by decide +kernel
theorem dX12_bestSwap_18 : decode cX12_bestSwap 18 = .ok (.istore_n 3, 1) := by decide +kernel
theorem dX12_bestSwap_19 : decode cX12_bestSwap 19 = .ok (.iconst 0, 1) := by decide +kernel
theorem dX12_bestSwap_20 : decode cX12_bestSwap 20 = .ok (.istore 4, 2) := by decide +kernel
theorem dX12_bestSwap_22 : decode cX12_bestSwap 22 = .ok (.iload 4, 2) := by decide +kernel
theorem dX12_bestSwap_24 : decode cX12_bestSwap 24 = .ok (.aload_n 0, 1) := by decide +kernel
theorem dX12_bestSwap_25 : decode cX12_bestSwap 25 = .ok (.getfield 19, 3) := by decide +kernel
theorem dX12_bestSwap_28 : decode cX12_bestSwap 28 = .ok (.aload_n 0, 1) := by decide +kernel
theorem dX12_bestSwap_29 : decode cX12_bestSwap 29 = .ok (.getfield 229, 3) := by decide +kernel
theorem dX12_bestSwap_32 : decode cX12_bestSwap 32 = .ok (.iaload, 1) := by decide +kernel
theorem dX12_bestSwap_33 : decode cX12_bestSwap 33 = .ok (.if_icmp .ge 75, 3) := by decide +kernel
theorem dX12_bestSwap_36 : decode cX12_bestSwap 36 = .ok (.iconst 0, 1) := by decide +kernel
theorem dX12_bestSwap_37 : decode cX12_bestSwap 37 = .ok (.istore 5, 2) := by decide +kernel
theorem dX12_bestSwap_39 : decode cX12_bestSwap 39 = .ok (.iload 5, 2) := by decide +kernel
theorem dX12_bestSwap_41 : decode cX12_bestSwap 41 = .ok (.iconst 1, 1) := by decide +kernel
theorem dX12_bestSwap_42 : decode cX12_bestSwap 42 = .ok (.iadd, 1) := by decide +kernel
theorem dX12_bestSwap_43 : decode cX12_bestSwap 43 = .ok (.aload_n 0, 1) := by decide +kernel
theorem dX12_bestSwap_44 : decode cX12_bestSwap 44 = .ok (.iload 4, 2) := by decide +kernel
theorem dX12_bestSwap_46 : decode cX12_bestSwap 46 = .ok (.invokevirtual 319, 3) := by decide +kernel
theorem dX12_bestSwap_49 : decode cX12_bestSwap 49 = .ok (.if_icmp .ge 53, 3) := by decide +kernel
theorem dX12_bestSwap_52 : decode cX12_bestSwap 52 = .ok (.aload_n 0, 1) := by decide +kernel
theorem dX12_bestSwap_53 : decode cX12_bestSwap 53 = .ok (.iload 4, 2) := by decide +kernel
theorem dX12_bestSwap_55 : decode cX12_bestSwap 55 = .ok (.iload 5, 2) := by decide +kernel
theorem dX12_bestSwap_57 : decode cX12_bestSwap 57 = .ok (.invokevirtual 343, 3) := by decide +kernel
theorem dX12_bestSwap_60 : decode cX12_bestSwap 60 = .ok (.aload_n 0, 1) := by decide +kernel
theorem dX12_bestSwap_61 : decode cX12_bestSwap 61 = .ok (.iconst 3, 1) := by decide +kernel
theorem dX12_bestSwap_62 : decode cX12_bestSwap 62 = .ok (.invokevirtual 367, 3) := by decide +kernel
theorem dX12_bestSwap_65 : decode cX12_bestSwap 65 = .ok (.istore 6, 2) := by decide +kernel
theorem dX12_bestSwap_67 : decode cX12_bestSwap 67 = .ok (.aload_n 0, 1) := by decide +kernel
theorem dX12_bestSwap_68 : decode cX12_bestSwap 68 = .ok (.iload 4, 2) := by decide +kernel
theorem dX12_bestSwap_70 : decode cX12_bestSwap 70 = .ok (.iload 5, 2) := by decide +kernel
theorem dX12_bestSwap_72 : decode cX12_bestSwap 72 = .ok (.invokevirtual 343, 3) := by decide +kernel
theorem dX12_bestSwap_75 : decode cX12_bestSwap 75 = .ok (.iload 6, 2) := by decide +kernel
theorem dX12_bestSwap_77 : decode cX12_bestSwap 77 = .ok (.iload_n 2, 1) := by decide +kernel
theorem dX12_bestSwap_78 : decode cX12_bestSwap 78 = .ok (.if_icmp .lt 6, 3) := by decide +kernel
theorem dX12_bestSwap_81 : decode cX12_bestSwap 81 = .ok (.goto 15, 3) := by decide +kernel
theorem dX12_bestSwap_84 : decode cX12_bestSwap 84 = .ok (.iload 6, 2) := by decide +kernel
theorem dX12_bestSwap_86 : decode cX12_bestSwap 86 = .ok (.istore_n 2, 1) := by decide +kernel
theorem dX12_bestSwap_87 : decode cX12_bestSwap 87 = .ok (.bipush 12, 2) := by decide +kernel
theorem dX12_bestSwap_89 : decode cX12_bestSwap 89 = .ok (.iload 4, 2) := by decide +kernel
theorem dX12_bestSwap_91 : decode cX12_bestSwap 91 = .ok (.imul, 1) := by decide +kernel
theorem dX12_bestSwap_92 : decode cX12_bestSwap 92 = .ok (.iload 5, 2) := by decide +kernel
theorem dX12_bestSwap_94 : decode cX12_bestSwap 94 = .ok (.iadd, 1) := by decide +kernel
theorem dX12_bestSwap_95 : decode cX12_bestSwap 95 = .ok (.istore_n 3, 1) := by decide +kernel
theorem dX12_bestSwap_96 : decode cX12_bestSwap 96 = .ok (.iinc 5 1, 3) := by decide +kernel
theorem dX12_bestSwap_99 : decode cX12_bestSwap 99 = .ok (.goto (-60), 3) := by decide +kernel
theorem dX12_bestSwap_102 : decode cX12_bestSwap 102 = .ok (.iinc 4 1, 3) := by decide +kernel
theorem dX12_bestSwap_105 : decode cX12_bestSwap 105 = .ok (.goto (-83), 3) := by decide +kernel
theorem dX12_bestSwap_108 : decode cX12_bestSwap 108 = .ok (.iload_n 3, 1) := by decide +kernel
theorem dX12_bestSwap_109 : decode cX12_bestSwap 109 = .ok (.ifCond .ge 5, 3) := by decide +kernel
theorem dX12_bestSwap_112 : decode cX12_bestSwap 112 = .ok (.iconst (-1), 1) := by decide +kernel
theorem dX12_bestSwap_113 : decode cX12_bestSwap 113 = .ok (.ireturn, 1) := by decide +kernel
theorem dX12_bestSwap_114 : decode cX12_bestSwap 114 = .ok (.iload_n 1, 1) := by decide +kernel
theorem dX12_bestSwap_115 : decode cX12_bestSwap 115 = .ok (.ifCond .ne 7, 3) := by decide +kernel
theorem dX12_bestSwap_118 : decode cX12_bestSwap 118 = .ok (.iload_n 2, 1) := by decide +kernel
theorem dX12_bestSwap_119 : decode cX12_bestSwap 119 = .ok (.goto 19, 3) := by decide +kernel
theorem dX12_bestSwap_122 : decode cX12_bestSwap 122 = .ok (.iload_n 1, 1) := by decide +kernel
theorem dX12_bestSwap_123 : decode cX12_bestSwap 123 = .ok (.iconst 1, 1) := by decide +kernel
theorem dX12_bestSwap_124 : decode cX12_bestSwap 124 = .ok (.if_icmp .ne 10, 3) := by decide +kernel
theorem dX12_bestSwap_127 : decode cX12_bestSwap 127 = .ok (.iload_n 3, 1) := by decide +kernel
theorem dX12_bestSwap_128 : decode cX12_bestSwap 128 = .ok (.bipush 12, 2) := by decide +kernel
theorem dX12_bestSwap_130 : decode cX12_bestSwap 130 = .ok (.idiv, 1) := by decide +kernel
theorem dX12_bestSwap_131 : decode cX12_bestSwap 131 = .ok (.goto 7, 3) := by decide +kernel
theorem dX12_bestSwap_134 : decode cX12_bestSwap 134 = .ok (.iload_n 3, 1) := by decide +kernel
theorem dX12_bestSwap_135 : decode cX12_bestSwap 135 = .ok (.bipush 12, 2) := by decide +kernel
theorem dX12_bestSwap_137 : decode cX12_bestSwap 137 = .ok (.irem, 1) := by decide +kernel
theorem dX12_bestSwap_138 : decode cX12_bestSwap 138 = .ok (.ireturn, 1) := by decide +kernel
theorem dX12_eased_0 : decode cX12_eased 0 = .ok (.aload_n 0, 1) := by decide +kernel
theorem dX12_eased_1 : decode cX12_eased 1 = .ok (.iload_n 1, 1) := by decide +kernel
theorem dX12_eased_2 : decode cX12_eased 2 = .ok (.iload_n 2, 1) := by decide +kernel
theorem dX12_eased_3 : decode cX12_eased 3 = .ok (.invokevirtual 340, 3) := by decide +kernel
theorem dX12_eased_6 : decode cX12_eased 6 = .ok (.ifCond .ne 5, 3) := by decide +kernel
theorem dX12_eased_9 : decode cX12_eased 9 = .ok (.iconst (-1), 1) := by decide +kernel
theorem dX12_eased_10 : decode cX12_eased 10 = .ok (.ireturn, 1) := by decide +kernel
theorem dX12_eased_11 : decode cX12_eased 11 = .ok (.iconst 1, 1) := by decide +kernel
theorem dX12_eased_12 : decode cX12_eased 12 = .ok (.aload_n 0, 1) := by decide +kernel
theorem dX12_eased_13 : decode cX12_eased 13 = .ok (.getfield 19, 3) := by decide +kernel
theorem dX12_eased_16 : decode cX12_eased 16 = .ok (.aload_n 0, 1) := by decide +kernel
theorem dX12_eased_17 : decode cX12_eased 17 = .ok (.getfield 229, 3) := by decide +kernel
theorem dX12_eased_20 : decode cX12_eased 20 = .ok (.iaload, 1) := by decide +kernel
theorem dX12_eased_21 : decode cX12_eased 21 = .ok (.ishl, 1) := by decide +kernel
theorem dX12_eased_22 : decode cX12_eased 22 = .ok (.iconst 1, 1) := by decide +kernel
theorem dX12_eased_23 : decode cX12_eased 23 = .ok (.isub, 1) := by decide +kernel
theorem dX12_eased_24 : decode cX12_eased 24 = .ok (.istore_n 3, 1) := by decide +kernel
theorem dX12_eased_25 : decode cX12_eased 25 = .ok (.aload_n 0, 1) := by decide +kernel
theorem dX12_eased_26 : decode cX12_eased 26 = .ok (.iload_n 3, 1) := by decide +kernel
theorem dX12_eased_27 : decode cX12_eased 27 = .ok (.iconst 0, 1) := by decide +kernel
theorem dX12_eased_28 : decode cX12_eased 28 = .ok (.invokevirtual 369, 3) := by decide +kernel
theorem dX12_eased_31 : decode cX12_eased 31 = .ok (.istore 4, 2) := by decide +kernel
theorem dX12_eased_33 : decode cX12_eased 33 = .ok (.aload_n 0, 1) := by decide +kernel
theorem dX12_eased_34 : decode cX12_eased 34 = .ok (.iload_n 1, 1) := by decide +kernel
theorem dX12_eased_35 : decode cX12_eased 35 = .ok (.iload_n 2, 1) := by decide +kernel
theorem dX12_eased_36 : decode cX12_eased 36 = .ok (.invokevirtual 343, 3) := by decide +kernel
theorem dX12_eased_39 : decode cX12_eased 39 = .ok (.aload_n 0, 1) := by decide +kernel
theorem dX12_eased_40 : decode cX12_eased 40 = .ok (.iload_n 3, 1) := by decide +kernel
theorem dX12_eased_41 : decode cX12_eased 41 = .ok (.iconst 0, 1) := by decide +kernel
theorem dX12_eased_42 : decode cX12_eased 42 = .ok (.invokevirtual 369, 3) := by decide +kernel
theorem dX12_eased_45 : decode cX12_eased 45 = .ok (.istore 5, 2) := by decide +kernel
theorem dX12_eased_47 : decode cX12_eased 47 = .ok (.aload_n 0, 1) := by decide +kernel
theorem dX12_eased_48 : decode cX12_eased 48 = .ok (.iload_n 1, 1) := by decide +kernel
theorem dX12_eased_49 : decode cX12_eased 49 = .ok (.iload_n 2, 1) := by decide +kernel
theorem dX12_eased_50 : decode cX12_eased 50 = .ok (.invokevirtual 343, 3) := by decide +kernel
theorem dX12_eased_53 : decode cX12_eased 53 = .ok (.iload 4, 2) := by decide +kernel
theorem dX12_eased_55 : decode cX12_eased 55 = .ok (.ifCond .lt 8, 3) := by decide +kernel
theorem dX12_eased_58 : decode cX12_eased 58 = .ok (.iload 5, 2) := by decide +kernel
theorem dX12_eased_60 : decode cX12_eased 60 = .ok (.ifCond .ge 5, 3) := by decide +kernel
theorem dX12_eased_63 : decode cX12_eased 63 = .ok (.iconst (-1), 1) := by decide +kernel
theorem dX12_eased_64 : decode cX12_eased 64 = .ok (.ireturn, 1) := by decide +kernel
theorem dX12_eased_65 : decode cX12_eased 65 = .ok (.iload 4, 2) := by decide +kernel
theorem dX12_eased_67 : decode cX12_eased 67 = .ok (.iconst 1, 1) := by decide +kernel
theorem dX12_eased_68 : decode cX12_eased 68 = .ok (.if_icmp .ne 12, 3) := by decide +kernel
theorem dX12_eased_71 : decode cX12_eased 71 = .ok (.iload 5, 2) := by decide +kernel
theorem dX12_eased_73 : decode cX12_eased 73 = .ok (.ifCond .ne 7, 3) := by decide +kernel
theorem dX12_eased_76 : decode cX12_eased 76 = .ok (.iconst 1, 1) := by decide +kernel
theorem dX12_eased_77 : decode cX12_eased 77 = .ok (.goto 4, 3) := by decide +kernel
theorem dX12_eased_80 : decode cX12_eased 80 = .ok (.iconst 0, 1) := by decide +kernel
theorem dX12_eased_81 : decode cX12_eased 81 = .ok (.ireturn, 1) := by decide +kernel
theorem dX12_spell_0 : decode cX12_spell 0 = .ok (.aload_n 0, 1) := by decide +kernel
theorem dX12_spell_1 : decode cX12_spell 1 = .ok (.iload_n 1, 1) := by decide +kernel
theorem dX12_spell_2 : decode cX12_spell 2 = .ok (.invokevirtual 328, 3) := by decide +kernel
theorem dX12_spell_5 : decode cX12_spell 5 = .ok (.ifCond .eq 31, 3) := by decide +kernel
theorem dX12_spell_8 : decode cX12_spell 8 = .ok (.iload_n 2, 1) := by decide +kernel
theorem dX12_spell_9 : decode cX12_spell 9 = .ok (.iconst 0, 1) := by decide +kernel
theorem dX12_spell_10 : decode cX12_spell 10 = .ok (.aload_n 0, 1) := by decide +kernel
theorem dX12_spell_11 : decode cX12_spell 11 = .ok (.getfield 16, 3) := by decide +kernel
theorem dX12_spell_14 : decode cX12_spell 14 = .ok (.aload_n 0, 1) := by decide +kernel
theorem dX12_spell_15 : decode cX12_spell 15 = .ok (.getfield 229, 3) := by decide +kernel
theorem dX12_spell_18 : decode cX12_spell 18 = .ok (.iaload, 1) := by decide +kernel
theorem dX12_spell_19 : decode cX12_spell 19 = .ok (.iconst 1, 1) := by decide +kernel
theorem dX12_spell_20 : decode cX12_spell 20 = .ok (.isub, 1) := by decide +kernel
theorem dX12_spell_21 : decode cX12_spell 21 = .ok (.invokestatic 225, 3) := by decide +kernel
theorem dX12_spell_24 : decode cX12_spell 24 = .ok (.ifCond .eq 12, 3) := by decide +kernel
theorem dX12_spell_27 : decode cX12_spell 27 = .ok (.iload_n 3, 1) := by decide +kernel
theorem dX12_spell_28 : decode cX12_spell 28 = .ok (.iconst 0, 1) := by decide +kernel
theorem dX12_spell_29 : decode cX12_spell 29 = .ok (.iconst 2, 1) := by decide +kernel
theorem dX12_spell_30 : decode cX12_spell 30 = .ok (.invokestatic 225, 3) := by decide +kernel
theorem dX12_spell_33 : decode cX12_spell 33 = .ok (.ifCond .ne 5, 3) := by decide +kernel
theorem dX12_spell_36 : decode cX12_spell 36 = .ok (.iconst (-1), 1) := by decide +kernel
theorem dX12_spell_37 : decode cX12_spell 37 = .ok (.ireturn, 1) := by decide +kernel
theorem dX12_spell_38 : decode cX12_spell 38 = .ok (.iconst 0, 1) := by decide +kernel
theorem dX12_spell_39 : decode cX12_spell 39 = .ok (.istore 4, 2) := by decide +kernel
theorem dX12_spell_41 : decode cX12_spell 41 = .ok (.iconst 0, 1) := by decide +kernel
theorem dX12_spell_42 : decode cX12_spell 42 = .ok (.istore 5, 2) := by decide +kernel
theorem dX12_spell_44 : decode cX12_spell 44 = .ok (.iconst (-1), 1) := by decide +kernel
theorem dX12_spell_45 : decode cX12_spell 45 = .ok (.istore 6, 2) := by decide +kernel
theorem dX12_spell_47 : decode cX12_spell 47 = .ok (.iconst 0, 1) := by decide +kernel
theorem dX12_spell_48 : decode cX12_spell 48 = .ok (.istore 7, 2) := by decide +kernel
theorem dX12_spell_50 : decode cX12_spell 50 = .ok (.iconst 0, 1) := by decide +kernel
theorem dX12_spell_51 : decode cX12_spell 51 = .ok (.istore 8, 2) := by decide +kernel
theorem dX12_spell_53 : decode cX12_spell 53 = .ok (.iconst 0, 1) := by decide +kernel
theorem dX12_spell_54 : decode cX12_spell 54 = .ok (.istore 9, 2) := by decide +kernel
theorem dX12_spell_56 : decode cX12_spell 56 = .ok (.iload 9, 2) := by decide +kernel
theorem dX12_spell_58 : decode cX12_spell 58 = .ok (.aload_n 0, 1) := by decide +kernel
theorem dX12_spell_59 : decode cX12_spell 59 = .ok (.iload_n 1, 1) := by decide +kernel
theorem dX12_spell_60 : decode cX12_spell 60 = .ok (.invokevirtual 319, 3) := by decide +kernel
theorem dX12_spell_63 : decode cX12_spell 63 = .ok (.if_icmp .ge 163, 3) := by decide +kernel
theorem dX12_spell_66 : decode cX12_spell 66 = .ok (.aload_n 0, 1) := by decide +kernel
theorem dX12_spell_67 : decode cX12_spell 67 = .ok (.iload_n 1, 1) := by decide +kernel
theorem dX12_spell_68 : decode cX12_spell 68 = .ok (.iload 9, 2) := by decide +kernel
theorem dX12_spell_70 : decode cX12_spell 70 = .ok (.invokevirtual 296, 3) := by decide +kernel
theorem dX12_spell_73 : decode cX12_spell 73 = .ok (.istore 10, 2) := by decide +kernel
theorem dX12_spell_75 : decode cX12_spell 75 = .ok (.aload_n 0, 1) := by decide +kernel
theorem dX12_spell_76 : decode cX12_spell 76 = .ok (.iload_n 1, 1) := by decide +kernel
theorem dX12_spell_77 : decode cX12_spell 77 = .ok (.iload 9, 2) := by decide +kernel
theorem dX12_spell_79 : decode cX12_spell 79 = .ok (.invokevirtual 250, 3) := by decide +kernel
theorem dX12_spell_82 : decode cX12_spell 82 = .ok (.iconst 4, 1) := by decide +kernel
theorem dX12_spell_83 : decode cX12_spell 83 = .ok (.if_icmp .le 6, 3) := by decide +kernel
theorem dX12_spell_86 : decode cX12_spell 86 = .ok (.goto 134, 3) := by decide +kernel
theorem dX12_spell_89 : decode cX12_spell 89 = .ok (.aload_n 0, 1) := by decide +kernel
theorem dX12_spell_90 : decode cX12_spell 90 = .ok (.iload_n 1, 1) := by decide +kernel
theorem dX12_spell_91 : decode cX12_spell 91 = .ok (.iload 9, 2) := by decide +kernel
theorem dX12_spell_93 : decode cX12_spell 93 = .ok (.invokevirtual 250, 3) := by decide +kernel
theorem dX12_spell_96 : decode cX12_spell 96 = .ok (.iconst 4, 1) := by decide +kernel
theorem dX12_spell_97 : decode cX12_spell 97 = .ok (.if_icmp .ge 17, 3) := by decide +kernel
theorem dX12_spell_100 : decode cX12_spell 100 = .ok (.iload 7, 2) := by decide +kernel
theorem dX12_spell_102 : decode cX12_spell 102 = .ok (.iload 10, 2) := by decide +kernel
theorem dX12_spell_104 : decode cX12_spell 104 = .ok (.invokestatic 372, 3) := by decide +kernel
theorem dX12_spell_107 : decode cX12_spell 107 = .ok (.ifCond .ne 7, 3) := by decide +kernel
theorem dX12_spell_110 : decode cX12_spell 110 = .ok (.iconst 1, 1) := by decide +kernel
theorem dX12_spell_111 : decode cX12_spell 111 = .ok (.goto 4, 3) := by decide +kernel
theorem dX12_spell_114 : decode cX12_spell 114 = .ok (.iconst 0, 1) := by decide +kernel
theorem dX12_spell_115 : decode cX12_spell 115 = .ok (.istore 11, 2) := by decide +kernel
theorem dX12_spell_117 : decode cX12_spell 117 = .ok (.iload 11, 2) := by decide +kernel
theorem dX12_spell_119 : decode cX12_spell 119 = .ok (.ifCond .eq 30, 3) := by decide +kernel
theorem dX12_spell_122 : decode cX12_spell 122 = .ok (.iload 10, 2) := by decide +kernel
theorem dX12_spell_124 : decode cX12_spell 124 = .ok (.iload_n 2, 1) := by decide +kernel
theorem dX12_spell_125 : decode cX12_spell 125 = .ok (.if_icmp .ne 24, 3) := by decide +kernel
theorem dX12_spell_128 : decode cX12_spell 128 = .ok (.iload 4, 2) := by decide +kernel
theorem dX12_spell_130 : decode cX12_spell 130 = .ok (.ifCond .ne 8, 3) := by decide +kernel
theorem dX12_spell_133 : decode cX12_spell 133 = .ok (.iload 7, 2) := by decide +kernel
theorem dX12_spell_135 : decode cX12_spell 135 = .ok (.goto 5, 3) := by decide +kernel
theorem dX12_spell_138 : decode cX12_spell 138 = .ok (.iload 8, 2) := by decide +kernel
theorem dX12_spell_140 : decode cX12_spell 140 = .ok (.istore 8, 2) := by decide +kernel
theorem dX12_spell_142 : decode cX12_spell 142 = .ok (.iinc 4 1, 3) := by decide +kernel
theorem dX12_spell_145 : decode cX12_spell 145 = .ok (.iload 9, 2) := by decide +kernel
theorem dX12_spell_147 : decode cX12_spell 147 = .ok (.istore 6, 2) := by decide +kernel
theorem dX12_spell_149 : decode cX12_spell 149 = .ok (.aload_n 0, 1) := by decide +kernel
theorem dX12_spell_150 : decode cX12_spell 150 = .ok (.iload_n 1, 1) := by decide +kernel
theorem dX12_spell_151 : decode cX12_spell 151 = .ok (.iload 9, 2) := by decide +kernel
theorem dX12_spell_153 : decode cX12_spell 153 = .ok (.invokevirtual 250, 3) := by decide +kernel
theorem dX12_spell_156 : decode cX12_spell 156 = .ok (.iconst 4, 1) := by decide +kernel
theorem dX12_spell_157 : decode cX12_spell 157 = .ok (.if_icmp .ne 31, 3) := by decide +kernel
theorem dX12_spell_160 : decode cX12_spell 160 = .ok (.iload 10, 2) := by decide +kernel
theorem dX12_spell_162 : decode cX12_spell 162 = .ok (.iload_n 2, 1) := by decide +kernel
theorem dX12_spell_163 : decode cX12_spell 163 = .ok (.if_icmp .ne 25, 3) := by decide +kernel
theorem dX12_spell_166 : decode cX12_spell 166 = .ok (.iload 6, 2) := by decide +kernel
theorem dX12_spell_168 : decode cX12_spell 168 = .ok (.ifCond .lt 20, 3) := by decide +kernel
theorem dX12_spell_171 : decode cX12_spell 171 = .ok (.iload 5, 2) := by decide +kernel
theorem dX12_spell_173 : decode cX12_spell 173 = .ok (.iload 9, 2) := by decide +kernel
theorem dX12_spell_175 : decode cX12_spell 175 = .ok (.iload 6, 2) := by decide +kernel
theorem dX12_spell_177 : decode cX12_spell 177 = .ok (.isub, 1) := by decide +kernel
theorem dX12_spell_178 : decode cX12_spell 178 = .ok (.iconst 1, 1) := by decide +kernel
theorem dX12_spell_179 : decode cX12_spell 179 = .ok (.iadd, 1) := by decide +kernel
theorem dX12_spell_180 : decode cX12_spell 180 = .ok (.invokestatic 375, 3) := by decide +kernel
theorem dX12_spell_183 : decode cX12_spell 183 = .ok (.istore 5, 2) := by decide +kernel
theorem dX12_spell_185 : decode cX12_spell 185 = .ok (.iconst (-1), 1) := by decide +kernel
theorem dX12_spell_186 : decode cX12_spell 186 = .ok (.istore 6, 2) := by decide +kernel
theorem dX12_spell_188 : decode cX12_spell 188 = .ok (.aload_n 0, 1) := by decide +kernel
theorem dX12_spell_189 : decode cX12_spell 189 = .ok (.iload_n 1, 1) := by decide +kernel
theorem dX12_spell_190 : decode cX12_spell 190 = .ok (.iload 9, 2) := by decide +kernel
theorem dX12_spell_192 : decode cX12_spell 192 = .ok (.invokevirtual 250, 3) := by decide +kernel
theorem dX12_spell_195 : decode cX12_spell 195 = .ok (.iconst 4, 1) := by decide +kernel
theorem dX12_spell_196 : decode cX12_spell 196 = .ok (.if_icmp .ne 15, 3) := by decide +kernel
theorem dX12_spell_199 : decode cX12_spell 199 = .ok (.iload 7, 2) := by decide +kernel
theorem dX12_spell_201 : decode cX12_spell 201 = .ok (.iconst 1, 1) := by decide +kernel
theorem dX12_spell_202 : decode cX12_spell 202 = .ok (.iload 10, 2) := by decide +kernel
theorem dX12_spell_204 : decode cX12_spell 204 = .ok (.ishl, 1) := by decide +kernel
theorem dX12_spell_205 : decode cX12_spell 205 = .ok (.iconst (-1), 1) := by decide +kernel
theorem dX12_spell_206 : decode cX12_spell 206 = .ok (.ixor, 1) := by decide +kernel
theorem dX12_spell_207 : decode cX12_spell 207 = .ok (.iand, 1) := by decide +kernel
theorem dX12_spell_208 : decode cX12_spell 208 = .ok (.goto 10, 3) := by decide +kernel
theorem dX12_spell_211 : decode cX12_spell 211 = .ok (.iload 7, 2) := by decide +kernel
theorem dX12_spell_213 : decode cX12_spell 213 = .ok (.iconst 1, 1) := by decide +kernel
theorem dX12_spell_214 : decode cX12_spell 214 = .ok (.iload 10, 2) := by decide +kernel
theorem dX12_spell_216 : decode cX12_spell 216 = .ok (.ishl, 1) := by decide +kernel
theorem dX12_spell_217 : decode cX12_spell 217 = .ok (.ior, 1) := by decide +kernel
theorem dX12_spell_218 : decode cX12_spell 218 = .ok (.istore 7, 2) := by decide +kernel
theorem dX12_spell_220 : decode cX12_spell 220 = .ok (.iinc 9 1, 3) := by decide +kernel
theorem dX12_spell_223 : decode cX12_spell 223 = .ok (.goto (-167), 3) := by decide +kernel
theorem dX12_spell_226 : decode cX12_spell 226 = .ok (.iload 6, 2) := by decide +kernel
theorem dX12_spell_228 : decode cX12_spell 228 = .ok (.ifCond .lt 18, 3) := by decide +kernel
theorem dX12_spell_231 : decode cX12_spell 231 = .ok (.iload 5, 2) := by decide +kernel
theorem dX12_spell_233 : decode cX12_spell 233 = .ok (.aload_n 0, 1) := by decide +kernel
theorem dX12_spell_234 : decode cX12_spell 234 = .ok (.iload_n 1, 1) := by decide +kernel
theorem dX12_spell_235 : decode cX12_spell 235 = .ok (.invokevirtual 319, 3) := by decide +kernel
theorem dX12_spell_238 : decode cX12_spell 238 = .ok (.iload 6, 2) := by decide +kernel
theorem dX12_spell_240 : decode cX12_spell 240 = .ok (.isub, 1) := by decide +kernel
theorem dX12_spell_241 : decode cX12_spell 241 = .ok (.invokestatic 375, 3) := by decide +kernel
theorem dX12_spell_244 : decode cX12_spell 244 = .ok (.istore 5, 2) := by decide +kernel
theorem dX12_spell_246 : decode cX12_spell 246 = .ok (.iload_n 3, 1) := by decide +kernel
theorem dX12_spell_247 : decode cX12_spell 247 = .ok (.ifCond .ne 8, 3) := by decide +kernel
theorem dX12_spell_250 : decode cX12_spell 250 = .ok (.iload 4, 2) := by decide +kernel
theorem dX12_spell_252 : decode cX12_spell 252 = .ok (.goto 15, 3) := by decide +kernel
theorem dX12_spell_255 : decode cX12_spell 255 = .ok (.iload_n 3, 1) := by decide +kernel
theorem dX12_spell_256 : decode cX12_spell 256 = .ok (.iconst 1, 1) := by decide +kernel
theorem dX12_spell_257 : decode cX12_spell 257 = .ok (.if_icmp .ne 8, 3) := by decide +kernel
theorem dX12_spell_260 : decode cX12_spell 260 = .ok (.iload 5, 2) := by decide +kernel
theorem dX12_spell_262 : decode cX12_spell 262 = .ok (.goto 5, 3) := by decide +kernel
theorem dX12_spell_265 : decode cX12_spell 265 = .ok (.iload 8, 2) := by decide +kernel
theorem dX12_spell_267 : decode cX12_spell 267 = .ok (.ireturn, 1) := by decide +kernel
theorem dX12_layOrder_0 : decode cX12_layOrder 0 = .ok (.iconst 0, 1) := by decide +kernel
theorem dX12_layOrder_1 : decode cX12_layOrder 1 = .ok (.istore_n 1, 1) := by decide +kernel
theorem dX12_layOrder_2 : decode cX12_layOrder 2 = .ok (.iconst 0, 1) := by decide +kernel
theorem dX12_layOrder_3 : decode cX12_layOrder 3 = .ok (.istore_n 2, 1) := by decide +kernel
theorem dX12_layOrder_4 : decode cX12_layOrder 4 = .ok (.iconst 0, 1) := by decide +kernel
theorem dX12_layOrder_5 : decode cX12_layOrder 5 = .ok (.istore_n 3, 1) := by decide +kernel
theorem dX12_layOrder_6 : decode cX12_layOrder 6 = .ok (.iload_n 3, 1) := by decide +kernel
theorem dX12_layOrder_7 : decode cX12_layOrder 7 = .ok (.bipush 16, 2) := by decide +kernel
theorem dX12_layOrder_9 : decode cX12_layOrder 9 = .ok (.if_icmp .ge 50, 3) := by decide +kernel
theorem dX12_layOrder_12 : decode cX12_layOrder 12 = .ok (.iconst 0, 1) := by decide +kernel
theorem dX12_layOrder_13 : decode cX12_layOrder 13 = .ok (.istore 4, 2) := by decide +kernel
theorem dX12_layOrder_15 : decode cX12_layOrder 15 = .ok (.iload 4, 2) := by decide +kernel
theorem dX12_layOrder_17 : decode cX12_layOrder 17 = .ok (.bipush 16, 2) := by decide +kernel
theorem dX12_layOrder_19 : decode cX12_layOrder 19 = .ok (.if_icmp .ge 34, 3) := by decide +kernel
theorem dX12_layOrder_22 : decode cX12_layOrder 22 = .ok (.iload_n 1, 1) := by decide +kernel
theorem dX12_layOrder_23 : decode cX12_layOrder 23 = .ok (.aload_n 0, 1) := by decide +kernel
theorem dX12_layOrder_24 : decode cX12_layOrder 24 = .ok (.iload_n 3, 1) := by decide +kernel
theorem dX12_layOrder_25 : decode cX12_layOrder 25 = .ok (.iload 4, 2) := by decide +kernel
theorem dX12_layOrder_27 : decode cX12_layOrder 27 = .ok (.invokevirtual 259, 3) := by decide +kernel
theorem dX12_layOrder_30 : decode cX12_layOrder 30 = .ok (.ifCond .eq 14, 3) := by decide +kernel
theorem dX12_layOrder_33 : decode cX12_layOrder 33 = .ok (.iconst 1, 1) := by decide +kernel
theorem dX12_layOrder_34 : decode cX12_layOrder 34 = .ok (.iload_n 3, 1) := by decide +kernel
theorem dX12_layOrder_35 : decode cX12_layOrder 35 = .ok (.ishl, 1) := by decide +kernel
theorem dX12_layOrder_36 : decode cX12_layOrder 36 = .ok (.iconst 1, 1) := by decide +kernel
theorem dX12_layOrder_37 : decode cX12_layOrder 37 = .ok (.iload 4, 2) := by decide +kernel
theorem dX12_layOrder_39 : decode cX12_layOrder 39 = .ok (.ishl, 1) := by decide +kernel
theorem dX12_layOrder_40 : decode cX12_layOrder 40 = .ok (.ior, 1) := by decide +kernel
theorem dX12_layOrder_41 : decode cX12_layOrder 41 = .ok (.goto 4, 3) := by decide +kernel
theorem dX12_layOrder_44 : decode cX12_layOrder 44 = .ok (.iconst 0, 1) := by decide +kernel
theorem dX12_layOrder_45 : decode cX12_layOrder 45 = .ok (.ior, 1) := by decide +kernel
theorem dX12_layOrder_46 : decode cX12_layOrder 46 = .ok (.istore_n 1, 1) := by decide +kernel
theorem dX12_layOrder_47 : decode cX12_layOrder 47 = .ok (.iinc 4 1, 3) := by decide +kernel
theorem dX12_layOrder_50 : decode cX12_layOrder 50 = .ok (.goto (-35), 3) := by decide +kernel
theorem dX12_layOrder_53 : decode cX12_layOrder 53 = .ok (.iinc 3 1, 3) := by decide +kernel
theorem dX12_layOrder_56 : decode cX12_layOrder 56 = .ok (.goto (-50), 3) := by decide +kernel
theorem dX12_layOrder_59 : decode cX12_layOrder 59 = .ok (.iload_n 1, 1) := by decide +kernel
theorem dX12_layOrder_60 : decode cX12_layOrder 60 = .ok (.ifCond .eq 63, 3) := by decide +kernel
theorem dX12_layOrder_63 : decode cX12_layOrder 63 = .ok (.iconst 0, 1) := by decide +kernel
theorem dX12_layOrder_64 : decode cX12_layOrder 64 = .ok (.istore_n 3, 1) := by decide +kernel
theorem dX12_layOrder_65 : decode cX12_layOrder 65 = .ok (.iload_n 3, 1) := by decide +kernel
theorem dX12_layOrder_66 : decode cX12_layOrder 66 = .ok (.bipush 16, 2) := by decide +kernel
theorem dX12_layOrder_68 : decode cX12_layOrder 68 = .ok (.if_icmp .ge 26, 3) := by decide +kernel
theorem dX12_layOrder_71 : decode cX12_layOrder 71 = .ok (.iload_n 1, 1) := by decide +kernel
theorem dX12_layOrder_72 : decode cX12_layOrder 72 = .ok (.iload_n 3, 1) := by decide +kernel
theorem dX12_layOrder_73 : decode cX12_layOrder 73 = .ok (.invokestatic 372, 3) := by decide +kernel
theorem dX12_layOrder_76 : decode cX12_layOrder 76 = .ok (.ifCond .eq 12, 3) := by decide +kernel
theorem dX12_layOrder_79 : decode cX12_layOrder 79 = .ok (.aload_n 0, 1) := by decide +kernel
theorem dX12_layOrder_80 : decode cX12_layOrder 80 = .ok (.iload_n 3, 1) := by decide +kernel
theorem dX12_layOrder_81 : decode cX12_layOrder 81 = .ok (.iload_n 1, 1) := by decide +kernel
theorem dX12_layOrder_82 : decode cX12_layOrder 82 = .ok (.invokevirtual 378, 3) := by decide +kernel
theorem dX12_layOrder_85 : decode cX12_layOrder 85 = .ok (.ifCond .eq 9, 3) := by decide +kernel
theorem dX12_layOrder_88 : decode cX12_layOrder 88 = .ok (.iinc 3 1, 3) := by decide +kernel
theorem dX12_layOrder_91 : decode cX12_layOrder 91 = .ok (.goto (-26), 3) := by decide +kernel
theorem dX12_layOrder_94 : decode cX12_layOrder 94 = .ok (.iload_n 3, 1) := by decide +kernel
theorem dX12_layOrder_95 : decode cX12_layOrder 95 = .ok (.bipush 16, 2) := by decide +kernel
theorem dX12_layOrder_97 : decode cX12_layOrder 97 = .ok (.if_icmp .ne 5, 3) := by decide +kernel
theorem dX12_layOrder_100 : decode cX12_layOrder 100 = .ok (.iconst (-1), 1) := by decide +kernel
theorem dX12_layOrder_101 : decode cX12_layOrder 101 = .ok (.ireturn, 1) := by decide +kernel
theorem dX12_layOrder_102 : decode cX12_layOrder 102 = .ok (.aload_n 0, 1) := by decide +kernel
theorem dX12_layOrder_103 : decode cX12_layOrder 103 = .ok (.getfield 75, 3) := by decide +kernel
theorem dX12_layOrder_106 : decode cX12_layOrder 106 = .ok (.iload_n 2, 1) := by decide +kernel
theorem dX12_layOrder_107 : decode cX12_layOrder 107 = .ok (.iload_n 3, 1) := by decide +kernel
theorem dX12_layOrder_108 : decode cX12_layOrder 108 = .ok (.iastore, 1) := by decide +kernel
theorem dX12_layOrder_109 : decode cX12_layOrder 109 = .ok (.iinc 2 1, 3) := by decide +kernel
theorem dX12_layOrder_112 : decode cX12_layOrder 112 = .ok (.iload_n 1, 1) := by decide +kernel
theorem dX12_layOrder_113 : decode cX12_layOrder 113 = .ok (.iconst 1, 1) := by decide +kernel
theorem dX12_layOrder_114 : decode cX12_layOrder 114 = .ok (.iload_n 3, 1) := by decide +kernel
theorem dX12_layOrder_115 : decode cX12_layOrder 115 = .ok (.ishl, 1) := by decide +kernel
theorem dX12_layOrder_116 : decode cX12_layOrder 116 = .ok (.iconst (-1), 1) := by decide +kernel
theorem dX12_layOrder_117 : decode cX12_layOrder 117 = .ok (.ixor, 1) := by decide +kernel
theorem dX12_layOrder_118 : decode cX12_layOrder 118 = .ok (.iand, 1) := by decide +kernel
theorem dX12_layOrder_119 : decode cX12_layOrder 119 = .ok (.istore_n 1, 1) := by decide +kernel
theorem dX12_layOrder_120 : decode cX12_layOrder 120 = .ok (.goto (-61), 3) := by decide +kernel
theorem dX12_layOrder_123 : decode cX12_layOrder 123 = .ok (.iload_n 2, 1) := by decide +kernel
theorem dX12_layOrder_124 : decode cX12_layOrder 124 = .ok (.ireturn, 1) := by decide +kernel
theorem dX12_isLedTo_0 : decode cX12_isLedTo 0 = .ok (.iconst 0, 1) := by decide +kernel
theorem dX12_isLedTo_1 : decode cX12_isLedTo 1 = .ok (.istore_n 3, 1) := by decide +kernel
theorem dX12_isLedTo_2 : decode cX12_isLedTo 2 = .ok (.iload_n 3, 1) := by decide +kernel
theorem dX12_isLedTo_3 : decode cX12_isLedTo 3 = .ok (.bipush 16, 2) := by decide +kernel
theorem dX12_isLedTo_5 : decode cX12_isLedTo 5 = .ok (.if_icmp .ge 28, 3) := by decide +kernel
theorem dX12_isLedTo_8 : decode cX12_isLedTo 8 = .ok (.iload_n 2, 1) := by decide +kernel
theorem dX12_isLedTo_9 : decode cX12_isLedTo 9 = .ok (.iload_n 3, 1) := by decide +kernel
theorem dX12_isLedTo_10 : decode cX12_isLedTo 10 = .ok (.invokestatic 372, 3) := by decide +kernel
theorem dX12_isLedTo_13 : decode cX12_isLedTo 13 = .ok (.ifCond .eq 14, 3) := by decide +kernel
theorem dX12_isLedTo_16 : decode cX12_isLedTo 16 = .ok (.aload_n 0, 1) := by decide +kernel
theorem dX12_isLedTo_17 : decode cX12_isLedTo 17 = .ok (.iload_n 3, 1) := by decide +kernel
theorem dX12_isLedTo_18 : decode cX12_isLedTo 18 = .ok (.iload_n 1, 1) := by decide +kernel
theorem dX12_isLedTo_19 : decode cX12_isLedTo 19 = .ok (.invokevirtual 259, 3) := by decide +kernel
theorem dX12_isLedTo_22 : decode cX12_isLedTo 22 = .ok (.ifCond .eq 5, 3) := by decide +kernel
theorem dX12_isLedTo_25 : decode cX12_isLedTo 25 = .ok (.iconst 1, 1) := by decide +kernel
theorem dX12_isLedTo_26 : decode cX12_isLedTo 26 = .ok (.ireturn, 1) := by decide +kernel
theorem dX12_isLedTo_27 : decode cX12_isLedTo 27 = .ok (.iinc 3 1, 3) := by decide +kernel
theorem dX12_isLedTo_30 : decode cX12_isLedTo 30 = .ok (.goto (-28), 3) := by decide +kernel
theorem dX12_isLedTo_33 : decode cX12_isLedTo 33 = .ok (.iconst 0, 1) := by decide +kernel
theorem dX12_isLedTo_34 : decode cX12_isLedTo 34 = .ok (.ireturn, 1) := by decide +kernel
theorem dX12_order_0 : decode cX12_order 0 = .ok (.aload_n 0, 1) := by decide +kernel
theorem dX12_order_1 : decode cX12_order 1 = .ok (.invokevirtual 381, 3) := by decide +kernel
theorem dX12_order_4 : decode cX12_order 4 = .ok (.istore_n 2, 1) := by decide +kernel
theorem dX12_order_5 : decode cX12_order 5 = .ok (.iload_n 1, 1) := by decide +kernel
theorem dX12_order_6 : decode cX12_order 6 = .ok (.iconst 0, 1) := by decide +kernel
theorem dX12_order_7 : decode cX12_order 7 = .ok (.iload_n 2, 1) := by decide +kernel
theorem dX12_order_8 : decode cX12_order 8 = .ok (.iconst 1, 1) := by decide +kernel
theorem dX12_order_9 : decode cX12_order 9 = .ok (.isub, 1) := by decide +kernel
theorem dX12_order_10 : decode cX12_order 10 = .ok (.invokestatic 225, 3) := by decide +kernel
theorem dX12_order_13 : decode cX12_order 13 = .ok (.ifCond .eq 12, 3) := by decide +kernel
theorem dX12_order_16 : decode cX12_order 16 = .ok (.aload_n 0, 1) := by decide +kernel
theorem dX12_order_17 : decode cX12_order 17 = .ok (.getfield 75, 3) := by decide +kernel
theorem dX12_order_20 : decode cX12_order 20 = .ok (.iload_n 1, 1) := by decide +kernel
theorem dX12_order_21 : decode cX12_order 21 = .ok (.iaload, 1) := by decide +kernel
theorem dX12_order_22 : decode cX12_order 22 = .ok (.goto 4, 3) := by decide +kernel
theorem dX12_order_25 : decode cX12_order 25 = .ok (.iconst (-1), 1) := by decide +kernel
theorem dX12_order_26 : decode cX12_order 26 = .ok (.ireturn, 1) := by decide +kernel
theorem dX12_canMend_0 : decode cX12_canMend 0 = .ok (.iload_n 1, 1) := by decide +kernel
theorem dX12_canMend_1 : decode cX12_canMend 1 = .ok (.ifCond .ne 16, 3) := by decide +kernel
theorem dX12_canMend_4 : decode cX12_canMend 4 = .ok (.aload_n 0, 1) := by decide +kernel
theorem dX12_canMend_5 : decode cX12_canMend 5 = .ok (.invokevirtual 381, 3) := by decide +kernel
theorem dX12_canMend_8 : decode cX12_canMend 8 = .ok (.ifCond .lt 7, 3) := by decide +kernel
theorem dX12_canMend_11 : decode cX12_canMend 11 = .ok (.iconst 1, 1) := by decide +kernel
theorem dX12_canMend_12 : decode cX12_canMend 12 = .ok (.goto 4, 3) := by decide +kernel
theorem dX12_canMend_15 : decode cX12_canMend 15 = .ok (.iconst 0, 1) := by decide +kernel
theorem dX12_canMend_16 : decode cX12_canMend 16 = .ok (.ireturn, 1) := by decide +kernel
theorem dX12_canMend_17 : decode cX12_canMend 17 = .ok (.iload_n 2, 1) := by decide +kernel
theorem dX12_canMend_18 : decode cX12_canMend 18 = .ok (.istore 4, 2) := by decide +kernel
theorem dX12_canMend_20 : decode cX12_canMend 20 = .ok (.iload 4, 2) := by decide +kernel
theorem dX12_canMend_22 : decode cX12_canMend 22 = .ok (.iload_n 3, 1) := by decide +kernel
theorem dX12_canMend_23 : decode cX12_canMend 23 = .ok (.if_icmp .ge 111, 3) := by decide +kernel
theorem dX12_canMend_26 : decode cX12_canMend 26 = .ok (.aload_n 0, 1) := by decide +kernel
theorem dX12_canMend_27 : decode cX12_canMend 27 = .ok (.getfield 7, 3) := by decide +kernel
theorem dX12_canMend_30 : decode cX12_canMend 30 = .ok (.iconst 0, 1) := by decide +kernel
theorem dX12_canMend_31 : decode cX12_canMend 31 = .ok (.aload_n 0, 1) := by decide +kernel
theorem dX12_canMend_32 : decode cX12_canMend 32 = .ok (.getfield 78, 3) := by decide +kernel
theorem dX12_canMend_35 : decode cX12_canMend 35 = .ok (.iload 4, 2) := by decide +kernel
theorem dX12_canMend_37 : decode cX12_canMend 37 = .ok (.iaload, 1) := by decide +kernel
theorem dX12_canMend_38 : decode cX12_canMend 38 = .ok (.iadd, 1) := by decide +kernel
theorem dX12_canMend_39 : decode cX12_canMend 39 = .ok (.iaload, 1) := by decide +kernel
theorem dX12_canMend_40 : decode cX12_canMend 40 = .ok (.istore 5, 2) := by decide +kernel
theorem dX12_canMend_42 : decode cX12_canMend 42 = .ok (.aload_n 0, 1) := by decide +kernel
theorem dX12_canMend_43 : decode cX12_canMend 43 = .ok (.getfield 7, 3) := by decide +kernel
theorem dX12_canMend_46 : decode cX12_canMend 46 = .ok (.iconst 0, 1) := by decide +kernel
theorem dX12_canMend_47 : decode cX12_canMend 47 = .ok (.aload_n 0, 1) := by decide +kernel
theorem dX12_canMend_48 : decode cX12_canMend 48 = .ok (.getfield 78, 3) := by decide +kernel
theorem dX12_canMend_51 : decode cX12_canMend 51 = .ok (.iload 4, 2) := by decide +kernel
theorem dX12_canMend_53 : decode cX12_canMend 53 = .ok (.iaload, 1) := by decide +kernel
theorem dX12_canMend_54 : decode cX12_canMend 54 = .ok (.iadd, 1) := by decide +kernel
theorem dX12_canMend_55 : decode cX12_canMend 55 = .ok (.iconst 0, 1) := by decide +kernel
theorem dX12_canMend_56 : decode cX12_canMend 56 = .ok (.iastore, 1) := by decide +kernel
theorem dX12_canMend_57 : decode cX12_canMend 57 = .ok (.iload_n 1, 1) := by decide +kernel
theorem dX12_canMend_58 : decode cX12_canMend 58 = .ok (.iconst 1, 1) := by decide +kernel
theorem dX12_canMend_59 : decode cX12_canMend 59 = .ok (.if_icmp .ne 18, 3) := by decide +kernel
theorem dX12_canMend_62 : decode cX12_canMend 62 = .ok (.aload_n 0, 1) := by decide +kernel
theorem dX12_canMend_63 : decode cX12_canMend 63 = .ok (.invokevirtual 381, 3) := by decide +kernel
theorem dX12_canMend_66 : decode cX12_canMend 66 = .ok (.ifCond .lt 7, 3) := by decide +kernel
theorem dX12_canMend_69 : decode cX12_canMend 69 = .ok (.iconst 1, 1) := by decide +kernel
theorem dX12_canMend_70 : decode cX12_canMend 70 = .ok (.goto 19, 3) := by decide +kernel
theorem dX12_canMend_73 : decode cX12_canMend 73 = .ok (.iconst 0, 1) := by decide +kernel
theorem dX12_canMend_74 : decode cX12_canMend 74 = .ok (.goto 15, 3) := by decide +kernel
theorem dX12_canMend_77 : decode cX12_canMend 77 = .ok (.aload_n 0, 1) := by decide +kernel
theorem dX12_canMend_78 : decode cX12_canMend 78 = .ok (.iload_n 1, 1) := by decide +kernel
theorem dX12_canMend_79 : decode cX12_canMend 79 = .ok (.iconst 1, 1) := by decide +kernel
theorem dX12_canMend_80 : decode cX12_canMend 80 = .ok (.isub, 1) := by decide +kernel
theorem dX12_canMend_81 : decode cX12_canMend 81 = .ok (.iload 4, 2) := by decide +kernel
theorem dX12_canMend_83 : decode cX12_canMend 83 = .ok (.iconst 1, 1) := by decide +kernel
theorem dX12_canMend_84 : decode cX12_canMend 84 = .ok (.iadd, 1) := by decide +kernel
theorem dX12_canMend_85 : decode cX12_canMend 85 = .ok (.iload_n 3, 1) := by decide +kernel
theorem dX12_canMend_86 : decode cX12_canMend 86 = .ok (.invokevirtual 384, 3) := by decide +kernel
theorem dX12_canMend_89 : decode cX12_canMend 89 = .ok (.istore 6, 2) := by decide +kernel
theorem dX12_canMend_91 : decode cX12_canMend 91 = .ok (.aload_n 0, 1) := by decide +kernel
theorem dX12_canMend_92 : decode cX12_canMend 92 = .ok (.getfield 7, 3) := by decide +kernel
theorem dX12_canMend_95 : decode cX12_canMend 95 = .ok (.iconst 0, 1) := by decide +kernel
theorem dX12_canMend_96 : decode cX12_canMend 96 = .ok (.aload_n 0, 1) := by decide +kernel
theorem dX12_canMend_97 : decode cX12_canMend 97 = .ok (.getfield 78, 3) := by decide +kernel
theorem dX12_canMend_100 : decode cX12_canMend 100 = .ok (.iload 4, 2) := by decide +kernel
theorem dX12_canMend_102 : decode cX12_canMend 102 = .ok (.iaload, 1) := by decide +kernel
theorem dX12_canMend_103 : decode cX12_canMend 103 = .ok (.iadd, 1) := by decide +kernel
theorem dX12_canMend_104 : decode cX12_canMend 104 = .ok (.iload 5, 2) := by decide +kernel
theorem dX12_canMend_106 : decode cX12_canMend 106 = .ok (.iastore, 1) := by decide +kernel
theorem dX12_canMend_107 : decode cX12_canMend 107 = .ok (.iload 6, 2) := by decide +kernel
theorem dX12_canMend_109 : decode cX12_canMend 109 = .ok (.ifCond .ne 6, 3) := by decide +kernel
theorem dX12_canMend_112 : decode cX12_canMend 112 = .ok (.goto 16, 3) := by decide +kernel
theorem dX12_canMend_115 : decode cX12_canMend 115 = .ok (.aload_n 0, 1) := by decide +kernel
theorem dX12_canMend_116 : decode cX12_canMend 116 = .ok (.aload_n 0, 1) := by decide +kernel
theorem dX12_canMend_117 : decode cX12_canMend 117 = .ok (.getfield 78, 3) := by decide +kernel
theorem dX12_canMend_120 : decode cX12_canMend 120 = .ok (.iload 4, 2) := by decide +kernel
theorem dX12_canMend_122 : decode cX12_canMend 122 = .ok (.iaload, 1) := by decide +kernel
theorem dX12_canMend_123 : decode cX12_canMend 123 = .ok (.putfield 387, 3) := by decide +kernel
theorem dX12_canMend_126 : decode cX12_canMend 126 = .ok (.iconst 1, 1) := by decide +kernel
theorem dX12_canMend_127 : decode cX12_canMend 127 = .ok (.ireturn, 1) := by decide +kernel
theorem dX12_canMend_128 : decode cX12_canMend 128 = .ok (.iinc 4 1, 3) := by decide +kernel
theorem dX12_canMend_131 : decode cX12_canMend 131 = .ok (.goto (-111), 3) := by decide +kernel
theorem dX12_canMend_134 : decode cX12_canMend 134 = .ok (.iconst 0, 1) := by decide +kernel
theorem dX12_canMend_135 : decode cX12_canMend 135 = .ok (.ireturn, 1) := by decide +kernel
theorem dX12_canMendMore_0 : decode cX12_canMendMore 0 = .ok (.iload_n 2, 1) := by decide +kernel
theorem dX12_canMendMore_1 : decode cX12_canMendMore 1 = .ok (.istore 4, 2) := by decide +kernel
theorem dX12_canMendMore_3 : decode cX12_canMendMore 3 = .ok (.iload 4, 2) := by decide +kernel
theorem dX12_canMendMore_5 : decode cX12_canMendMore 5 = .ok (.iload_n 3, 1) := by decide +kernel
theorem dX12_canMendMore_6 : decode cX12_canMendMore 6 = .ok (.if_icmp .ge 94, 3) := by decide +kernel
theorem dX12_canMendMore_9 : decode cX12_canMendMore 9 = .ok (.aload_n 0, 1) := by decide +kernel
theorem dX12_canMendMore_10 : decode cX12_canMendMore 10 = .ok (.getfield 7, 3) := by decide +kernel
theorem dX12_canMendMore_13 : decode cX12_canMendMore 13 = .ok (.iconst 0, 1) := by decide +kernel
theorem dX12_canMendMore_14 : decode cX12_canMendMore 14 = .ok (.aload_n 0, 1) := by decide +kernel
theorem dX12_canMendMore_15 : decode cX12_canMendMore 15 = .ok (.getfield 78, 3) := by decide +kernel
theorem dX12_canMendMore_18 : decode cX12_canMendMore 18 = .ok (.iload 4, 2) := by decide +kernel
theorem dX12_canMendMore_20 : decode cX12_canMendMore 20 = .ok (.iaload, 1) := by decide +kernel
theorem dX12_canMendMore_21 : decode cX12_canMendMore 21 = .ok (.iadd, 1) := by decide +kernel
theorem dX12_canMendMore_22 : decode cX12_canMendMore 22 = .ok (.iaload, 1) := by decide +kernel
theorem dX12_canMendMore_23 : decode cX12_canMendMore 23 = .ok (.istore 5, 2) := by decide +kernel
theorem dX12_canMendMore_25 : decode cX12_canMendMore 25 = .ok (.aload_n 0, 1) := by decide +kernel
theorem dX12_canMendMore_26 : decode cX12_canMendMore 26 = .ok (.getfield 7, 3) := by decide +kernel
theorem dX12_canMendMore_29 : decode cX12_canMendMore 29 = .ok (.iconst 0, 1) := by decide +kernel
theorem dX12_canMendMore_30 : decode cX12_canMendMore 30 = .ok (.aload_n 0, 1) := by decide +kernel
theorem dX12_canMendMore_31 : decode cX12_canMendMore 31 = .ok (.getfield 78, 3) := by decide +kernel
theorem dX12_canMendMore_34 : decode cX12_canMendMore 34 = .ok (.iload 4, 2) := by decide +kernel
theorem dX12_canMendMore_36 : decode cX12_canMendMore 36 = .ok (.iaload, 1) := by decide +kernel
theorem dX12_canMendMore_37 : decode cX12_canMendMore 37 = .ok (.iadd, 1) := by decide +kernel
theorem dX12_canMendMore_38 : decode cX12_canMendMore 38 = .ok (.iconst 0, 1) := by decide +kernel
theorem dX12_canMendMore_39 : decode cX12_canMendMore 39 = .ok (.iastore, 1) := by decide +kernel
theorem dX12_canMendMore_40 : decode cX12_canMendMore 40 = .ok (.iload_n 1, 1) := by decide +kernel
theorem dX12_canMendMore_41 : decode cX12_canMendMore 41 = .ok (.iconst 1, 1) := by decide +kernel
theorem dX12_canMendMore_42 : decode cX12_canMendMore 42 = .ok (.if_icmp .ne 18, 3) := by decide +kernel
theorem dX12_canMendMore_45 : decode cX12_canMendMore 45 = .ok (.aload_n 0, 1) := by decide +kernel
theorem dX12_canMendMore_46 : decode cX12_canMendMore 46 = .ok (.invokevirtual 381, 3) := by decide +kernel
theorem dX12_canMendMore_49 : decode cX12_canMendMore 49 = .ok (.ifCond .lt 7, 3) := by decide +kernel
theorem dX12_canMendMore_52 : decode cX12_canMendMore 52 = .ok (.iconst 1, 1) := by decide +kernel
theorem dX12_canMendMore_53 : decode cX12_canMendMore 53 = .ok (.goto 16, 3) := by decide +kernel
theorem dX12_canMendMore_56 : decode cX12_canMendMore 56 = .ok (.iconst 0, 1) := by decide +kernel
theorem dX12_canMendMore_57 : decode cX12_canMendMore 57 = .ok (.goto 12, 3) := by decide +kernel
theorem dX12_canMendMore_60 : decode cX12_canMendMore 60 = .ok (.aload_n 0, 1) := by decide +kernel
theorem dX12_canMendMore_61 : decode cX12_canMendMore 61 = .ok (.iload 4, 2) := by decide +kernel
theorem dX12_canMendMore_63 : decode cX12_canMendMore 63 = .ok (.iconst 1, 1) := by decide +kernel
theorem dX12_canMendMore_64 : decode cX12_canMendMore 64 = .ok (.iadd, 1) := by decide +kernel
theorem dX12_canMendMore_65 : decode cX12_canMendMore 65 = .ok (.iload_n 3, 1) := by decide +kernel
theorem dX12_canMendMore_66 : decode cX12_canMendMore 66 = .ok (.invokevirtual 390, 3) := by decide +kernel
theorem dX12_canMendMore_69 : decode cX12_canMendMore 69 = .ok (.istore 6, 2) := by decide +kernel
theorem dX12_canMendMore_71 : decode cX12_canMendMore 71 = .ok (.aload_n 0, 1) := by decide +kernel
theorem dX12_canMendMore_72 : decode cX12_canMendMore 72 = .ok (.getfield 7, 3) := by decide +kernel
theorem dX12_canMendMore_75 : decode cX12_canMendMore 75 = .ok (.iconst 0, 1) := by decide +kernel
theorem dX12_canMendMore_76 : decode cX12_canMendMore 76 = .ok (.aload_n 0, 1) := by decide +kernel
theorem dX12_canMendMore_77 : decode cX12_canMendMore 77 = .ok (.getfield 78, 3) := by decide +kernel
theorem dX12_canMendMore_80 : decode cX12_canMendMore 80 = .ok (.iload 4, 2) := by decide +kernel
theorem dX12_canMendMore_82 : decode cX12_canMendMore 82 = .ok (.iaload, 1) := by decide +kernel
theorem dX12_canMendMore_83 : decode cX12_canMendMore 83 = .ok (.iadd, 1) := by decide +kernel
theorem dX12_canMendMore_84 : decode cX12_canMendMore 84 = .ok (.iload 5, 2) := by decide +kernel
theorem dX12_canMendMore_86 : decode cX12_canMendMore 86 = .ok (.iastore, 1) := by decide +kernel
theorem dX12_canMendMore_87 : decode cX12_canMendMore 87 = .ok (.iload 6, 2) := by decide +kernel
theorem dX12_canMendMore_89 : decode cX12_canMendMore 89 = .ok (.ifCond .eq 5, 3) := by decide +kernel
theorem dX12_canMendMore_92 : decode cX12_canMendMore 92 = .ok (.iconst 1, 1) := by decide +kernel
theorem dX12_canMendMore_93 : decode cX12_canMendMore 93 = .ok (.ireturn, 1) := by decide +kernel
theorem dX12_canMendMore_94 : decode cX12_canMendMore 94 = .ok (.iinc 4 1, 3) := by decide +kernel
theorem dX12_canMendMore_97 : decode cX12_canMendMore 97 = .ok (.goto (-94), 3) := by decide +kernel
theorem dX12_canMendMore_100 : decode cX12_canMendMore 100 = .ok (.iconst 0, 1) := by decide +kernel
theorem dX12_canMendMore_101 : decode cX12_canMendMore 101 = .ok (.ireturn, 1) := by decide +kernel
theorem dX12_canMendLast_0 : decode cX12_canMendLast 0 = .ok (.iload_n 1, 1) := by decide +kernel
theorem dX12_canMendLast_1 : decode cX12_canMendLast 1 = .ok (.istore_n 3, 1) := by decide +kernel
theorem dX12_canMendLast_2 : decode cX12_canMendLast 2 = .ok (.iload_n 3, 1) := by decide +kernel
theorem dX12_canMendLast_3 : decode cX12_canMendLast 3 = .ok (.iload_n 2, 1) := by decide +kernel
theorem dX12_canMendLast_4 : decode cX12_canMendLast 4 = .ok (.if_icmp .ge 74, 3) := by decide +kernel
theorem dX12_canMendLast_7 : decode cX12_canMendLast 7 = .ok (.aload_n 0, 1) := by decide +kernel
theorem dX12_canMendLast_8 : decode cX12_canMendLast 8 = .ok (.getfield 7, 3) := by decide +kernel
theorem dX12_canMendLast_11 : decode cX12_canMendLast 11 = .ok (.iconst 0, 1) := by decide +kernel
theorem dX12_canMendLast_12 : decode cX12_canMendLast 12 = .ok (.aload_n 0, 1) := by decide +kernel
theorem dX12_canMendLast_13 : decode cX12_canMendLast 13 = .ok (.getfield 78, 3) := by decide +kernel
theorem dX12_canMendLast_16 : decode cX12_canMendLast 16 = .ok (.iload_n 3, 1) := by decide +kernel
theorem dX12_canMendLast_17 : decode cX12_canMendLast 17 = .ok (.iaload, 1) := by decide +kernel
theorem dX12_canMendLast_18 : decode cX12_canMendLast 18 = .ok (.iadd, 1) := by decide +kernel
theorem dX12_canMendLast_19 : decode cX12_canMendLast 19 = .ok (.iaload, 1) := by decide +kernel
theorem dX12_canMendLast_20 : decode cX12_canMendLast 20 = .ok (.istore 4, 2) := by decide +kernel
theorem dX12_canMendLast_22 : decode cX12_canMendLast 22 = .ok (.aload_n 0, 1) := by decide +kernel
theorem dX12_canMendLast_23 : decode cX12_canMendLast 23 = .ok (.getfield 7, 3) := by decide +kernel
theorem dX12_canMendLast_26 : decode cX12_canMendLast 26 = .ok (.iconst 0, 1) := by decide +kernel
theorem dX12_canMendLast_27 : decode cX12_canMendLast 27 = .ok (.aload_n 0, 1) := by decide +kernel
theorem dX12_canMendLast_28 : decode cX12_canMendLast 28 = .ok (.getfield 78, 3) := by decide +kernel
theorem dX12_canMendLast_31 : decode cX12_canMendLast 31 = .ok (.iload_n 3, 1) := by decide +kernel
theorem dX12_canMendLast_32 : decode cX12_canMendLast 32 = .ok (.iaload, 1) := by decide +kernel
theorem dX12_canMendLast_33 : decode cX12_canMendLast 33 = .ok (.iadd, 1) := by decide +kernel
theorem dX12_canMendLast_34 : decode cX12_canMendLast 34 = .ok (.iconst 0, 1) := by decide +kernel
theorem dX12_canMendLast_35 : decode cX12_canMendLast 35 = .ok (.iastore, 1) := by decide +kernel
theorem dX12_canMendLast_36 : decode cX12_canMendLast 36 = .ok (.aload_n 0, 1) := by decide +kernel
theorem dX12_canMendLast_37 : decode cX12_canMendLast 37 = .ok (.invokevirtual 381, 3) := by decide +kernel
theorem dX12_canMendLast_40 : decode cX12_canMendLast 40 = .ok (.ifCond .lt 7, 3) := by decide +kernel
theorem dX12_canMendLast_43 : decode cX12_canMendLast 43 = .ok (.iconst 1, 1) := by decide +kernel
theorem dX12_canMendLast_44 : decode cX12_canMendLast 44 = .ok (.goto 4, 3) := by decide +kernel
theorem dX12_canMendLast_47 : decode cX12_canMendLast 47 = .ok (.iconst 0, 1) := by decide +kernel
theorem dX12_canMendLast_48 : decode cX12_canMendLast 48 = .ok (.istore 5, 2) := by decide +kernel
theorem dX12_canMendLast_50 : decode cX12_canMendLast 50 = .ok (.aload_n 0, 1) := by decide +kernel
theorem dX12_canMendLast_51 : decode cX12_canMendLast 51 = .ok (.getfield 7, 3) := by decide +kernel
theorem dX12_canMendLast_54 : decode cX12_canMendLast 54 = .ok (.iconst 0, 1) := by decide +kernel
theorem dX12_canMendLast_55 : decode cX12_canMendLast 55 = .ok (.aload_n 0, 1) := by decide +kernel
theorem dX12_canMendLast_56 : decode cX12_canMendLast 56 = .ok (.getfield 78, 3) := by decide +kernel
theorem dX12_canMendLast_59 : decode cX12_canMendLast 59 = .ok (.iload_n 3, 1) := by decide +kernel
theorem dX12_canMendLast_60 : decode cX12_canMendLast 60 = .ok (.iaload, 1) := by decide +kernel
theorem dX12_canMendLast_61 : decode cX12_canMendLast 61 = .ok (.iadd, 1) := by decide +kernel
theorem dX12_canMendLast_62 : decode cX12_canMendLast 62 = .ok (.iload 4, 2) := by decide +kernel
theorem dX12_canMendLast_64 : decode cX12_canMendLast 64 = .ok (.iastore, 1) := by decide +kernel
theorem dX12_canMendLast_65 : decode cX12_canMendLast 65 = .ok (.iload 5, 2) := by decide +kernel
theorem dX12_canMendLast_67 : decode cX12_canMendLast 67 = .ok (.ifCond .eq 5, 3) := by decide +kernel
theorem dX12_canMendLast_70 : decode cX12_canMendLast 70 = .ok (.iconst 1, 1) := by decide +kernel
theorem dX12_canMendLast_71 : decode cX12_canMendLast 71 = .ok (.ireturn, 1) := by decide +kernel
theorem dX12_canMendLast_72 : decode cX12_canMendLast 72 = .ok (.iinc 3 1, 3) := by decide +kernel
theorem dX12_canMendLast_75 : decode cX12_canMendLast 75 = .ok (.goto (-73), 3) := by decide +kernel
theorem dX12_canMendLast_78 : decode cX12_canMendLast 78 = .ok (.iconst 0, 1) := by decide +kernel
theorem dX12_canMendLast_79 : decode cX12_canMendLast 79 = .ok (.ireturn, 1) := by decide +kernel
theorem dX12_mends_0 : decode cX12_mends 0 = .ok (.iload_n 1, 1) := by decide +kernel
theorem dX12_mends_1 : decode cX12_mends 1 = .ok (.iconst 0, 1) := by decide +kernel
theorem dX12_mends_2 : decode cX12_mends 2 = .ok (.iconst 1, 1) := by decide +kernel
theorem dX12_mends_3 : decode cX12_mends 3 = .ok (.invokestatic 225, 3) := by decide +kernel
theorem dX12_mends_6 : decode cX12_mends 6 = .ok (.ifCond .ne 5, 3) := by decide +kernel
theorem dX12_mends_9 : decode cX12_mends 9 = .ok (.iconst (-1), 1) := by decide +kernel
theorem dX12_mends_10 : decode cX12_mends 10 = .ok (.ireturn, 1) := by decide +kernel
theorem dX12_mends_11 : decode cX12_mends 11 = .ok (.iconst 0, 1) := by decide +kernel
theorem dX12_mends_12 : decode cX12_mends 12 = .ok (.istore_n 2, 1) := by decide +kernel
theorem dX12_mends_13 : decode cX12_mends 13 = .ok (.iconst 0, 1) := by decide +kernel
theorem dX12_mends_14 : decode cX12_mends 14 = .ok (.istore_n 3, 1) := by decide +kernel
theorem dX12_mends_15 : decode cX12_mends 15 = .ok (.iload_n 3, 1) := by decide +kernel
theorem dX12_mends_16 : decode cX12_mends 16 = .ok (.sipush 256, 3) := by decide +kernel
theorem dX12_mends_19 : decode cX12_mends 19 = .ok (.if_icmp .ge 33, 3) := by decide +kernel
theorem dX12_mends_22 : decode cX12_mends 22 = .ok (.aload_n 0, 1) := by decide +kernel
theorem dX12_mends_23 : decode cX12_mends 23 = .ok (.getfield 7, 3) := by decide +kernel
theorem dX12_mends_26 : decode cX12_mends 26 = .ok (.iconst 0, 1) := by decide +kernel
theorem dX12_mends_27 : decode cX12_mends 27 = .ok (.iload_n 3, 1) := by decide +kernel
theorem dX12_mends_28 : decode cX12_mends 28 = .ok (.iadd, 1) := by decide +kernel
theorem dX12_mends_29 : decode cX12_mends 29 = .ok (.iaload, 1) := by decide +kernel
theorem dX12_mends_30 : decode cX12_mends 30 = .ok (.ifCond .ne 6, 3) := by decide +kernel
theorem dX12_mends_33 : decode cX12_mends 33 = .ok (.goto 13, 3) := by decide +kernel
theorem dX12_mends_36 : decode cX12_mends 36 = .ok (.aload_n 0, 1) := by decide +kernel
theorem dX12_mends_37 : decode cX12_mends 37 = .ok (.getfield 78, 3) := by decide +kernel
theorem dX12_mends_40 : decode cX12_mends 40 = .ok (.iload_n 2, 1) := by decide +kernel
theorem dX12_mends_41 : decode cX12_mends 41 = .ok (.iload_n 3, 1) := by decide +kernel
theorem dX12_mends_42 : decode cX12_mends 42 = .ok (.iastore, 1) := by decide +kernel
theorem dX12_mends_43 : decode cX12_mends 43 = .ok (.iinc 2 1, 3) := by decide +kernel
theorem dX12_mends_46 : decode cX12_mends 46 = .ok (.iinc 3 1, 3) := by decide +kernel
theorem dX12_mends_49 : decode cX12_mends 49 = .ok (.goto (-34), 3) := by decide +kernel
theorem dX12_mends_52 : decode cX12_mends 52 = .ok (.iconst 0, 1) := by decide +kernel
theorem dX12_mends_53 : decode cX12_mends 53 = .ok (.istore_n 3, 1) := by decide +kernel
theorem dX12_mends_54 : decode cX12_mends 54 = .ok (.iload_n 3, 1) := by decide +kernel
theorem dX12_mends_55 : decode cX12_mends 55 = .ok (.iconst 4, 1) := by decide +kernel
theorem dX12_mends_56 : decode cX12_mends 56 = .ok (.if_icmp .ge 37, 3) := by decide +kernel
theorem dX12_mends_59 : decode cX12_mends 59 = .ok (.aload_n 0, 1) := by decide +kernel
theorem dX12_mends_60 : decode cX12_mends 60 = .ok (.iconst (-1), 1) := by decide +kernel
theorem dX12_mends_61 : decode cX12_mends 61 = .ok (.putfield 387, 3) := by decide +kernel
theorem dX12_mends_64 : decode cX12_mends 64 = .ok (.aload_n 0, 1) := by decide +kernel
theorem dX12_mends_65 : decode cX12_mends 65 = .ok (.iload_n 3, 1) := by decide +kernel
theorem dX12_mends_66 : decode cX12_mends 66 = .ok (.iconst 0, 1) := by decide +kernel
theorem dX12_mends_67 : decode cX12_mends 67 = .ok (.iload_n 2, 1) := by decide +kernel
theorem dX12_mends_68 : decode cX12_mends 68 = .ok (.invokevirtual 393, 3) := by decide +kernel
theorem dX12_mends_71 : decode cX12_mends 71 = .ok (.ifCond .eq 16, 3) := by decide +kernel
theorem dX12_mends_74 : decode cX12_mends 74 = .ok (.iload_n 1, 1) := by decide +kernel
theorem dX12_mends_75 : decode cX12_mends 75 = .ok (.ifCond .ne 7, 3) := by decide +kernel
theorem dX12_mends_78 : decode cX12_mends 78 = .ok (.iload_n 3, 1) := by decide +kernel
theorem dX12_mends_79 : decode cX12_mends 79 = .ok (.goto 7, 3) := by decide +kernel
theorem dX12_mends_82 : decode cX12_mends 82 = .ok (.aload_n 0, 1) := by decide +kernel
theorem dX12_mends_83 : decode cX12_mends 83 = .ok (.getfield 387, 3) := by decide +kernel
theorem dX12_mends_86 : decode cX12_mends 86 = .ok (.ireturn, 1) := by decide +kernel
theorem dX12_mends_87 : decode cX12_mends 87 = .ok (.iinc 3 1, 3) := by decide +kernel
theorem dX12_mends_90 : decode cX12_mends 90 = .ok (.goto (-36), 3) := by decide +kernel
theorem dX12_mends_93 : decode cX12_mends 93 = .ok (.bipush (-2), 2) := by decide +kernel
theorem dX12_mends_95 : decode cX12_mends 95 = .ok (.ireturn, 1) := by decide +kernel
theorem dX12_depth_0 : decode cX12_depth 0 = .ok (.aload_n 0, 1) := by decide +kernel
theorem dX12_depth_1 : decode cX12_depth 1 = .ok (.iload_n 1, 1) := by decide +kernel
theorem dX12_depth_2 : decode cX12_depth 2 = .ok (.invokevirtual 328, 3) := by decide +kernel
theorem dX12_depth_5 : decode cX12_depth 5 = .ok (.ifCond .eq 12, 3) := by decide +kernel
theorem dX12_depth_8 : decode cX12_depth 8 = .ok (.iload_n 2, 1) := by decide +kernel
theorem dX12_depth_9 : decode cX12_depth 9 = .ok (.iconst 0, 1) := by decide +kernel
theorem dX12_depth_10 : decode cX12_depth 10 = .ok (.iconst 2, 1) := by decide +kernel
theorem dX12_depth_11 : decode cX12_depth 11 = .ok (.invokestatic 225, 3) := by decide +kernel
theorem dX12_depth_14 : decode cX12_depth 14 = .ok (.ifCond .ne 5, 3) := by decide +kernel
theorem dX12_depth_17 : decode cX12_depth 17 = .ok (.iconst (-1), 1) := by decide +kernel
theorem dX12_depth_18 : decode cX12_depth 18 = .ok (.ireturn, 1) := by decide +kernel
theorem dX12_depth_19 : decode cX12_depth 19 = .ok (.iconst 0, 1) := by decide +kernel
theorem dX12_depth_20 : decode cX12_depth 20 = .ok (.istore_n 3, 1) := by decide +kernel
theorem dX12_depth_21 : decode cX12_depth 21 = .ok (.iconst (-1), 1) := by decide +kernel
theorem dX12_depth_22 : decode cX12_depth 22 = .ok (.istore 4, 2) := by decide +kernel
theorem dX12_depth_24 : decode cX12_depth 24 = .ok (.iconst 0, 1) := by decide +kernel
theorem dX12_depth_25 : decode cX12_depth 25 = .ok (.istore 5, 2) := by decide +kernel
theorem dX12_depth_27 : decode cX12_depth 27 = .ok (.aload_n 0, 1) := by decide +kernel
theorem dX12_depth_28 : decode cX12_depth 28 = .ok (.invokevirtual 355, 3) := by decide +kernel
theorem dX12_depth_31 : decode cX12_depth 31 = .ok (.aload_n 0, 1) := by decide +kernel
theorem dX12_depth_32 : decode cX12_depth 32 = .ok (.iconst 0, 1) := by decide +kernel
theorem dX12_depth_33 : decode cX12_depth 33 = .ok (.putfield 265, 3) := by decide +kernel
theorem dX12_depth_36 : decode cX12_depth 36 = .ok (.iconst 0, 1) := by decide +kernel
theorem dX12_depth_37 : decode cX12_depth 37 = .ok (.istore 6, 2) := by decide +kernel
theorem dX12_depth_39 : decode cX12_depth 39 = .ok (.iload 6, 2) := by decide +kernel
theorem dX12_depth_41 : decode cX12_depth 41 = .ok (.aload_n 0, 1) := by decide +kernel
theorem dX12_depth_42 : decode cX12_depth 42 = .ok (.iload_n 1, 1) := by decide +kernel
theorem dX12_depth_43 : decode cX12_depth 43 = .ok (.invokevirtual 319, 3) := by decide +kernel
theorem dX12_depth_46 : decode cX12_depth 46 = .ok (.if_icmp .ge 89, 3) := by decide +kernel
theorem dX12_depth_49 : decode cX12_depth 49 = .ok (.iload 5, 2) := by decide +kernel
theorem dX12_depth_51 : decode cX12_depth 51 = .ok (.aload_n 0, 1) := by decide +kernel
theorem dX12_depth_52 : decode cX12_depth 52 = .ok (.iload_n 1, 1) := by decide +kernel
theorem dX12_depth_53 : decode cX12_depth 53 = .ok (.iload 6, 2) := by decide +kernel
theorem dX12_depth_55 : decode cX12_depth 55 = .ok (.iconst 1, 1) := by decide +kernel
theorem dX12_depth_56 : decode cX12_depth 56 = .ok (.invokevirtual 254, 3) := by decide +kernel
theorem dX12_depth_59 : decode cX12_depth 59 = .ok (.ifCond .eq 7, 3) := by decide +kernel
theorem dX12_depth_62 : decode cX12_depth 62 = .ok (.iconst 0, 1) := by decide +kernel
theorem dX12_depth_63 : decode cX12_depth 63 = .ok (.goto 4, 3) := by decide +kernel
theorem dX12_depth_66 : decode cX12_depth 66 = .ok (.iconst 1, 1) := by decide +kernel
theorem dX12_depth_67 : decode cX12_depth 67 = .ok (.iadd, 1) := by decide +kernel
theorem dX12_depth_68 : decode cX12_depth 68 = .ok (.istore 5, 2) := by decide +kernel
theorem dX12_depth_70 : decode cX12_depth 70 = .ok (.aload_n 0, 1) := by decide +kernel
theorem dX12_depth_71 : decode cX12_depth 71 = .ok (.iload_n 1, 1) := by decide +kernel
theorem dX12_depth_72 : decode cX12_depth 72 = .ok (.iload 6, 2) := by decide +kernel
theorem dX12_depth_74 : decode cX12_depth 74 = .ok (.invokevirtual 250, 3) := by decide +kernel
theorem dX12_depth_77 : decode cX12_depth 77 = .ok (.iconst 4, 1) := by decide +kernel
theorem dX12_depth_78 : decode cX12_depth 78 = .ok (.if_icmp .ge 13, 3) := by decide +kernel
theorem dX12_depth_81 : decode cX12_depth 81 = .ok (.aload_n 0, 1) := by decide +kernel
theorem dX12_depth_82 : decode cX12_depth 82 = .ok (.iload_n 1, 1) := by decide +kernel
theorem dX12_depth_83 : decode cX12_depth 83 = .ok (.iload 6, 2) := by decide +kernel
theorem dX12_depth_85 : decode cX12_depth 85 = .ok (.invokevirtual 322, 3) := by decide +kernel
theorem dX12_depth_88 : decode cX12_depth 88 = .ok (.goto 21, 3) := by decide +kernel
theorem dX12_depth_91 : decode cX12_depth 91 = .ok (.aload_n 0, 1) := by decide +kernel
theorem dX12_depth_92 : decode cX12_depth 92 = .ok (.iload_n 1, 1) := by decide +kernel
theorem dX12_depth_93 : decode cX12_depth 93 = .ok (.iload 6, 2) := by decide +kernel
theorem dX12_depth_95 : decode cX12_depth 95 = .ok (.invokevirtual 250, 3) := by decide +kernel
theorem dX12_depth_98 : decode cX12_depth 98 = .ok (.iconst 4, 1) := by decide +kernel
theorem dX12_depth_99 : decode cX12_depth 99 = .ok (.if_icmp .ne 10, 3) := by decide +kernel
theorem dX12_depth_102 : decode cX12_depth 102 = .ok (.aload_n 0, 1) := by decide +kernel
theorem dX12_depth_103 : decode cX12_depth 103 = .ok (.iload_n 1, 1) := by decide +kernel
theorem dX12_depth_104 : decode cX12_depth 104 = .ok (.iload 6, 2) := by decide +kernel
theorem dX12_depth_106 : decode cX12_depth 106 = .ok (.invokevirtual 325, 3) := by decide +kernel
theorem dX12_depth_109 : decode cX12_depth 109 = .ok (.aload_n 0, 1) := by decide +kernel
theorem dX12_depth_110 : decode cX12_depth 110 = .ok (.getfield 265, 3) := by decide +kernel
theorem dX12_depth_113 : decode cX12_depth 113 = .ok (.iload_n 3, 1) := by decide +kernel
theorem dX12_depth_114 : decode cX12_depth 114 = .ok (.if_icmp .gt 6, 3) := by decide +kernel
theorem dX12_depth_117 : decode cX12_depth 117 = .ok (.goto 12, 3) := by decide +kernel
theorem dX12_depth_120 : decode cX12_depth 120 = .ok (.aload_n 0, 1) := by decide +kernel
theorem dX12_depth_121 : decode cX12_depth 121 = .ok (.getfield 265, 3) := by decide +kernel
theorem dX12_depth_124 : decode cX12_depth 124 = .ok (.istore_n 3, 1) := by decide +kernel
theorem dX12_depth_125 : decode cX12_depth 125 = .ok (.iload 6, 2) := by decide +kernel
theorem dX12_depth_127 : decode cX12_depth 127 = .ok (.istore 4, 2) := by decide +kernel
theorem dX12_depth_129 : decode cX12_depth 129 = .ok (.iinc 6 1, 3) := by decide +kernel
theorem dX12_depth_132 : decode cX12_depth 132 = .ok (.goto (-93), 3) := by decide +kernel
theorem dX12_depth_135 : decode cX12_depth 135 = .ok (.aload_n 0, 1) := by decide +kernel
theorem dX12_depth_136 : decode cX12_depth 136 = .ok (.invokevirtual 361, 3) := by decide +kernel
theorem dX12_depth_139 : decode cX12_depth 139 = .ok (.iload_n 2, 1) := by decide +kernel
theorem dX12_depth_140 : decode cX12_depth 140 = .ok (.ifCond .ne 7, 3) := by decide +kernel
theorem dX12_depth_143 : decode cX12_depth 143 = .ok (.iload_n 3, 1) := by decide +kernel
theorem dX12_depth_144 : decode cX12_depth 144 = .ok (.goto 15, 3) := by decide +kernel
theorem dX12_depth_147 : decode cX12_depth 147 = .ok (.iload_n 2, 1) := by decide +kernel
theorem dX12_depth_148 : decode cX12_depth 148 = .ok (.iconst 1, 1) := by decide +kernel
theorem dX12_depth_149 : decode cX12_depth 149 = .ok (.if_icmp .ne 8, 3) := by decide +kernel
theorem dX12_depth_152 : decode cX12_depth 152 = .ok (.iload 4, 2) := by decide +kernel
theorem dX12_depth_154 : decode cX12_depth 154 = .ok (.goto 5, 3) := by decide +kernel
theorem dX12_depth_157 : decode cX12_depth 157 = .ok (.iload 5, 2) := by decide +kernel
theorem dX12_depth_159 : decode cX12_depth 159 = .ok (.ireturn, 1) := by decide +kernel
theorem dX12_isIn0_0 : decode cX12_isIn0 0 = .ok (.aload_n 0, 1) := by decide +kernel
theorem dX12_isIn0_1 : decode cX12_isIn0 1 = .ok (.getfield 396, 3) := by decide +kernel
theorem dX12_isIn0_4 : decode cX12_isIn0 4 = .ok (.iload_n 1, 1) := by decide +kernel
theorem dX12_isIn0_5 : decode cX12_isIn0 5 = .ok (.invokestatic 372, 3) := by decide +kernel
theorem dX12_isIn0_8 : decode cX12_isIn0 8 = .ok (.ireturn, 1) := by decide +kernel
theorem dX12_isTask_0 : decode cX12_isTask 0 = .ok (.aload_n 0, 1) := by decide +kernel
theorem dX12_isTask_1 : decode cX12_isTask 1 = .ok (.iload_n 1, 1) := by decide +kernel
theorem dX12_isTask_2 : decode cX12_isTask 2 = .ok (.invokevirtual 399, 3) := by decide +kernel
theorem dX12_isTask_5 : decode cX12_isTask 5 = .ok (.ifCond .eq 15, 3) := by decide +kernel
theorem dX12_isTask_8 : decode cX12_isTask 8 = .ok (.aload_n 0, 1) := by decide +kernel
theorem dX12_isTask_9 : decode cX12_isTask 9 = .ok (.iload_n 1, 1) := by decide +kernel
theorem dX12_isTask_10 : decode cX12_isTask 10 = .ok (.invokevirtual 247, 3) := by decide +kernel
theorem dX12_isTask_13 : decode cX12_isTask 13 = .ok (.ifCond .ne 7, 3) := by decide +kernel
theorem dX12_isTask_16 : decode cX12_isTask 16 = .ok (.iconst 1, 1) := by decide +kernel
theorem dX12_isTask_17 : decode cX12_isTask 17 = .ok (.goto 4, 3) := by decide +kernel
theorem dX12_isTask_20 : decode cX12_isTask 20 = .ok (.iconst 0, 1) := by decide +kernel
theorem dX12_isTask_21 : decode cX12_isTask 21 = .ok (.ireturn, 1) := by decide +kernel
theorem dX12_isThrough_0 : decode cX12_isThrough 0 = .ok (.aload_n 0, 1) := by decide +kernel
theorem dX12_isThrough_1 : decode cX12_isThrough 1 = .ok (.getfield 81, 3) := by decide +kernel
theorem dX12_isThrough_4 : decode cX12_isThrough 4 = .ok (.iload_n 1, 1) := by decide +kernel
theorem dX12_isThrough_5 : decode cX12_isThrough 5 = .ok (.iaload, 1) := by decide +kernel
theorem dX12_isThrough_6 : decode cX12_isThrough 6 = .ok (.aload_n 0, 1) := by decide +kernel
theorem dX12_isThrough_7 : decode cX12_isThrough 7 = .ok (.iload_n 1, 1) := by decide +kernel
theorem dX12_isThrough_8 : decode cX12_isThrough 8 = .ok (.invokevirtual 319, 3) := by decide +kernel
theorem dX12_isThrough_11 : decode cX12_isThrough 11 = .ok (.if_icmp .ne 7, 3) := by decide +kernel
theorem dX12_isThrough_14 : decode cX12_isThrough 14 = .ok (.iconst 1, 1) := by decide +kernel
theorem dX12_isThrough_15 : decode cX12_isThrough 15 = .ok (.goto 4, 3) := by decide +kernel
theorem dX12_isThrough_18 : decode cX12_isThrough 18 = .ok (.iconst 0, 1) := by decide +kernel
theorem dX12_isThrough_19 : decode cX12_isThrough 19 = .ok (.ireturn, 1) := by decide +kernel
theorem dX12_goesOn_0 : decode cX12_goesOn 0 = .ok (.aload_n 0, 1) := by decide +kernel
theorem dX12_goesOn_1 : decode cX12_goesOn 1 = .ok (.iload_n 1, 1) := by decide +kernel
theorem dX12_goesOn_2 : decode cX12_goesOn 2 = .ok (.invokevirtual 402, 3) := by decide +kernel
theorem dX12_goesOn_5 : decode cX12_goesOn 5 = .ok (.ifCond .eq 7, 3) := by decide +kernel
theorem dX12_goesOn_8 : decode cX12_goesOn 8 = .ok (.iconst (-1), 1) := by decide +kernel
theorem dX12_goesOn_9 : decode cX12_goesOn 9 = .ok (.goto 4, 3) := by decide +kernel
theorem dX12_goesOn_12 : decode cX12_goesOn 12 = .ok (.iload_n 1, 1) := by decide +kernel
theorem dX12_goesOn_13 : decode cX12_goesOn 13 = .ok (.istore_n 2, 1) := by decide +kernel
theorem dX12_goesOn_14 : decode cX12_goesOn 14 = .ok (.iconst 1, 1) := by decide +kernel
theorem dX12_goesOn_15 : decode cX12_goesOn 15 = .ok (.istore_n 3, 1) := by decide +kernel
theorem dX12_goesOn_16 : decode cX12_goesOn 16 = .ok (.iload_n 3, 1) := by decide +kernel
theorem dX12_goesOn_17 : decode cX12_goesOn 17 = .ok (.iconst 2, 1) := by decide +kernel
theorem dX12_goesOn_18 : decode cX12_goesOn 18 = .ok (.if_icmp .gt 77, 3) := by decide +kernel
theorem dX12_goesOn_21 : decode cX12_goesOn 21 = .ok (.iconst 0, 1) := by decide +kernel
theorem dX12_goesOn_22 : decode cX12_goesOn 22 = .ok (.istore 4, 2) := by decide +kernel
theorem dX12_goesOn_24 : decode cX12_goesOn 24 = .ok (.iload 4, 2) := by decide +kernel
theorem dX12_goesOn_26 : decode cX12_goesOn 26 = .ok (.bipush 6, 2) := by decide +kernel
theorem dX12_goesOn_28 : decode cX12_goesOn 28 = .ok (.if_icmp .ge 61, 3) := by decide +kernel
theorem dX12_goesOn_31 : decode cX12_goesOn 31 = .ok (.aload_n 0, 1) := by decide +kernel
theorem dX12_goesOn_32 : decode cX12_goesOn 32 = .ok (.iload 4, 2) := by decide +kernel
theorem dX12_goesOn_34 : decode cX12_goesOn 34 = .ok (.invokevirtual 399, 3) := by decide +kernel
theorem dX12_goesOn_37 : decode cX12_goesOn 37 = .ok (.ifCond .eq 46, 3) := by decide +kernel
theorem dX12_goesOn_40 : decode cX12_goesOn 40 = .ok (.aload_n 0, 1) := by decide +kernel
theorem dX12_goesOn_41 : decode cX12_goesOn 41 = .ok (.iload 4, 2) := by decide +kernel
theorem dX12_goesOn_43 : decode cX12_goesOn 43 = .ok (.invokevirtual 247, 3) := by decide +kernel
theorem dX12_goesOn_46 : decode cX12_goesOn 46 = .ok (.iload_n 3, 1) := by decide +kernel
theorem dX12_goesOn_47 : decode cX12_goesOn 47 = .ok (.if_icmp .ne 36, 3) := by decide +kernel
theorem dX12_goesOn_50 : decode cX12_goesOn 50 = .ok (.aload_n 0, 1) := by decide +kernel
theorem dX12_goesOn_51 : decode cX12_goesOn 51 = .ok (.getfield 84, 3) := by decide +kernel
theorem dX12_goesOn_54 : decode cX12_goesOn 54 = .ok (.iload 4, 2) := by decide +kernel
theorem dX12_goesOn_56 : decode cX12_goesOn 56 = .ok (.iaload, 1) := by decide +kernel
theorem dX12_goesOn_57 : decode cX12_goesOn 57 = .ok (.iload_n 1, 1) := by decide +kernel
theorem dX12_goesOn_58 : decode cX12_goesOn 58 = .ok (.if_icmp .ne 25, 3) := by decide +kernel
theorem dX12_goesOn_61 : decode cX12_goesOn 61 = .ok (.aload_n 0, 1) := by decide +kernel
theorem dX12_goesOn_62 : decode cX12_goesOn 62 = .ok (.getfield 81, 3) := by decide +kernel
theorem dX12_goesOn_65 : decode cX12_goesOn 65 = .ok (.iload 4, 2) := by decide +kernel
theorem dX12_goesOn_67 : decode cX12_goesOn 67 = .ok (.iaload, 1) := by decide +kernel
theorem dX12_goesOn_68 : decode cX12_goesOn 68 = .ok (.ifCond .lt 15, 3) := by decide +kernel
theorem dX12_goesOn_71 : decode cX12_goesOn 71 = .ok (.aload_n 0, 1) := by decide +kernel
theorem dX12_goesOn_72 : decode cX12_goesOn 72 = .ok (.iload 4, 2) := by decide +kernel
theorem dX12_goesOn_74 : decode cX12_goesOn 74 = .ok (.invokevirtual 402, 3) := by decide +kernel
theorem dX12_goesOn_77 : decode cX12_goesOn 77 = .ok (.ifCond .ne 6, 3) := by decide +kernel
theorem dX12_goesOn_80 : decode cX12_goesOn 80 = .ok (.iload 4, 2) := by decide +kernel
theorem dX12_goesOn_82 : decode cX12_goesOn 82 = .ok (.istore_n 2, 1) := by decide +kernel
theorem dX12_goesOn_83 : decode cX12_goesOn 83 = .ok (.iinc 4 1, 3) := by decide +kernel
theorem dX12_goesOn_86 : decode cX12_goesOn 86 = .ok (.goto (-62), 3) := by decide +kernel
theorem dX12_goesOn_89 : decode cX12_goesOn 89 = .ok (.iinc 3 1, 3) := by decide +kernel
theorem dX12_goesOn_92 : decode cX12_goesOn 92 = .ok (.goto (-76), 3) := by decide +kernel
theorem dX12_goesOn_95 : decode cX12_goesOn 95 = .ok (.iload_n 2, 1) := by decide +kernel
theorem dX12_goesOn_96 : decode cX12_goesOn 96 = .ok (.ireturn, 1) := by decide +kernel
theorem dX12_isWaiting_0 : decode cX12_isWaiting 0 = .ok (.aload_n 0, 1) := by decide +kernel
theorem dX12_isWaiting_1 : decode cX12_isWaiting 1 = .ok (.getfield 81, 3) := by decide +kernel
theorem dX12_isWaiting_4 : decode cX12_isWaiting 4 = .ok (.iload_n 1, 1) := by decide +kernel
theorem dX12_isWaiting_5 : decode cX12_isWaiting 5 = .ok (.iaload, 1) := by decide +kernel
theorem dX12_isWaiting_6 : decode cX12_isWaiting 6 = .ok (.istore_n 2, 1) := by decide +kernel
theorem dX12_isWaiting_7 : decode cX12_isWaiting 7 = .ok (.aload_n 0, 1) := by decide +kernel
theorem dX12_isWaiting_8 : decode cX12_isWaiting 8 = .ok (.iload_n 1, 1) := by decide +kernel
theorem dX12_isWaiting_9 : decode cX12_isWaiting 9 = .ok (.iload_n 2, 1) := by decide +kernel
theorem dX12_isWaiting_10 : decode cX12_isWaiting 10 = .ok (.invokevirtual 250, 3) := by decide +kernel
theorem dX12_isWaiting_13 : decode cX12_isWaiting 13 = .ok (.istore_n 3, 1) := by decide +kernel
theorem dX12_isWaiting_14 : decode cX12_isWaiting 14 = .ok (.iload_n 3, 1) := by decide +kernel
theorem dX12_isWaiting_15 : decode cX12_isWaiting 15 = .ok (.ifCond .eq 8, 3) := by decide +kernel
theorem dX12_isWaiting_18 : decode cX12_isWaiting 18 = .ok (.iload_n 3, 1) := by decide +kernel
theorem dX12_isWaiting_19 : decode cX12_isWaiting 19 = .ok (.iconst 1, 1) := by decide +kernel
theorem dX12_isWaiting_20 : decode cX12_isWaiting 20 = .ok (.if_icmp .ne 37, 3) := by decide +kernel
theorem dX12_isWaiting_23 : decode cX12_isWaiting 23 = .ok (.aload_n 0, 1) := by decide +kernel
theorem dX12_isWaiting_24 : decode cX12_isWaiting 24 = .ok (.getfield 87, 3) := by decide +kernel
theorem dX12_isWaiting_27 : decode cX12_isWaiting 27 = .ok (.aload_n 0, 1) := by decide +kernel
theorem dX12_isWaiting_28 : decode cX12_isWaiting 28 = .ok (.iload_n 1, 1) := by decide +kernel
theorem dX12_isWaiting_29 : decode cX12_isWaiting 29 = .ok (.iload_n 2, 1) := by decide +kernel
theorem dX12_isWaiting_30 : decode cX12_isWaiting 30 = .ok (.invokevirtual 296, 3) := by decide +kernel
theorem dX12_isWaiting_33 : decode cX12_isWaiting 33 = .ok (.iaload, 1) := by decide +kernel
theorem dX12_isWaiting_34 : decode cX12_isWaiting 34 = .ok (.ifCond .ge 17, 3) := by decide +kernel
theorem dX12_isWaiting_37 : decode cX12_isWaiting 37 = .ok (.aload_n 0, 1) := by decide +kernel
theorem dX12_isWaiting_38 : decode cX12_isWaiting 38 = .ok (.getfield 90, 3) := by decide +kernel
theorem dX12_isWaiting_41 : decode cX12_isWaiting 41 = .ok (.aload_n 0, 1) := by decide +kernel
theorem dX12_isWaiting_42 : decode cX12_isWaiting 42 = .ok (.iload_n 1, 1) := by decide +kernel
theorem dX12_isWaiting_43 : decode cX12_isWaiting 43 = .ok (.iload_n 2, 1) := by decide +kernel
theorem dX12_isWaiting_44 : decode cX12_isWaiting 44 = .ok (.invokevirtual 296, 3) := by decide +kernel
theorem dX12_isWaiting_47 : decode cX12_isWaiting 47 = .ok (.iaload, 1) := by decide +kernel
theorem dX12_isWaiting_48 : decode cX12_isWaiting 48 = .ok (.ifCond .eq 7, 3) := by decide +kernel
theorem dX12_isWaiting_51 : decode cX12_isWaiting 51 = .ok (.iconst 1, 1) := by decide +kernel
theorem dX12_isWaiting_52 : decode cX12_isWaiting 52 = .ok (.goto 4, 3) := by decide +kernel
theorem dX12_isWaiting_55 : decode cX12_isWaiting 55 = .ok (.iconst 0, 1) := by decide +kernel
theorem dX12_isWaiting_56 : decode cX12_isWaiting 56 = .ok (.ireturn, 1) := by decide +kernel
theorem dX12_isWaiting_57 : decode cX12_isWaiting 57 = .ok (.iload_n 3, 1) := by decide +kernel
theorem dX12_isWaiting_58 : decode cX12_isWaiting 58 = .ok (.iconst 2, 1) := by decide +kernel
theorem dX12_isWaiting_59 : decode cX12_isWaiting 59 = .ok (.if_icmp .ne 21, 3) := by decide +kernel
theorem dX12_isWaiting_62 : decode cX12_isWaiting 62 = .ok (.aload_n 0, 1) := by decide +kernel
theorem dX12_isWaiting_63 : decode cX12_isWaiting 63 = .ok (.getfield 87, 3) := by decide +kernel
theorem dX12_isWaiting_66 : decode cX12_isWaiting 66 = .ok (.aload_n 0, 1) := by decide +kernel
theorem dX12_isWaiting_67 : decode cX12_isWaiting 67 = .ok (.iload_n 1, 1) := by decide +kernel
theorem dX12_isWaiting_68 : decode cX12_isWaiting 68 = .ok (.iload_n 2, 1) := by decide +kernel
theorem dX12_isWaiting_69 : decode cX12_isWaiting 69 = .ok (.invokevirtual 296, 3) := by decide +kernel
theorem dX12_isWaiting_72 : decode cX12_isWaiting 72 = .ok (.iaload, 1) := by decide +kernel
theorem dX12_isWaiting_73 : decode cX12_isWaiting 73 = .ok (.ifCond .lt 7, 3) := by decide +kernel
theorem dX12_isWaiting_76 : decode cX12_isWaiting 76 = .ok (.iconst 1, 1) := by decide +kernel
theorem dX12_isWaiting_77 : decode cX12_isWaiting 77 = .ok (.goto 4, 3) := by decide +kernel
theorem dX12_isWaiting_80 : decode cX12_isWaiting 80 = .ok (.iconst 0, 1) := by decide +kernel
theorem dX12_isWaiting_81 : decode cX12_isWaiting 81 = .ok (.ireturn, 1) := by decide +kernel
theorem dX12_doMove_0 : decode cX12_doMove 0 = .ok (.aload_n 0, 1) := by decide +kernel
theorem dX12_doMove_1 : decode cX12_doMove 1 = .ok (.iload_n 1, 1) := by decide +kernel
theorem dX12_doMove_2 : decode cX12_doMove 2 = .ok (.aload_n 0, 1) := by decide +kernel
theorem dX12_doMove_3 : decode cX12_doMove 3 = .ok (.getfield 81, 3) := by decide +kernel
theorem dX12_doMove_6 : decode cX12_doMove 6 = .ok (.iload_n 1, 1) := by decide +kernel
theorem dX12_doMove_7 : decode cX12_doMove 7 = .ok (.iaload, 1) := by decide +kernel
theorem dX12_doMove_8 : decode cX12_doMove 8 = .ok (.invokevirtual 250, 3) := by decide +kernel
theorem dX12_doMove_11 : decode cX12_doMove 11 = .ok (.istore_n 2, 1) := by decide +kernel
theorem dX12_doMove_12 : decode cX12_doMove 12 = .ok (.aload_n 0, 1) := by decide +kernel
theorem dX12_doMove_13 : decode cX12_doMove 13 = .ok (.iload_n 1, 1) := by decide +kernel
theorem dX12_doMove_14 : decode cX12_doMove 14 = .ok (.aload_n 0, 1) := by decide +kernel
theorem dX12_doMove_15 : decode cX12_doMove 15 = .ok (.getfield 81, 3) := by decide +kernel
theorem dX12_doMove_18 : decode cX12_doMove 18 = .ok (.iload_n 1, 1) := by decide +kernel
theorem dX12_doMove_19 : decode cX12_doMove 19 = .ok (.iaload, 1) := by decide +kernel
theorem dX12_doMove_20 : decode cX12_doMove 20 = .ok (.invokevirtual 296, 3) := by decide +kernel
theorem dX12_doMove_23 : decode cX12_doMove 23 = .ok (.istore_n 3, 1) := by decide +kernel
theorem dX12_doMove_24 : decode cX12_doMove 24 = .ok (.iload_n 2, 1) := by decide +kernel
theorem dX12_doMove_25 : decode cX12_doMove 25 = .ok (.ifCond .eq 31, 3) := by decide +kernel
theorem dX12_doMove_28 : decode cX12_doMove 28 = .ok (.iload_n 2, 1) := by decide +kernel
theorem dX12_doMove_29 : decode cX12_doMove 29 = .ok (.iconst 1, 1) := by decide +kernel
theorem dX12_doMove_30 : decode cX12_doMove 30 = .ok (.if_icmp .eq 26, 3) := by decide +kernel
theorem dX12_doMove_33 : decode cX12_doMove 33 = .ok (.iload_n 2, 1) := by decide +kernel
theorem dX12_doMove_34 : decode cX12_doMove 34 = .ok (.iconst 3, 1) := by decide +kernel
theorem dX12_doMove_35 : decode cX12_doMove 35 = .ok (.if_icmp .ne 28, 3) := by decide +kernel
theorem dX12_doMove_38 : decode cX12_doMove 38 = .ok (.aload_n 0, 1) := by decide +kernel
theorem dX12_doMove_39 : decode cX12_doMove 39 = .ok (.getfield 87, 3) := by decide +kernel
theorem dX12_doMove_42 : decode cX12_doMove 42 = .ok (.iload_n 3, 1) := by decide +kernel
theorem dX12_doMove_43 : decode cX12_doMove 43 = .ok (.iaload, 1) := by decide +kernel
theorem dX12_doMove_44 : decode cX12_doMove 44 = .ok (.ifCond .ge 19, 3) := by decide +kernel
theorem dX12_doMove_47 : decode cX12_doMove 47 = .ok (.aload_n 0, 1) := by decide +kernel
theorem dX12_doMove_48 : decode cX12_doMove 48 = .ok (.getfield 90, 3) := by decide +kernel
theorem dX12_doMove_51 : decode cX12_doMove 51 = .ok (.iload_n 3, 1) := by decide +kernel
theorem dX12_doMove_52 : decode cX12_doMove 52 = .ok (.iaload, 1) := by decide +kernel
theorem dX12_doMove_53 : decode cX12_doMove 53 = .ok (.ifCond .ne 10, 3) := by decide +kernel
theorem dX12_doMove_56 : decode cX12_doMove 56 = .ok (.aload_n 0, 1) := by decide +kernel
theorem dX12_doMove_57 : decode cX12_doMove 57 = .ok (.getfield 87, 3) := by decide +kernel
theorem dX12_doMove_60 : decode cX12_doMove 60 = .ok (.iload_n 3, 1) := by decide +kernel
theorem dX12_doMove_61 : decode cX12_doMove 61 = .ok (.iload_n 1, 1) := by decide +kernel
theorem dX12_doMove_62 : decode cX12_doMove 62 = .ok (.iastore, 1) := by decide +kernel
theorem dX12_doMove_63 : decode cX12_doMove 63 = .ok (.iload_n 2, 1) := by decide +kernel
theorem dX12_doMove_64 : decode cX12_doMove 64 = .ok (.iconst 2, 1) := by decide +kernel
theorem dX12_doMove_65 : decode cX12_doMove 65 = .ok (.if_icmp .ne 15, 3) := by decide +kernel
theorem dX12_doMove_68 : decode cX12_doMove 68 = .ok (.aload_n 0, 1) := by decide +kernel
theorem dX12_doMove_69 : decode cX12_doMove 69 = .ok (.getfield 90, 3) := by decide +kernel
theorem dX12_doMove_72 : decode cX12_doMove 72 = .ok (.iload_n 3, 1) := by decide +kernel
theorem dX12_doMove_73 : decode cX12_doMove 73 = .ok (.dup2, 1) := by decide +kernel
theorem dX12_doMove_74 : decode cX12_doMove 74 = .ok (.iaload, 1) := by decide +kernel
theorem dX12_doMove_75 : decode cX12_doMove 75 = .ok (.iconst 1, 1) := by decide +kernel
theorem dX12_doMove_76 : decode cX12_doMove 76 = .ok (.iload_n 1, 1) := by decide +kernel
theorem dX12_doMove_77 : decode cX12_doMove 77 = .ok (.ishl, 1) := by decide +kernel
theorem dX12_doMove_78 : decode cX12_doMove 78 = .ok (.ior, 1) := by decide +kernel
theorem dX12_doMove_79 : decode cX12_doMove 79 = .ok (.iastore, 1) := by decide +kernel
theorem dX12_doMove_80 : decode cX12_doMove 80 = .ok (.iload_n 2, 1) := by decide +kernel
theorem dX12_doMove_81 : decode cX12_doMove 81 = .ok (.iconst 4, 1) := by decide +kernel
theorem dX12_doMove_82 : decode cX12_doMove 82 = .ok (.if_icmp .ne 43, 3) := by decide +kernel
theorem dX12_doMove_85 : decode cX12_doMove 85 = .ok (.aload_n 0, 1) := by decide +kernel
theorem dX12_doMove_86 : decode cX12_doMove 86 = .ok (.getfield 87, 3) := by decide +kernel
theorem dX12_doMove_89 : decode cX12_doMove 89 = .ok (.iload_n 3, 1) := by decide +kernel
theorem dX12_doMove_90 : decode cX12_doMove 90 = .ok (.aload_n 0, 1) := by decide +kernel
theorem dX12_doMove_91 : decode cX12_doMove 91 = .ok (.getfield 87, 3) := by decide +kernel
theorem dX12_doMove_94 : decode cX12_doMove 94 = .ok (.iload_n 3, 1) := by decide +kernel
theorem dX12_doMove_95 : decode cX12_doMove 95 = .ok (.iaload, 1) := by decide +kernel
theorem dX12_doMove_96 : decode cX12_doMove 96 = .ok (.iload_n 1, 1) := by decide +kernel
theorem dX12_doMove_97 : decode cX12_doMove 97 = .ok (.if_icmp .ne 7, 3) := by decide +kernel
theorem dX12_doMove_100 : decode cX12_doMove 100 = .ok (.iconst (-1), 1) := by decide +kernel
theorem dX12_doMove_101 : decode cX12_doMove 101 = .ok (.goto 9, 3) := by decide +kernel
theorem dX12_doMove_104 : decode cX12_doMove 104 = .ok (.aload_n 0, 1) := by decide +kernel
theorem dX12_doMove_105 : decode cX12_doMove 105 = .ok (.getfield 87, 3) := by decide +kernel
theorem dX12_doMove_108 : decode cX12_doMove 108 = .ok (.iload_n 3, 1) := by decide +kernel
theorem dX12_doMove_109 : decode cX12_doMove 109 = .ok (.iaload, 1) := by decide +kernel
theorem dX12_doMove_110 : decode cX12_doMove 110 = .ok (.iastore, 1) := by decide +kernel
theorem dX12_doMove_111 : decode cX12_doMove 111 = .ok (.aload_n 0, 1) := by decide +kernel
theorem dX12_doMove_112 : decode cX12_doMove 112 = .ok (.getfield 90, 3) := by decide +kernel
theorem dX12_doMove_115 : decode cX12_doMove 115 = .ok (.iload_n 3, 1) := by decide +kernel
theorem dX12_doMove_116 : decode cX12_doMove 116 = .ok (.dup2, 1) := by decide +kernel
theorem dX12_doMove_117 : decode cX12_doMove 117 = .ok (.iaload, 1) := by decide +kernel
theorem dX12_doMove_118 : decode cX12_doMove 118 = .ok (.iconst 1, 1) := by decide +kernel
theorem dX12_doMove_119 : decode cX12_doMove 119 = .ok (.iload_n 1, 1) := by decide +kernel
theorem dX12_doMove_120 : decode cX12_doMove 120 = .ok (.ishl, 1) := by decide +kernel
theorem dX12_doMove_121 : decode cX12_doMove 121 = .ok (.iconst (-1), 1) := by decide +kernel
theorem dX12_doMove_122 : decode cX12_doMove 122 = .ok (.ixor, 1) := by decide +kernel
theorem dX12_doMove_123 : decode cX12_doMove 123 = .ok (.iand, 1) := by decide +kernel
theorem dX12_doMove_124 : decode cX12_doMove 124 = .ok (.iastore, 1) := by decide +kernel
theorem dX12_doMove_125 : decode cX12_doMove 125 = .ok (.aload_n 0, 1) := by decide +kernel
theorem dX12_doMove_126 : decode cX12_doMove 126 = .ok (.getfield 81, 3) := by decide +kernel
theorem dX12_doMove_129 : decode cX12_doMove 129 = .ok (.iload_n 1, 1) := by decide +kernel
theorem dX12_doMove_130 : decode cX12_doMove 130 = .ok (.dup2, 1) := by decide +kernel
theorem dX12_doMove_131 : decode cX12_doMove 131 = .ok (.iaload, 1) := by decide +kernel
theorem dX12_doMove_132 : decode cX12_doMove 132 = .ok (.iconst 1, 1) := by decide +kernel
theorem dX12_doMove_133 : decode cX12_doMove 133 = .ok (.iadd, 1) := by decide +kernel
theorem dX12_doMove_134 : decode cX12_doMove 134 = .ok (.iastore, 1) := by decide +kernel
theorem dX12_doMove_135 : decode cX12_doMove 135 = .ok (.return_, 1) := by decide +kernel
theorem dX12_canCome_0 : decode cX12_canCome 0 = .ok (.aload_n 0, 1) := by decide +kernel
theorem dX12_canCome_1 : decode cX12_canCome 1 = .ok (.iload_n 1, 1) := by decide +kernel
theorem dX12_canCome_2 : decode cX12_canCome 2 = .ok (.invokevirtual 399, 3) := by decide +kernel
theorem dX12_canCome_5 : decode cX12_canCome 5 = .ok (.ifCond .eq 20, 3) := by decide +kernel
theorem dX12_canCome_8 : decode cX12_canCome 8 = .ok (.aload_n 0, 1) := by decide +kernel
theorem dX12_canCome_9 : decode cX12_canCome 9 = .ok (.iload_n 1, 1) := by decide +kernel
theorem dX12_canCome_10 : decode cX12_canCome 10 = .ok (.invokevirtual 247, 3) := by decide +kernel
theorem dX12_canCome_13 : decode cX12_canCome 13 = .ok (.ifCond .eq 12, 3) := by decide +kernel
theorem dX12_canCome_16 : decode cX12_canCome 16 = .ok (.aload_n 0, 1) := by decide +kernel
theorem dX12_canCome_17 : decode cX12_canCome 17 = .ok (.getfield 81, 3) := by decide +kernel
theorem dX12_canCome_20 : decode cX12_canCome 20 = .ok (.iload_n 1, 1) := by decide +kernel
theorem dX12_canCome_21 : decode cX12_canCome 21 = .ok (.iaload, 1) := by decide +kernel
theorem dX12_canCome_22 : decode cX12_canCome 22 = .ok (.ifCond .lt 5, 3) := by decide +kernel
theorem dX12_canCome_25 : decode cX12_canCome 25 = .ok (.iconst 0, 1) := by decide +kernel
theorem dX12_canCome_26 : decode cX12_canCome 26 = .ok (.ireturn, 1) := by decide +kernel
theorem dX12_canCome_27 : decode cX12_canCome 27 = .ok (.aload_n 0, 1) := by decide +kernel
theorem dX12_canCome_28 : decode cX12_canCome 28 = .ok (.iload_n 1, 1) := by decide +kernel
theorem dX12_canCome_29 : decode cX12_canCome 29 = .ok (.invokevirtual 247, 3) := by decide +kernel
theorem dX12_canCome_32 : decode cX12_canCome 32 = .ok (.iconst 1, 1) := by decide +kernel
theorem dX12_canCome_33 : decode cX12_canCome 33 = .ok (.if_icmp .ne 31, 3) := by decide +kernel
theorem dX12_canCome_36 : decode cX12_canCome 36 = .ok (.aload_n 0, 1) := by decide +kernel
theorem dX12_canCome_37 : decode cX12_canCome 37 = .ok (.iload_n 2, 1) := by decide +kernel
theorem dX12_canCome_38 : decode cX12_canCome 38 = .ok (.invokevirtual 247, 3) := by decide +kernel
theorem dX12_canCome_41 : decode cX12_canCome 41 = .ok (.ifCond .ne 21, 3) := by decide +kernel
theorem dX12_canCome_44 : decode cX12_canCome 44 = .ok (.aload_n 0, 1) := by decide +kernel
theorem dX12_canCome_45 : decode cX12_canCome 45 = .ok (.iload_n 2, 1) := by decide +kernel
theorem dX12_canCome_46 : decode cX12_canCome 46 = .ok (.aload_n 0, 1) := by decide +kernel
theorem dX12_canCome_47 : decode cX12_canCome 47 = .ok (.getfield 81, 3) := by decide +kernel
theorem dX12_canCome_50 : decode cX12_canCome 50 = .ok (.iload_n 2, 1) := by decide +kernel
theorem dX12_canCome_51 : decode cX12_canCome 51 = .ok (.iaload, 1) := by decide +kernel
theorem dX12_canCome_52 : decode cX12_canCome 52 = .ok (.invokevirtual 293, 3) := by decide +kernel
theorem dX12_canCome_55 : decode cX12_canCome 55 = .ok (.ifCond .eq 7, 3) := by decide +kernel
theorem dX12_canCome_58 : decode cX12_canCome 58 = .ok (.iconst 1, 1) := by decide +kernel
theorem dX12_canCome_59 : decode cX12_canCome 59 = .ok (.goto 4, 3) := by decide +kernel
theorem dX12_canCome_62 : decode cX12_canCome 62 = .ok (.iconst 0, 1) := by decide +kernel
theorem dX12_canCome_63 : decode cX12_canCome 63 = .ok (.ireturn, 1) := by decide +kernel
theorem dX12_canCome_64 : decode cX12_canCome 64 = .ok (.aload_n 0, 1) := by decide +kernel
theorem dX12_canCome_65 : decode cX12_canCome 65 = .ok (.iload_n 2, 1) := by decide +kernel
theorem dX12_canCome_66 : decode cX12_canCome 66 = .ok (.invokevirtual 247, 3) := by decide +kernel
theorem dX12_canCome_69 : decode cX12_canCome 69 = .ok (.iconst 2, 1) := by decide +kernel
theorem dX12_canCome_70 : decode cX12_canCome 70 = .ok (.if_icmp .eq 22, 3) := by decide +kernel
theorem dX12_canCome_73 : decode cX12_canCome 73 = .ok (.aload_n 0, 1) := by decide +kernel
theorem dX12_canCome_74 : decode cX12_canCome 74 = .ok (.iload_n 2, 1) := by decide +kernel
theorem dX12_canCome_75 : decode cX12_canCome 75 = .ok (.aload_n 0, 1) := by decide +kernel
theorem dX12_canCome_76 : decode cX12_canCome 76 = .ok (.getfield 81, 3) := by decide +kernel
theorem dX12_canCome_79 : decode cX12_canCome 79 = .ok (.iload_n 2, 1) := by decide +kernel
theorem dX12_canCome_80 : decode cX12_canCome 80 = .ok (.iaload, 1) := by decide +kernel
theorem dX12_canCome_81 : decode cX12_canCome 81 = .ok (.iconst 1, 1) := by decide +kernel
theorem dX12_canCome_82 : decode cX12_canCome 82 = .ok (.invokevirtual 254, 3) := by decide +kernel
theorem dX12_canCome_85 : decode cX12_canCome 85 = .ok (.ifCond .eq 7, 3) := by decide +kernel
theorem dX12_canCome_88 : decode cX12_canCome 88 = .ok (.iconst 1, 1) := by decide +kernel
theorem dX12_canCome_89 : decode cX12_canCome 89 = .ok (.goto 4, 3) := by decide +kernel
theorem dX12_canCome_92 : decode cX12_canCome 92 = .ok (.iconst 0, 1) := by decide +kernel
theorem dX12_canCome_93 : decode cX12_canCome 93 = .ok (.ireturn, 1) := by decide +kernel
theorem dX12_pack_0 : decode cX12_pack 0 = .ok (.iconst 5, 1) := by decide +kernel
theorem dX12_pack_1 : decode cX12_pack 1 = .ok (.iload_n 1, 1) := by decide +kernel
theorem dX12_pack_2 : decode cX12_pack 2 = .ok (.imul, 1) := by decide +kernel
theorem dX12_pack_3 : decode cX12_pack 3 = .ok (.istore_n 2, 1) := by decide +kernel
theorem dX12_pack_4 : decode cX12_pack 4 = .ok (.iconst 0, 1) := by decide +kernel
theorem dX12_pack_5 : decode cX12_pack 5 = .ok (.istore_n 3, 1) := by decide +kernel
theorem dX12_pack_6 : decode cX12_pack 6 = .ok (.iload_n 3, 1) := by decide +kernel
theorem dX12_pack_7 : decode cX12_pack 7 = .ok (.iconst 5, 1) := by decide +kernel
theorem dX12_pack_8 : decode cX12_pack 8 = .ok (.if_icmp .ge 18, 3) := by decide +kernel
theorem dX12_pack_11 : decode cX12_pack 11 = .ok (.aload_n 0, 1) := by decide +kernel
theorem dX12_pack_12 : decode cX12_pack 12 = .ok (.getfield 93, 3) := by decide +kernel
theorem dX12_pack_15 : decode cX12_pack 15 = .ok (.iload_n 2, 1) := by decide +kernel
theorem dX12_pack_16 : decode cX12_pack 16 = .ok (.iload_n 3, 1) := by decide +kernel
theorem dX12_pack_17 : decode cX12_pack 17 = .ok (.iadd, 1) := by decide +kernel
theorem dX12_pack_18 : decode cX12_pack 18 = .ok (.iconst 0, 1) := by decide +kernel
theorem dX12_pack_19 : decode cX12_pack 19 = .ok (.iastore, 1) := by decide +kernel
theorem dX12_pack_20 : decode cX12_pack 20 = .ok (.iinc 3 1, 3) := by decide +kernel
theorem dX12_pack_23 : decode cX12_pack 23 = .ok (.goto (-17), 3) := by decide +kernel
theorem dX12_pack_26 : decode cX12_pack 26 = .ok (.iconst 0, 1) := by decide +kernel
theorem dX12_pack_27 : decode cX12_pack 27 = .ok (.istore_n 3, 1) := by decide +kernel
theorem dX12_pack_28 : decode cX12_pack 28 = .ok (.iload_n 3, 1) := by decide +kernel
theorem dX12_pack_29 : decode cX12_pack 29 = .ok (.bipush 6, 2) := by decide +kernel
theorem dX12_pack_31 : decode cX12_pack 31 = .ok (.if_icmp .ge 53, 3) := by decide +kernel
theorem dX12_pack_34 : decode cX12_pack 34 = .ok (.aload_n 0, 1) := by decide +kernel
theorem dX12_pack_35 : decode cX12_pack 35 = .ok (.getfield 93, 3) := by decide +kernel
theorem dX12_pack_38 : decode cX12_pack 38 = .ok (.iload_n 2, 1) := by decide +kernel
theorem dX12_pack_39 : decode cX12_pack 39 = .ok (.dup2, 1) := by decide +kernel
theorem dX12_pack_40 : decode cX12_pack 40 = .ok (.iaload, 1) := by decide +kernel
theorem dX12_pack_41 : decode cX12_pack 41 = .ok (.aload_n 0, 1) := by decide +kernel
theorem dX12_pack_42 : decode cX12_pack 42 = .ok (.getfield 81, 3) := by decide +kernel
theorem dX12_pack_45 : decode cX12_pack 45 = .ok (.iload_n 3, 1) := by decide +kernel
theorem dX12_pack_46 : decode cX12_pack 46 = .ok (.iaload, 1) := by decide +kernel
theorem dX12_pack_47 : decode cX12_pack 47 = .ok (.iconst 1, 1) := by decide +kernel
theorem dX12_pack_48 : decode cX12_pack 48 = .ok (.iadd, 1) := by decide +kernel
theorem dX12_pack_49 : decode cX12_pack 49 = .ok (.iconst 4, 1) := by decide +kernel
theorem dX12_pack_50 : decode cX12_pack 50 = .ok (.iload_n 3, 1) := by decide +kernel
theorem dX12_pack_51 : decode cX12_pack 51 = .ok (.imul, 1) := by decide +kernel
theorem dX12_pack_52 : decode cX12_pack 52 = .ok (.ishl, 1) := by decide +kernel
theorem dX12_pack_53 : decode cX12_pack 53 = .ok (.ior, 1) := by decide +kernel
theorem dX12_pack_54 : decode cX12_pack 54 = .ok (.iastore, 1) := by decide +kernel
theorem dX12_pack_55 : decode cX12_pack 55 = .ok (.aload_n 0, 1) := by decide +kernel
theorem dX12_pack_56 : decode cX12_pack 56 = .ok (.getfield 93, 3) := by decide +kernel
theorem dX12_pack_59 : decode cX12_pack 59 = .ok (.iload_n 2, 1) := by decide +kernel
theorem dX12_pack_60 : decode cX12_pack 60 = .ok (.iconst 1, 1) := by decide +kernel
theorem dX12_pack_61 : decode cX12_pack 61 = .ok (.iadd, 1) := by decide +kernel
theorem dX12_pack_62 : decode cX12_pack 62 = .ok (.dup2, 1) := by decide +kernel
theorem dX12_pack_63 : decode cX12_pack 63 = .ok (.iaload, 1) := by decide +kernel
theorem dX12_pack_64 : decode cX12_pack 64 = .ok (.aload_n 0, 1) := by decide +kernel
theorem dX12_pack_65 : decode cX12_pack 65 = .ok (.getfield 84, 3) := by decide +kernel
theorem dX12_pack_68 : decode cX12_pack 68 = .ok (.iload_n 3, 1) := by decide +kernel
theorem dX12_pack_69 : decode cX12_pack 69 = .ok (.iaload, 1) := by decide +kernel
theorem dX12_pack_70 : decode cX12_pack 70 = .ok (.iconst 1, 1) := by decide +kernel
theorem dX12_pack_71 : decode cX12_pack 71 = .ok (.iadd, 1) := by decide +kernel
theorem dX12_pack_72 : decode cX12_pack 72 = .ok (.iconst 3, 1) := by decide +kernel
theorem dX12_pack_73 : decode cX12_pack 73 = .ok (.iload_n 3, 1) := by decide +kernel
theorem dX12_pack_74 : decode cX12_pack 74 = .ok (.imul, 1) := by decide +kernel
theorem dX12_pack_75 : decode cX12_pack 75 = .ok (.ishl, 1) := by decide +kernel
theorem dX12_pack_76 : decode cX12_pack 76 = .ok (.ior, 1) := by decide +kernel
theorem dX12_pack_77 : decode cX12_pack 77 = .ok (.iastore, 1) := by decide +kernel
theorem dX12_pack_78 : decode cX12_pack 78 = .ok (.iinc 3 1, 3) := by decide +kernel
theorem dX12_pack_81 : decode cX12_pack 81 = .ok (.goto (-53), 3) := by decide +kernel
theorem dX12_pack_84 : decode cX12_pack 84 = .ok (.iconst 0, 1) := by decide +kernel
theorem dX12_pack_85 : decode cX12_pack 85 = .ok (.istore_n 3, 1) := by decide +kernel
theorem dX12_pack_86 : decode cX12_pack 86 = .ok (.iload_n 3, 1) := by decide +kernel
theorem dX12_pack_87 : decode cX12_pack 87 = .ok (.bipush 10, 2) := by decide +kernel
theorem dX12_pack_89 : decode cX12_pack 89 = .ok (.if_icmp .ge 65, 3) := by decide +kernel
theorem dX12_pack_92 : decode cX12_pack 92 = .ok (.aload_n 0, 1) := by decide +kernel
theorem dX12_pack_93 : decode cX12_pack 93 = .ok (.getfield 93, 3) := by decide +kernel
theorem dX12_pack_96 : decode cX12_pack 96 = .ok (.iload_n 2, 1) := by decide +kernel
theorem dX12_pack_97 : decode cX12_pack 97 = .ok (.iconst 2, 1) := by decide +kernel
theorem dX12_pack_98 : decode cX12_pack 98 = .ok (.iadd, 1) := by decide +kernel
theorem dX12_pack_99 : decode cX12_pack 99 = .ok (.dup2, 1) := by decide +kernel
theorem dX12_pack_100 : decode cX12_pack 100 = .ok (.iaload, 1) := by decide +kernel
theorem dX12_pack_101 : decode cX12_pack 101 = .ok (.aload_n 0, 1) := by decide +kernel
theorem dX12_pack_102 : decode cX12_pack 102 = .ok (.getfield 87, 3) := by decide +kernel
theorem dX12_pack_105 : decode cX12_pack 105 = .ok (.iload_n 3, 1) := by decide +kernel
theorem dX12_pack_106 : decode cX12_pack 106 = .ok (.iaload, 1) := by decide +kernel
theorem dX12_pack_107 : decode cX12_pack 107 = .ok (.iconst 1, 1) := by decide +kernel
theorem dX12_pack_108 : decode cX12_pack 108 = .ok (.iadd, 1) := by decide +kernel
theorem dX12_pack_109 : decode cX12_pack 109 = .ok (.iconst 3, 1) := by decide +kernel
theorem dX12_pack_110 : decode cX12_pack 110 = .ok (.iload_n 3, 1) := by decide +kernel
theorem dX12_pack_111 : decode cX12_pack 111 = .ok (.imul, 1) := by decide +kernel
theorem dX12_pack_112 : decode cX12_pack 112 = .ok (.ishl, 1) := by decide +kernel
theorem dX12_pack_113 : decode cX12_pack 113 = .ok (.ior, 1) := by decide +kernel
theorem dX12_pack_114 : decode cX12_pack 114 = .ok (.iastore, 1) := by decide +kernel
theorem dX12_pack_115 : decode cX12_pack 115 = .ok (.aload_n 0, 1) := by decide +kernel
theorem dX12_pack_116 : decode cX12_pack 116 = .ok (.getfield 93, 3) := by decide +kernel
theorem dX12_pack_119 : decode cX12_pack 119 = .ok (.iload_n 2, 1) := by decide +kernel
theorem dX12_pack_120 : decode cX12_pack 120 = .ok (.iload_n 3, 1) := by decide +kernel
theorem dX12_pack_121 : decode cX12_pack 121 = .ok (.iconst 5, 1) := by decide +kernel
theorem dX12_pack_122 : decode cX12_pack 122 = .ok (.if_icmp .ge 7, 3) := by decide +kernel
theorem dX12_pack_125 : decode cX12_pack 125 = .ok (.iconst 3, 1) := by decide +kernel
theorem dX12_pack_126 : decode cX12_pack 126 = .ok (.goto 4, 3) := by decide +kernel
theorem dX12_pack_129 : decode cX12_pack 129 = .ok (.iconst 4, 1) := by decide +kernel
theorem dX12_pack_130 : decode cX12_pack 130 = .ok (.iadd, 1) := by decide +kernel
theorem dX12_pack_131 : decode cX12_pack 131 = .ok (.dup2, 1) := by decide +kernel
theorem dX12_pack_132 : decode cX12_pack 132 = .ok (.iaload, 1) := by decide +kernel
theorem dX12_pack_133 : decode cX12_pack 133 = .ok (.aload_n 0, 1) := by decide +kernel
theorem dX12_pack_134 : decode cX12_pack 134 = .ok (.getfield 90, 3) := by decide +kernel
theorem dX12_pack_137 : decode cX12_pack 137 = .ok (.iload_n 3, 1) := by decide +kernel
theorem dX12_pack_138 : decode cX12_pack 138 = .ok (.iaload, 1) := by decide +kernel
theorem dX12_pack_139 : decode cX12_pack 139 = .ok (.bipush 6, 2) := by decide +kernel
theorem dX12_pack_141 : decode cX12_pack 141 = .ok (.iload_n 3, 1) := by decide +kernel
theorem dX12_pack_142 : decode cX12_pack 142 = .ok (.iconst 5, 1) := by decide +kernel
theorem dX12_pack_143 : decode cX12_pack 143 = .ok (.irem, 1) := by decide +kernel
theorem dX12_pack_144 : decode cX12_pack 144 = .ok (.imul, 1) := by decide +kernel
theorem dX12_pack_145 : decode cX12_pack 145 = .ok (.ishl, 1) := by decide +kernel
theorem dX12_pack_146 : decode cX12_pack 146 = .ok (.ior, 1) := by decide +kernel
theorem dX12_pack_147 : decode cX12_pack 147 = .ok (.iastore, 1) := by decide +kernel
theorem dX12_pack_148 : decode cX12_pack 148 = .ok (.iinc 3 1, 3) := by decide +kernel
theorem dX12_pack_151 : decode cX12_pack 151 = .ok (.goto (-65), 3) := by decide +kernel
theorem dX12_pack_154 : decode cX12_pack 154 = .ok (.return_, 1) := by decide +kernel
theorem dX12_unpack_0 : decode cX12_unpack 0 = .ok (.iconst 5, 1) := by decide +kernel
theorem dX12_unpack_1 : decode cX12_unpack 1 = .ok (.iload_n 1, 1) := by decide +kernel
theorem dX12_unpack_2 : decode cX12_unpack 2 = .ok (.imul, 1) := by decide +kernel
theorem dX12_unpack_3 : decode cX12_unpack 3 = .ok (.istore_n 2, 1) := by decide +kernel
theorem dX12_unpack_4 : decode cX12_unpack 4 = .ok (.iconst 0, 1) := by decide +kernel
theorem dX12_unpack_5 : decode cX12_unpack 5 = .ok (.istore_n 3, 1) := by decide +kernel
theorem dX12_unpack_6 : decode cX12_unpack 6 = .ok (.iload_n 3, 1) := by decide +kernel
theorem dX12_unpack_7 : decode cX12_unpack 7 = .ok (.bipush 6, 2) := by decide +kernel
theorem dX12_unpack_9 : decode cX12_unpack 9 = .ok (.if_icmp .ge 53, 3) := by decide +kernel
theorem dX12_unpack_12 : decode cX12_unpack 12 = .ok (.aload_n 0, 1) := by decide +kernel
theorem dX12_unpack_13 : decode cX12_unpack 13 = .ok (.getfield 81, 3) := by decide +kernel
theorem dX12_unpack_16 : decode cX12_unpack 16 = .ok (.iload_n 3, 1) := by decide +kernel
theorem dX12_unpack_17 : decode cX12_unpack 17 = .ok (.aload_n 0, 1) := by decide +kernel
theorem dX12_unpack_18 : decode cX12_unpack 18 = .ok (.getfield 93, 3) := by decide +kernel
theorem dX12_unpack_21 : decode cX12_unpack 21 = .ok (.iload_n 2, 1) := by decide +kernel
theorem dX12_unpack_22 : decode cX12_unpack 22 = .ok (.iaload, 1) := by decide +kernel
theorem dX12_unpack_23 : decode cX12_unpack 23 = .ok (.iconst 4, 1) := by decide +kernel
theorem dX12_unpack_24 : decode cX12_unpack 24 = .ok (.iload_n 3, 1) := by decide +kernel
theorem dX12_unpack_25 : decode cX12_unpack 25 = .ok (.imul, 1) := by decide +kernel
theorem dX12_unpack_26 : decode cX12_unpack 26 = .ok (.ishr, 1) := by decide +kernel
theorem dX12_unpack_27 : decode cX12_unpack 27 = .ok (.bipush 15, 2) := by decide +kernel
theorem dX12_unpack_29 : decode cX12_unpack 29 = .ok (.iand, 1) := by decide +kernel
theorem dX12_unpack_30 : decode cX12_unpack 30 = .ok (.iconst 1, 1) := by decide +kernel
theorem dX12_unpack_31 : decode cX12_unpack 31 = .ok (.isub, 1) := by decide +kernel
theorem dX12_unpack_32 : decode cX12_unpack 32 = .ok (.iastore, 1) := by decide +kernel
theorem dX12_unpack_33 : decode cX12_unpack 33 = .ok (.aload_n 0, 1) := by decide +kernel
theorem dX12_unpack_34 : decode cX12_unpack 34 = .ok (.getfield 84, 3) := by decide +kernel
theorem dX12_unpack_37 : decode cX12_unpack 37 = .ok (.iload_n 3, 1) := by decide +kernel
theorem dX12_unpack_38 : decode cX12_unpack 38 = .ok (.aload_n 0, 1) := by decide +kernel
theorem dX12_unpack_39 : decode cX12_unpack 39 = .ok (.getfield 93, 3) := by decide +kernel
theorem dX12_unpack_42 : decode cX12_unpack 42 = .ok (.iload_n 2, 1) := by decide +kernel
theorem dX12_unpack_43 : decode cX12_unpack 43 = .ok (.iconst 1, 1) := by decide +kernel
theorem dX12_unpack_44 : decode cX12_unpack 44 = .ok (.iadd, 1) := by decide +kernel
theorem dX12_unpack_45 : decode cX12_unpack 45 = .ok (.iaload, 1) := by decide +kernel
theorem dX12_unpack_46 : decode cX12_unpack 46 = .ok (.iconst 3, 1) := by decide +kernel
theorem dX12_unpack_47 : decode cX12_unpack 47 = .ok (.iload_n 3, 1) := by decide +kernel
theorem dX12_unpack_48 : decode cX12_unpack 48 = .ok (.imul, 1) := by decide +kernel
theorem dX12_unpack_49 : decode cX12_unpack 49 = .ok (.ishr, 1) := by decide +kernel
theorem dX12_unpack_50 : decode cX12_unpack 50 = .ok (.bipush 7, 2) := by decide +kernel
theorem dX12_unpack_52 : decode cX12_unpack 52 = .ok (.iand, 1) := by decide +kernel
theorem dX12_unpack_53 : decode cX12_unpack 53 = .ok (.iconst 1, 1) := by decide +kernel
theorem dX12_unpack_54 : decode cX12_unpack 54 = .ok (.isub, 1) := by decide +kernel
theorem dX12_unpack_55 : decode cX12_unpack 55 = .ok (.iastore, 1) := by decide +kernel
theorem dX12_unpack_56 : decode cX12_unpack 56 = .ok (.iinc 3 1, 3) := by decide +kernel
theorem dX12_unpack_59 : decode cX12_unpack 59 = .ok (.goto (-53), 3) := by decide +kernel
theorem dX12_unpack_62 : decode cX12_unpack 62 = .ok (.iconst 0, 1) := by decide +kernel
theorem dX12_unpack_63 : decode cX12_unpack 63 = .ok (.istore_n 3, 1) := by decide +kernel
theorem dX12_unpack_64 : decode cX12_unpack 64 = .ok (.iload_n 3, 1) := by decide +kernel
theorem dX12_unpack_65 : decode cX12_unpack 65 = .ok (.bipush 10, 2) := by decide +kernel
theorem dX12_unpack_67 : decode cX12_unpack 67 = .ok (.if_icmp .ge 65, 3) := by decide +kernel
theorem dX12_unpack_70 : decode cX12_unpack 70 = .ok (.aload_n 0, 1) := by decide +kernel
theorem dX12_unpack_71 : decode cX12_unpack 71 = .ok (.getfield 87, 3) := by decide +kernel
theorem dX12_unpack_74 : decode cX12_unpack 74 = .ok (.iload_n 3, 1) := by decide +kernel
theorem dX12_unpack_75 : decode cX12_unpack 75 = .ok (.aload_n 0, 1) := by decide +kernel
theorem dX12_unpack_76 : decode cX12_unpack 76 = .ok (.getfield 93, 3) := by decide +kernel
theorem dX12_unpack_79 : decode cX12_unpack 79 = .ok (.iload_n 2, 1) := by decide +kernel
theorem dX12_unpack_80 : decode cX12_unpack 80 = .ok (.iconst 2, 1) := by decide +kernel
theorem dX12_unpack_81 : decode cX12_unpack 81 = .ok (.iadd, 1) := by decide +kernel
theorem dX12_unpack_82 : decode cX12_unpack 82 = .ok (.iaload, 1) := by decide +kernel
theorem dX12_unpack_83 : decode cX12_unpack 83 = .ok (.iconst 3, 1) := by decide +kernel
theorem dX12_unpack_84 : decode cX12_unpack 84 = .ok (.iload_n 3, 1) := by decide +kernel
theorem dX12_unpack_85 : decode cX12_unpack 85 = .ok (.imul, 1) := by decide +kernel
theorem dX12_unpack_86 : decode cX12_unpack 86 = .ok (.ishr, 1) := by decide +kernel
theorem dX12_unpack_87 : decode cX12_unpack 87 = .ok (.bipush 7, 2) := by decide +kernel
theorem dX12_unpack_89 : decode cX12_unpack 89 = .ok (.iand, 1) := by decide +kernel
theorem dX12_unpack_90 : decode cX12_unpack 90 = .ok (.iconst 1, 1) := by decide +kernel
theorem dX12_unpack_91 : decode cX12_unpack 91 = .ok (.isub, 1) := by decide +kernel
theorem dX12_unpack_92 : decode cX12_unpack 92 = .ok (.iastore, 1) := by decide +kernel
theorem dX12_unpack_93 : decode cX12_unpack 93 = .ok (.aload_n 0, 1) := by decide +kernel
theorem dX12_unpack_94 : decode cX12_unpack 94 = .ok (.getfield 90, 3) := by decide +kernel
theorem dX12_unpack_97 : decode cX12_unpack 97 = .ok (.iload_n 3, 1) := by decide +kernel
theorem dX12_unpack_98 : decode cX12_unpack 98 = .ok (.aload_n 0, 1) := by decide +kernel
theorem dX12_unpack_99 : decode cX12_unpack 99 = .ok (.getfield 93, 3) := by decide +kernel
theorem dX12_unpack_102 : decode cX12_unpack 102 = .ok (.iload_n 2, 1) := by decide +kernel
theorem dX12_unpack_103 : decode cX12_unpack 103 = .ok (.iload_n 3, 1) := by decide +kernel
theorem dX12_unpack_104 : decode cX12_unpack 104 = .ok (.iconst 5, 1) := by decide +kernel
theorem dX12_unpack_105 : decode cX12_unpack 105 = .ok (.if_icmp .ge 7, 3) := by decide +kernel
theorem dX12_unpack_108 : decode cX12_unpack 108 = .ok (.iconst 3, 1) := by decide +kernel
theorem dX12_unpack_109 : decode cX12_unpack 109 = .ok (.goto 4, 3) := by decide +kernel
theorem dX12_unpack_112 : decode cX12_unpack 112 = .ok (.iconst 4, 1) := by decide +kernel
theorem dX12_unpack_113 : decode cX12_unpack 113 = .ok (.iadd, 1) := by decide +kernel
theorem dX12_unpack_114 : decode cX12_unpack 114 = .ok (.iaload, 1) := by decide +kernel
theorem dX12_unpack_115 : decode cX12_unpack 115 = .ok (.bipush 6, 2) := by decide +kernel
theorem dX12_unpack_117 : decode cX12_unpack 117 = .ok (.iload_n 3, 1) := by decide +kernel
theorem dX12_unpack_118 : decode cX12_unpack 118 = .ok (.iconst 5, 1) := by decide +kernel
theorem dX12_unpack_119 : decode cX12_unpack 119 = .ok (.irem, 1) := by decide +kernel
theorem dX12_unpack_120 : decode cX12_unpack 120 = .ok (.imul, 1) := by decide +kernel
theorem dX12_unpack_121 : decode cX12_unpack 121 = .ok (.ishr, 1) := by decide +kernel
theorem dX12_unpack_122 : decode cX12_unpack 122 = .ok (.bipush 63, 2) := by decide +kernel
theorem dX12_unpack_124 : decode cX12_unpack 124 = .ok (.iand, 1) := by decide +kernel
theorem dX12_unpack_125 : decode cX12_unpack 125 = .ok (.iastore, 1) := by decide +kernel
theorem dX12_unpack_126 : decode cX12_unpack 126 = .ok (.iinc 3 1, 3) := by decide +kernel
theorem dX12_unpack_129 : decode cX12_unpack 129 = .ok (.goto (-65), 3) := by decide +kernel
theorem dX12_unpack_132 : decode cX12_unpack 132 = .ok (.return_, 1) := by decide +kernel
theorem dX12_isLike_0 : decode cX12_isLike 0 = .ok (.iconst 0, 1) := by decide +kernel
theorem dX12_isLike_1 : decode cX12_isLike 1 = .ok (.istore_n 3, 1) := by decide +kernel
theorem dX12_isLike_2 : decode cX12_isLike 2 = .ok (.iload_n 3, 1) := by decide +kernel
theorem dX12_isLike_3 : decode cX12_isLike 3 = .ok (.iconst 5, 1) := by decide +kernel
theorem dX12_isLike_4 : decode cX12_isLike 4 = .ok (.if_icmp .ge 34, 3) := by decide +kernel
theorem dX12_isLike_7 : decode cX12_isLike 7 = .ok (.aload_n 0, 1) := by decide +kernel
theorem dX12_isLike_8 : decode cX12_isLike 8 = .ok (.getfield 93, 3) := by decide +kernel
theorem dX12_isLike_11 : decode cX12_isLike 11 = .ok (.iconst 5, 1) := by decide +kernel
theorem dX12_isLike_12 : decode cX12_isLike 12 = .ok (.iload_n 1, 1) := by decide +kernel
theorem dX12_isLike_13 : decode cX12_isLike 13 = .ok (.imul, 1) := by decide +kernel
theorem dX12_isLike_14 : decode cX12_isLike 14 = .ok (.iload_n 3, 1) := by decide +kernel
theorem dX12_isLike_15 : decode cX12_isLike 15 = .ok (.iadd, 1) := by decide +kernel
theorem dX12_isLike_16 : decode cX12_isLike 16 = .ok (.iaload, 1) := by decide +kernel
theorem dX12_isLike_17 : decode cX12_isLike 17 = .ok (.aload_n 0, 1) := by decide +kernel
theorem dX12_isLike_18 : decode cX12_isLike 18 = .ok (.getfield 93, 3) := by decide +kernel
theorem dX12_isLike_21 : decode cX12_isLike 21 = .ok (.iconst 5, 1) := by decide +kernel
theorem dX12_isLike_22 : decode cX12_isLike 22 = .ok (.iload_n 2, 1) := by decide +kernel
theorem dX12_isLike_23 : decode cX12_isLike 23 = .ok (.imul, 1) := by decide +kernel
theorem dX12_isLike_24 : decode cX12_isLike 24 = .ok (.iload_n 3, 1) := by decide +kernel
theorem dX12_isLike_25 : decode cX12_isLike 25 = .ok (.iadd, 1) := by decide +kernel
theorem dX12_isLike_26 : decode cX12_isLike 26 = .ok (.iaload, 1) := by decide +kernel
theorem dX12_isLike_27 : decode cX12_isLike 27 = .ok (.if_icmp .eq 5, 3) := by decide +kernel
theorem dX12_isLike_30 : decode cX12_isLike 30 = .ok (.iconst 0, 1) := by decide +kernel
theorem dX12_isLike_31 : decode cX12_isLike 31 = .ok (.ireturn, 1) := by decide +kernel
theorem dX12_isLike_32 : decode cX12_isLike 32 = .ok (.iinc 3 1, 3) := by decide +kernel
theorem dX12_isLike_35 : decode cX12_isLike 35 = .ok (.goto (-33), 3) := by decide +kernel
theorem dX12_isLike_38 : decode cX12_isLike 38 = .ok (.iconst 1, 1) := by decide +kernel
