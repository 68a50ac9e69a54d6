theorem dX0_init_0 : decode cX0_init 0 = .ok (.aload_n 0, 1) := by decide +kernel
theorem dX0_init_1 : decode cX0_init 1 = .ok (.invokespecial 3, 3) := by decide +kernel
theorem dX0_init_4 : decode cX0_init 4 = .ok (.aload_n 0, 1) := by decide +kernel
theorem dX0_init_5 : decode cX0_init 5 = .ok (.bipush 64, 2) := by decide +kernel
theorem dX0_init_7 : decode cX0_init 7 = .ok (.newarray .int, 2) := by decide +kernel
theorem dX0_init_9 : decode cX0_init 9 = .ok (.putfield 9, 3) := by decide +kernel
theorem dX0_init_12 : decode cX0_init 12 = .ok (.aload_n 0, 1) := by decide +kernel
theorem dX0_init_13 : decode cX0_init 13 = .ok (.bipush 64, 2) := by decide +kernel
theorem dX0_init_15 : decode cX0_init 15 = .ok (.newarray .int, 2) := by decide +kernel
theorem dX0_init_17 : decode cX0_init 17 = .ok (.putfield 15, 3) := by decide +kernel
theorem dX0_init_20 : decode cX0_init 20 = .ok (.aload_n 0, 1) := by decide +kernel
theorem dX0_init_21 : decode cX0_init 21 = .ok (.bipush 64, 2) := by decide +kernel
theorem dX0_init_23 : decode cX0_init 23 = .ok (.newarray .int, 2) := by decide +kernel
theorem dX0_init_25 : decode cX0_init 25 = .ok (.putfield 18, 3) := by decide +kernel
theorem dX0_init_28 : decode cX0_init 28 = .ok (.aload_n 0, 1) := by decide +kernel
theorem dX0_init_29 : decode cX0_init 29 = .ok (.bipush 64, 2) := by decide +kernel
theorem dX0_init_31 : decode cX0_init 31 = .ok (.newarray .int, 2) := by decide +kernel
theorem dX0_init_33 : decode cX0_init 33 = .ok (.putfield 21, 3) := by decide +kernel
theorem dX0_init_36 : decode cX0_init 36 = .ok (.aload_n 0, 1) := by decide +kernel
theorem dX0_init_37 : decode cX0_init 37 = .ok (.bipush 64, 2) := by decide +kernel
theorem dX0_init_39 : decode cX0_init 39 = .ok (.newarray .int, 2) := by decide +kernel
theorem dX0_init_41 : decode cX0_init 41 = .ok (.putfield 24, 3) := by decide +kernel
theorem dX0_init_44 : decode cX0_init 44 = .ok (.aload_n 0, 1) := by decide +kernel
theorem dX0_init_45 : decode cX0_init 45 = .ok (.bipush 72, 2) := by decide +kernel
theorem dX0_init_47 : decode cX0_init 47 = .ok (.newarray .int, 2) := by decide +kernel
theorem dX0_init_49 : decode cX0_init 49 = .ok (.putfield 27, 3) := by decide +kernel
theorem dX0_init_52 : decode cX0_init 52 = .ok (.aload_n 0, 1) := by decide +kernel
theorem dX0_init_53 : decode cX0_init 53 = .ok (.iconst (-1), 1) := by decide +kernel
theorem dX0_init_54 : decode cX0_init 54 = .ok (.putfield 30, 3) := by decide +kernel
theorem dX0_init_57 : decode cX0_init 57 = .ok (.return_, 1) := by decide +kernel
theorem dX0_clear_0 : decode cX0_clear 0 = .ok (.aload_n 0, 1) := by decide +kernel
theorem dX0_clear_1 : decode cX0_clear 1 = .ok (.iconst 0, 1) := by decide +kernel
theorem dX0_clear_2 : decode cX0_clear 2 = .ok (.putfield 34, 3) := by decide +kernel
theorem dX0_clear_5 : decode cX0_clear 5 = .ok (.return_, 1) := by decide +kernel
theorem dX0_outcomeOf_0 : decode cX0_outcomeOf 0 = .ok (.aload_n 0, 1) := by decide +kernel
theorem dX0_outcomeOf_1 : decode cX0_outcomeOf 1 = .ok (.aload_n 2, 1) := by decide +kernel
theorem dX0_outcomeOf_2 : decode cX0_outcomeOf 2 = .ok (.invokevirtual 38, 3) := by decide +kernel
theorem dX0_outcomeOf_5 : decode cX0_outcomeOf 5 = .ok (.aload_n 0, 1) := by decide +kernel
theorem dX0_outcomeOf_6 : decode cX0_outcomeOf 6 = .ok (.getfield 24, 3) := by decide +kernel
theorem dX0_outcomeOf_9 : decode cX0_outcomeOf 9 = .ok (.iload_n 3, 1) := by decide +kernel
theorem dX0_outcomeOf_10 : decode cX0_outcomeOf 10 = .ok (.iaload, 1) := by decide +kernel
theorem dX0_outcomeOf_11 : decode cX0_outcomeOf 11 = .ok (.iconst 3, 1) := by decide +kernel
theorem dX0_outcomeOf_12 : decode cX0_outcomeOf 12 = .ok (.if_icmp .ne 9, 3) := by decide +kernel
theorem dX0_outcomeOf_15 : decode cX0_outcomeOf 15 = .ok (.aload_n 0, 1) := by decide +kernel
theorem dX0_outcomeOf_16 : decode cX0_outcomeOf 16 = .ok (.aload_n 1, 1) := by decide +kernel
theorem dX0_outcomeOf_17 : decode cX0_outcomeOf 17 = .ok (.iload_n 3, 1) := by decide +kernel
theorem dX0_outcomeOf_18 : decode cX0_outcomeOf 18 = .ok (.invokevirtual 42, 3) := by decide +kernel
theorem dX0_outcomeOf_21 : decode cX0_outcomeOf 21 = .ok (.aload_n 0, 1) := by decide +kernel
theorem dX0_outcomeOf_22 : decode cX0_outcomeOf 22 = .ok (.getfield 24, 3) := by decide +kernel
theorem dX0_outcomeOf_25 : decode cX0_outcomeOf 25 = .ok (.iload_n 3, 1) := by decide +kernel
theorem dX0_outcomeOf_26 : decode cX0_outcomeOf 26 = .ok (.iaload, 1) := by decide +kernel
theorem dX0_outcomeOf_27 : decode cX0_outcomeOf 27 = .ok (.ireturn, 1) := by decide +kernel
theorem dX0_tryOut_0 : decode cX0_tryOut 0 = .ok (.aload_n 0, 1) := by decide +kernel
theorem dX0_tryOut_1 : decode cX0_tryOut 1 = .ok (.invokevirtual 46, 3) := by decide +kernel
theorem dX0_tryOut_4 : decode cX0_tryOut 4 = .ok (.astore 4, 2) := by decide +kernel
theorem dX0_tryOut_6 : decode cX0_tryOut 6 = .ok (.aload_n 0, 1) := by decide +kernel
theorem dX0_tryOut_7 : decode cX0_tryOut 7 = .ok (.iconst (-1), 1) := by decide +kernel
theorem dX0_tryOut_8 : decode cX0_tryOut 8 = .ok (.putfield 30, 3) := by decide +kernel
theorem dX0_tryOut_11 : decode cX0_tryOut 11 = .ok (.aload 4, 2) := by decide +kernel
theorem dX0_tryOut_13 : decode cX0_tryOut 13 = .ok (.aload_n 1, 1) := by decide +kernel
theorem dX0_tryOut_14 : decode cX0_tryOut 14 = .ok (.aload_n 2, 1) := by decide +kernel
theorem dX0_tryOut_15 : decode cX0_tryOut 15 = .ok (.iload_n 3, 1) := by decide +kernel
theorem dX0_tryOut_16 : decode cX0_tryOut 16 = .ok (.invokevirtual 50, 3) := by decide +kernel
theorem dX0_tryOut_19 : decode cX0_tryOut 19 = .ok (.aload 4, 2) := by decide +kernel
theorem dX0_tryOut_21 : decode cX0_tryOut 21 = .ok (.getfield 56, 3) := by decide +kernel
theorem dX0_tryOut_24 : decode cX0_tryOut 24 = .ok (.ireturn, 1) := by decide +kernel
theorem dX0_moveOf_0 : decode cX0_moveOf 0 = .ok (.aload_n 0, 1) := by decide +kernel
theorem dX0_moveOf_1 : decode cX0_moveOf 1 = .ok (.aload_n 2, 1) := by decide +kernel
theorem dX0_moveOf_2 : decode cX0_moveOf 2 = .ok (.invokevirtual 38, 3) := by decide +kernel
theorem dX0_moveOf_5 : decode cX0_moveOf 5 = .ok (.aload_n 0, 1) := by decide +kernel
theorem dX0_moveOf_6 : decode cX0_moveOf 6 = .ok (.getfield 24, 3) := by decide +kernel
theorem dX0_moveOf_9 : decode cX0_moveOf 9 = .ok (.iload_n 3, 1) := by decide +kernel
theorem dX0_moveOf_10 : decode cX0_moveOf 10 = .ok (.iaload, 1) := by decide +kernel
theorem dX0_moveOf_11 : decode cX0_moveOf 11 = .ok (.iconst 3, 1) := by decide +kernel
theorem dX0_moveOf_12 : decode cX0_moveOf 12 = .ok (.if_icmp .eq 21, 3) := by decide +kernel
theorem dX0_moveOf_15 : decode cX0_moveOf 15 = .ok (.aload_n 0, 1) := by decide +kernel
theorem dX0_moveOf_16 : decode cX0_moveOf 16 = .ok (.getfield 24, 3) := by decide +kernel
theorem dX0_moveOf_19 : decode cX0_moveOf 19 = .ok (.iload_n 3, 1) := by decide +kernel
theorem dX0_moveOf_20 : decode cX0_moveOf 20 = .ok (.iaload, 1) := by decide +kernel
theorem dX0_moveOf_21 : decode cX0_moveOf 21 = .ok (.iconst 1, 1) := by decide +kernel
theorem dX0_moveOf_22 : decode cX0_moveOf 22 = .ok (.if_icmp .ne 17, 3) := by decide +kernel
theorem dX0_moveOf_25 : decode cX0_moveOf 25 = .ok (.aload_n 0, 1) := by decide +kernel
theorem dX0_moveOf_26 : decode cX0_moveOf 26 = .ok (.getfield 30, 3) := by decide +kernel
theorem dX0_moveOf_29 : decode cX0_moveOf 29 = .ok (.iload_n 3, 1) := by decide +kernel
theorem dX0_moveOf_30 : decode cX0_moveOf 30 = .ok (.if_icmp .eq 9, 3) := by decide +kernel
theorem dX0_moveOf_33 : decode cX0_moveOf 33 = .ok (.aload_n 0, 1) := by decide +kernel
theorem dX0_moveOf_34 : decode cX0_moveOf 34 = .ok (.aload_n 1, 1) := by decide +kernel
theorem dX0_moveOf_35 : decode cX0_moveOf 35 = .ok (.iload_n 3, 1) := by decide +kernel
theorem dX0_moveOf_36 : decode cX0_moveOf 36 = .ok (.invokevirtual 42, 3) := by decide +kernel
theorem dX0_moveOf_39 : decode cX0_moveOf 39 = .ok (.aload_n 0, 1) := by decide +kernel
theorem dX0_moveOf_40 : decode cX0_moveOf 40 = .ok (.getfield 24, 3) := by decide +kernel
theorem dX0_moveOf_43 : decode cX0_moveOf 43 = .ok (.iload_n 3, 1) := by decide +kernel
theorem dX0_moveOf_44 : decode cX0_moveOf 44 = .ok (.iaload, 1) := by decide +kernel
theorem dX0_moveOf_45 : decode cX0_moveOf 45 = .ok (.iconst 1, 1) := by decide +kernel
theorem dX0_moveOf_46 : decode cX0_moveOf 46 = .ok (.if_icmp .ne 19, 3) := by decide +kernel
theorem dX0_moveOf_49 : decode cX0_moveOf 49 = .ok (.iload 4, 2) := by decide +kernel
theorem dX0_moveOf_51 : decode cX0_moveOf 51 = .ok (.ifCond .lt 14, 3) := by decide +kernel
theorem dX0_moveOf_54 : decode cX0_moveOf 54 = .ok (.iload 4, 2) := by decide +kernel
theorem dX0_moveOf_56 : decode cX0_moveOf 56 = .ok (.aload_n 0, 1) := by decide +kernel
theorem dX0_moveOf_57 : decode cX0_moveOf 57 = .ok (.getfield 9, 3) := by decide +kernel
theorem dX0_moveOf_60 : decode cX0_moveOf 60 = .ok (.iload_n 3, 1) := by decide +kernel
theorem dX0_moveOf_61 : decode cX0_moveOf 61 = .ok (.iaload, 1) := by decide +kernel
theorem dX0_moveOf_62 : decode cX0_moveOf 62 = .ok (.if_icmp .lt 5, 3) := by decide +kernel
theorem dX0_moveOf_65 : decode cX0_moveOf 65 = .ok (.iconst (-1), 1) := by decide +kernel
theorem dX0_moveOf_66 : decode cX0_moveOf 66 = .ok (.ireturn, 1) := by decide +kernel
theorem dX0_moveOf_67 : decode cX0_moveOf 67 = .ok (.aload_n 0, 1) := by decide +kernel
theorem dX0_moveOf_68 : decode cX0_moveOf 68 = .ok (.invokevirtual 46, 3) := by decide +kernel
theorem dX0_moveOf_71 : decode cX0_moveOf 71 = .ok (.getfield 59, 3) := by decide +kernel
theorem dX0_moveOf_74 : decode cX0_moveOf 74 = .ok (.iload 4, 2) := by decide +kernel
theorem dX0_moveOf_76 : decode cX0_moveOf 76 = .ok (.iaload, 1) := by decide +kernel
theorem dX0_moveOf_77 : decode cX0_moveOf 77 = .ok (.ireturn, 1) := by decide +kernel
theorem dX0_leastSet_0 : decode cX0_leastSet 0 = .ok (.aload_n 0, 1) := by decide +kernel
theorem dX0_leastSet_1 : decode cX0_leastSet 1 = .ok (.aload_n 2, 1) := by decide +kernel
theorem dX0_leastSet_2 : decode cX0_leastSet 2 = .ok (.invokevirtual 38, 3) := by decide +kernel
theorem dX0_leastSet_5 : decode cX0_leastSet 5 = .ok (.iconst 1, 1) := by decide +kernel
theorem dX0_leastSet_6 : decode cX0_leastSet 6 = .ok (.istore_n 3, 1) := by decide +kernel
theorem dX0_leastSet_7 : decode cX0_leastSet 7 = .ok (.iload_n 3, 1) := by decide +kernel
theorem dX0_leastSet_8 : decode cX0_leastSet 8 = .ok (.aload_n 1, 1) := by decide +kernel
theorem dX0_leastSet_9 : decode cX0_leastSet 9 = .ok (.getfield 62, 3) := by decide +kernel
theorem dX0_leastSet_12 : decode cX0_leastSet 12 = .ok (.if_icmp .gt 80, 3) := by decide +kernel
theorem dX0_leastSet_15 : decode cX0_leastSet 15 = .ok (.iconst 1, 1) := by decide +kernel
theorem dX0_leastSet_16 : decode cX0_leastSet 16 = .ok (.istore 4, 2) := by decide +kernel
theorem dX0_leastSet_18 : decode cX0_leastSet 18 = .ok (.iload 4, 2) := by decide +kernel
theorem dX0_leastSet_20 : decode cX0_leastSet 20 = .ok (.aload_n 1, 1) := by decide +kernel
theorem dX0_leastSet_21 : decode cX0_leastSet 21 = .ok (.invokevirtual 67, 3) := by decide +kernel
theorem dX0_leastSet_24 : decode cX0_leastSet 24 = .ok (.if_icmp .gt 62, 3) := by decide +kernel
theorem dX0_leastSet_27 : decode cX0_leastSet 27 = .ok (.iload 4, 2) := by decide +kernel
theorem dX0_leastSet_29 : decode cX0_leastSet 29 = .ok (.invokestatic 71, 3) := by decide +kernel
theorem dX0_leastSet_32 : decode cX0_leastSet 32 = .ok (.iload_n 3, 1) := by decide +kernel
theorem dX0_leastSet_33 : decode cX0_leastSet 33 = .ok (.if_icmp .ne 47, 3) := by decide +kernel
theorem dX0_leastSet_36 : decode cX0_leastSet 36 = .ok (.aload_n 1, 1) := by decide +kernel
theorem dX0_leastSet_37 : decode cX0_leastSet 37 = .ok (.iload 4, 2) := by decide +kernel
theorem dX0_leastSet_39 : decode cX0_leastSet 39 = .ok (.invokevirtual 77, 3) := by decide +kernel
theorem dX0_leastSet_42 : decode cX0_leastSet 42 = .ok (.ifCond .ne 6, 3) := by decide +kernel
theorem dX0_leastSet_45 : decode cX0_leastSet 45 = .ok (.goto 35, 3) := by decide +kernel
theorem dX0_leastSet_48 : decode cX0_leastSet 48 = .ok (.aload_n 0, 1) := by decide +kernel
theorem dX0_leastSet_49 : decode cX0_leastSet 49 = .ok (.getfield 24, 3) := by decide +kernel
theorem dX0_leastSet_52 : decode cX0_leastSet 52 = .ok (.iload 4, 2) := by decide +kernel
theorem dX0_leastSet_54 : decode cX0_leastSet 54 = .ok (.iaload, 1) := by decide +kernel
theorem dX0_leastSet_55 : decode cX0_leastSet 55 = .ok (.iconst 3, 1) := by decide +kernel
theorem dX0_leastSet_56 : decode cX0_leastSet 56 = .ok (.if_icmp .ne 10, 3) := by decide +kernel
theorem dX0_leastSet_59 : decode cX0_leastSet 59 = .ok (.aload_n 0, 1) := by decide +kernel
theorem dX0_leastSet_60 : decode cX0_leastSet 60 = .ok (.aload_n 1, 1) := by decide +kernel
theorem dX0_leastSet_61 : decode cX0_leastSet 61 = .ok (.iload 4, 2) := by decide +kernel
theorem dX0_leastSet_63 : decode cX0_leastSet 63 = .ok (.invokevirtual 42, 3) := by decide +kernel
theorem dX0_leastSet_66 : decode cX0_leastSet 66 = .ok (.aload_n 0, 1) := by decide +kernel
theorem dX0_leastSet_67 : decode cX0_leastSet 67 = .ok (.getfield 24, 3) := by decide +kernel
theorem dX0_leastSet_70 : decode cX0_leastSet 70 = .ok (.iload 4, 2) := by decide +kernel
theorem dX0_leastSet_72 : decode cX0_leastSet 72 = .ok (.iaload, 1) := by decide +kernel
theorem dX0_leastSet_73 : decode cX0_leastSet 73 = .ok (.iconst 1, 1) := by decide +kernel
theorem dX0_leastSet_74 : decode cX0_leastSet 74 = .ok (.if_icmp .ne 6, 3) := by decide +kernel
theorem dX0_leastSet_77 : decode cX0_leastSet 77 = .ok (.iload 4, 2) := by decide +kernel
theorem dX0_leastSet_79 : decode cX0_leastSet 79 = .ok (.ireturn, 1) := by decide +kernel
theorem dX0_leastSet_80 : decode cX0_leastSet 80 = .ok (.iinc 4 1, 3) := by decide +kernel
theorem dX0_leastSet_83 : decode cX0_leastSet 83 = .ok (.goto (-65), 3) := by decide +kernel
theorem dX0_leastSet_86 : decode cX0_leastSet 86 = .ok (.iinc 3 1, 3) := by decide +kernel
theorem dX0_leastSet_89 : decode cX0_leastSet 89 = .ok (.goto (-82), 3) := by decide +kernel
theorem dX0_leastSet_92 : decode cX0_leastSet 92 = .ok (.iconst 0, 1) := by decide +kernel
theorem dX0_leastSet_93 : decode cX0_leastSet 93 = .ok (.ireturn, 1) := by decide +kernel
theorem dX0_freshen_0 : decode cX0_freshen 0 = .ok (.iconst 0, 1) := by decide +kernel
theorem dX0_freshen_1 : decode cX0_freshen 1 = .ok (.istore_n 2, 1) := by decide +kernel
theorem dX0_freshen_2 : decode cX0_freshen 2 = .ok (.iload_n 2, 1) := by decide +kernel
theorem dX0_freshen_3 : decode cX0_freshen 3 = .ok (.aload_n 0, 1) := by decide +kernel
theorem dX0_freshen_4 : decode cX0_freshen 4 = .ok (.getfield 27, 3) := by decide +kernel
theorem dX0_freshen_7 : decode cX0_freshen 7 = .ok (.arraylength, 1) := by decide +kernel
theorem dX0_freshen_8 : decode cX0_freshen 8 = .ok (.if_icmp .ge 37, 3) := by decide +kernel
theorem dX0_freshen_11 : decode cX0_freshen 11 = .ok (.aload_n 0, 1) := by decide +kernel
theorem dX0_freshen_12 : decode cX0_freshen 12 = .ok (.aload_n 0, 1) := by decide +kernel
theorem dX0_freshen_13 : decode cX0_freshen 13 = .ok (.getfield 34, 3) := by decide +kernel
theorem dX0_freshen_16 : decode cX0_freshen 16 = .ok (.ifCond .eq 19, 3) := by decide +kernel
theorem dX0_freshen_19 : decode cX0_freshen 19 = .ok (.aload_n 0, 1) := by decide +kernel
theorem dX0_freshen_20 : decode cX0_freshen 20 = .ok (.getfield 27, 3) := by decide +kernel
theorem dX0_freshen_23 : decode cX0_freshen 23 = .ok (.iload_n 2, 1) := by decide +kernel
theorem dX0_freshen_24 : decode cX0_freshen 24 = .ok (.iaload, 1) := by decide +kernel
theorem dX0_freshen_25 : decode cX0_freshen 25 = .ok (.aload_n 1, 1) := by decide +kernel
theorem dX0_freshen_26 : decode cX0_freshen 26 = .ok (.iload_n 2, 1) := by decide +kernel
theorem dX0_freshen_27 : decode cX0_freshen 27 = .ok (.iaload, 1) := by decide +kernel
theorem dX0_freshen_28 : decode cX0_freshen 28 = .ok (.if_icmp .ne 7, 3) := by decide +kernel
theorem dX0_freshen_31 : decode cX0_freshen 31 = .ok (.iconst 1, 1) := by decide +kernel
theorem dX0_freshen_32 : decode cX0_freshen 32 = .ok (.goto 4, 3) := by decide +kernel
theorem dX0_freshen_35 : decode cX0_freshen 35 = .ok (.iconst 0, 1) := by decide +kernel
theorem dX0_freshen_36 : decode cX0_freshen 36 = .ok (.putfield 34, 3) := by decide +kernel
theorem dX0_freshen_39 : decode cX0_freshen 39 = .ok (.iinc 2 1, 3) := by decide +kernel
theorem dX0_freshen_42 : decode cX0_freshen 42 = .ok (.goto (-40), 3) := by decide +kernel
theorem dX0_freshen_45 : decode cX0_freshen 45 = .ok (.aload_n 0, 1) := by decide +kernel
theorem dX0_freshen_46 : decode cX0_freshen 46 = .ok (.getfield 34, 3) := by decide +kernel
theorem dX0_freshen_49 : decode cX0_freshen 49 = .ok (.ifCond .ne 36, 3) := by decide +kernel
theorem dX0_freshen_52 : decode cX0_freshen 52 = .ok (.aload_n 1, 1) := by decide +kernel
theorem dX0_freshen_53 : decode cX0_freshen 53 = .ok (.iconst 0, 1) := by decide +kernel
theorem dX0_freshen_54 : decode cX0_freshen 54 = .ok (.aload_n 0, 1) := by decide +kernel
theorem dX0_freshen_55 : decode cX0_freshen 55 = .ok (.getfield 27, 3) := by decide +kernel
theorem dX0_freshen_58 : decode cX0_freshen 58 = .ok (.iconst 0, 1) := by decide +kernel
theorem dX0_freshen_59 : decode cX0_freshen 59 = .ok (.aload_n 0, 1) := by decide +kernel
theorem dX0_freshen_60 : decode cX0_freshen 60 = .ok (.getfield 27, 3) := by decide +kernel
theorem dX0_freshen_63 : decode cX0_freshen 63 = .ok (.arraylength, 1) := by decide +kernel
theorem dX0_freshen_64 : decode cX0_freshen 64 = .ok (.invokestatic 81, 3) := by decide +kernel
theorem dX0_freshen_67 : decode cX0_freshen 67 = .ok (.aload_n 0, 1) := by decide +kernel
theorem dX0_freshen_68 : decode cX0_freshen 68 = .ok (.getfield 24, 3) := by decide +kernel
theorem dX0_freshen_71 : decode cX0_freshen 71 = .ok (.iconst 3, 1) := by decide +kernel
theorem dX0_freshen_72 : decode cX0_freshen 72 = .ok (.invokestatic 87, 3) := by decide +kernel
theorem dX0_freshen_75 : decode cX0_freshen 75 = .ok (.aload_n 0, 1) := by decide +kernel
theorem dX0_freshen_76 : decode cX0_freshen 76 = .ok (.iconst (-1), 1) := by decide +kernel
theorem dX0_freshen_77 : decode cX0_freshen 77 = .ok (.putfield 30, 3) := by decide +kernel
theorem dX0_freshen_80 : decode cX0_freshen 80 = .ok (.aload_n 0, 1) := by decide +kernel
theorem dX0_freshen_81 : decode cX0_freshen 81 = .ok (.iconst 1, 1) := by decide +kernel
theorem dX0_freshen_82 : decode cX0_freshen 82 = .ok (.putfield 34, 3) := by decide +kernel
theorem dX0_freshen_85 : decode cX0_freshen 85 = .ok (.return_, 1) := by decide +kernel
theorem dX0_lookInto_0 : decode cX0_lookInto 0 = .ok (.aload_n 0, 1) := by decide +kernel
theorem dX0_lookInto_1 : decode cX0_lookInto 1 = .ok (.invokevirtual 46, 3) := by decide +kernel
theorem dX0_lookInto_4 : decode cX0_lookInto 4 = .ok (.astore_n 3, 1) := by decide +kernel
theorem dX0_lookInto_5 : decode cX0_lookInto 5 = .ok (.aload_n 3, 1) := by decide +kernel
theorem dX0_lookInto_6 : decode cX0_lookInto 6 = .ok (.aload_n 1, 1) := by decide +kernel
theorem dX0_lookInto_7 : decode cX0_lookInto 7 = .ok (.aload_n 0, 1) := by decide +kernel
theorem dX0_lookInto_8 : decode cX0_lookInto 8 = .ok (.getfield 27, 3) := by decide +kernel
theorem dX0_lookInto_11 : decode cX0_lookInto 11 = .ok (.iload_n 2, 1) := by decide +kernel
theorem dX0_lookInto_12 : decode cX0_lookInto 12 = .ok (.invokevirtual 50, 3) := by decide +kernel
theorem dX0_lookInto_15 : decode cX0_lookInto 15 = .ok (.aload_n 0, 1) := by decide +kernel
theorem dX0_lookInto_16 : decode cX0_lookInto 16 = .ok (.iload_n 2, 1) := by decide +kernel
theorem dX0_lookInto_17 : decode cX0_lookInto 17 = .ok (.putfield 30, 3) := by decide +kernel
theorem dX0_lookInto_20 : decode cX0_lookInto 20 = .ok (.aload_n 0, 1) := by decide +kernel
theorem dX0_lookInto_21 : decode cX0_lookInto 21 = .ok (.getfield 24, 3) := by decide +kernel
theorem dX0_lookInto_24 : decode cX0_lookInto 24 = .ok (.iload_n 2, 1) := by decide +kernel
theorem dX0_lookInto_25 : decode cX0_lookInto 25 = .ok (.aload_n 3, 1) := by decide +kernel
theorem dX0_lookInto_26 : decode cX0_lookInto 26 = .ok (.getfield 56, 3) := by decide +kernel
theorem dX0_lookInto_29 : decode cX0_lookInto 29 = .ok (.iastore, 1) := by decide +kernel
theorem dX0_lookInto_30 : decode cX0_lookInto 30 = .ok (.aload_n 0, 1) := by decide +kernel
theorem dX0_lookInto_31 : decode cX0_lookInto 31 = .ok (.getfield 9, 3) := by decide +kernel
theorem dX0_lookInto_34 : decode cX0_lookInto 34 = .ok (.iload_n 2, 1) := by decide +kernel
theorem dX0_lookInto_35 : decode cX0_lookInto 35 = .ok (.aload_n 3, 1) := by decide +kernel
theorem dX0_lookInto_36 : decode cX0_lookInto 36 = .ok (.getfield 93, 3) := by decide +kernel
theorem dX0_lookInto_39 : decode cX0_lookInto 39 = .ok (.iastore, 1) := by decide +kernel
theorem dX0_lookInto_40 : decode cX0_lookInto 40 = .ok (.aload_n 0, 1) := by decide +kernel
theorem dX0_lookInto_41 : decode cX0_lookInto 41 = .ok (.getfield 15, 3) := by decide +kernel
theorem dX0_lookInto_44 : decode cX0_lookInto 44 = .ok (.iload_n 2, 1) := by decide +kernel
theorem dX0_lookInto_45 : decode cX0_lookInto 45 = .ok (.aload_n 3, 1) := by decide +kernel
theorem dX0_lookInto_46 : decode cX0_lookInto 46 = .ok (.getfield 95, 3) := by decide +kernel
theorem dX0_lookInto_49 : decode cX0_lookInto 49 = .ok (.iastore, 1) := by decide +kernel
theorem dX0_lookInto_50 : decode cX0_lookInto 50 = .ok (.aload_n 0, 1) := by decide +kernel
theorem dX0_lookInto_51 : decode cX0_lookInto 51 = .ok (.getfield 18, 3) := by decide +kernel
theorem dX0_lookInto_54 : decode cX0_lookInto 54 = .ok (.iload_n 2, 1) := by decide +kernel
theorem dX0_lookInto_55 : decode cX0_lookInto 55 = .ok (.aload_n 3, 1) := by decide +kernel
theorem dX0_lookInto_56 : decode cX0_lookInto 56 = .ok (.getfield 98, 3) := by decide +kernel
theorem dX0_lookInto_59 : decode cX0_lookInto 59 = .ok (.iastore, 1) := by decide +kernel
theorem dX0_lookInto_60 : decode cX0_lookInto 60 = .ok (.aload_n 0, 1) := by decide +kernel
theorem dX0_lookInto_61 : decode cX0_lookInto 61 = .ok (.getfield 21, 3) := by decide +kernel
theorem dX0_lookInto_64 : decode cX0_lookInto 64 = .ok (.iload_n 2, 1) := by decide +kernel
theorem dX0_lookInto_65 : decode cX0_lookInto 65 = .ok (.aload_n 3, 1) := by decide +kernel
theorem dX0_lookInto_66 : decode cX0_lookInto 66 = .ok (.getfield 101, 3) := by decide +kernel
theorem dX0_lookInto_69 : decode cX0_lookInto 69 = .ok (.iastore, 1) := by decide +kernel
theorem dX0_lookInto_70 : decode cX0_lookInto 70 = .ok (.return_, 1) := by decide +kernel
theorem dX0_readySides_0 : decode cX0_readySides 0 = .ok (.aload_n 0, 1) := by decide +kernel
theorem dX0_readySides_1 : decode cX0_readySides 1 = .ok (.getfield 104, 3) := by decide +kernel
theorem dX0_readySides_4 : decode cX0_readySides 4 = .ok (.ifnonnull 14, 3) := by decide +kernel
theorem dX0_readySides_7 : decode cX0_readySides 7 = .ok (.aload_n 0, 1) := by decide +kernel
theorem dX0_readySides_8 : decode cX0_readySides 8 = .ok (.new 51, 3) := by decide +kernel
theorem dX0_readySides_11 : decode cX0_readySides 11 = .ok (.dup, 1) := by decide +kernel
theorem dX0_readySides_12 : decode cX0_readySides 12 = .ok (.invokespecial 108, 3) := by decide +kernel
theorem dX0_readySides_15 : decode cX0_readySides 15 = .ok (.putfield 104, 3) := by decide +kernel
theorem dX0_readySides_18 : decode cX0_readySides 18 = .ok (.aload_n 0, 1) := by decide +kernel
theorem dX0_readySides_19 : decode cX0_readySides 19 = .ok (.getfield 104, 3) := by decide +kernel
theorem dX0_readySides_22 : decode cX0_readySides 22 = .ok (.areturn, 1) := by decide +kernel
theorem dX1_init_0 : decode cX1_init 0 = .ok (.aload_n 0, 1) := by decide +kernel
theorem dX1_init_1 : decode cX1_init 1 = .ok (.invokespecial 3, 3) := by decide +kernel
theorem dX1_init_4 : decode cX1_init 4 = .ok (.aload_n 0, 1) := by decide +kernel
theorem dX1_init_5 : decode cX1_init 5 = .ok (.bipush 16, 2) := by decide +kernel
theorem dX1_init_7 : decode cX1_init 7 = .ok (.newarray .int, 2) := by decide +kernel
theorem dX1_init_9 : decode cX1_init 9 = .ok (.putfield 9, 3) := by decide +kernel
theorem dX1_init_12 : decode cX1_init 12 = .ok (.aload_n 0, 1) := by decide +kernel
theorem dX1_init_13 : decode cX1_init 13 = .ok (.bipush 16, 2) := by decide +kernel
theorem dX1_init_15 : decode cX1_init 15 = .ok (.newarray .int, 2) := by decide +kernel
theorem dX1_init_17 : decode cX1_init 17 = .ok (.putfield 15, 3) := by decide +kernel
theorem dX1_init_20 : decode cX1_init 20 = .ok (.aload_n 0, 1) := by decide +kernel
theorem dX1_init_21 : decode cX1_init 21 = .ok (.sipush 256, 3) := by decide +kernel
theorem dX1_init_24 : decode cX1_init 24 = .ok (.newarray .int, 2) := by decide +kernel
theorem dX1_init_26 : decode cX1_init 26 = .ok (.putfield 18, 3) := by decide +kernel
theorem dX1_init_29 : decode cX1_init 29 = .ok (.return_, 1) := by decide +kernel
theorem dX1_clear_0 : decode cX1_clear 0 = .ok (.aload_n 0, 1) := by decide +kernel
theorem dX1_clear_1 : decode cX1_clear 1 = .ok (.iconst 0, 1) := by decide +kernel
theorem dX1_clear_2 : decode cX1_clear 2 = .ok (.putfield 21, 3) := by decide +kernel
theorem dX1_clear_5 : decode cX1_clear 5 = .ok (.aload_n 0, 1) := by decide +kernel
theorem dX1_clear_6 : decode cX1_clear 6 = .ok (.getfield 9, 3) := by decide +kernel
theorem dX1_clear_9 : decode cX1_clear 9 = .ok (.iconst 0, 1) := by decide +kernel
theorem dX1_clear_10 : decode cX1_clear 10 = .ok (.invokestatic 25, 3) := by decide +kernel
theorem dX1_clear_13 : decode cX1_clear 13 = .ok (.aload_n 0, 1) := by decide +kernel
theorem dX1_clear_14 : decode cX1_clear 14 = .ok (.getfield 15, 3) := by decide +kernel
theorem dX1_clear_17 : decode cX1_clear 17 = .ok (.iconst 0, 1) := by decide +kernel
theorem dX1_clear_18 : decode cX1_clear 18 = .ok (.invokestatic 25, 3) := by decide +kernel
theorem dX1_clear_21 : decode cX1_clear 21 = .ok (.return_, 1) := by decide +kernel
theorem dX1_copyFrom_0 : decode cX1_copyFrom 0 = .ok (.aload_n 0, 1) := by decide +kernel
theorem dX1_copyFrom_1 : decode cX1_copyFrom 1 = .ok (.aload_n 1, 1) := by decide +kernel
theorem dX1_copyFrom_2 : decode cX1_copyFrom 2 = .ok (.getfield 21, 3) := by decide +kernel
theorem dX1_copyFrom_5 : decode cX1_copyFrom 5 = .ok (.putfield 21, 3) := by decide +kernel
theorem dX1_copyFrom_8 : decode cX1_copyFrom 8 = .ok (.aload_n 1, 1) := by decide +kernel
theorem dX1_copyFrom_9 : decode cX1_copyFrom 9 = .ok (.getfield 9, 3) := by decide +kernel
theorem dX1_copyFrom_12 : decode cX1_copyFrom 12 = .ok (.iconst 0, 1) := by decide +kernel
theorem dX1_copyFrom_13 : decode cX1_copyFrom 13 = .ok (.aload_n 0, 1) := by decide +kernel
theorem dX1_copyFrom_14 : decode cX1_copyFrom 14 = .ok (.getfield 9, 3) := by decide +kernel
theorem dX1_copyFrom_17 : decode cX1_copyFrom 17 = .ok (.iconst 0, 1) := by decide +kernel
theorem dX1_copyFrom_18 : decode cX1_copyFrom 18 = .ok (.aload_n 0, 1) := by decide +kernel
theorem dX1_copyFrom_19 : decode cX1_copyFrom 19 = .ok (.getfield 9, 3) := by decide +kernel
theorem dX1_copyFrom_22 : decode cX1_copyFrom 22 = .ok (.arraylength, 1) := by decide +kernel
theorem dX1_copyFrom_23 : decode cX1_copyFrom 23 = .ok (.invokestatic 31, 3) := by decide +kernel
theorem dX1_copyFrom_26 : decode cX1_copyFrom 26 = .ok (.aload_n 1, 1) := by decide +kernel
theorem dX1_copyFrom_27 : decode cX1_copyFrom 27 = .ok (.getfield 15, 3) := by decide +kernel
theorem dX1_copyFrom_30 : decode cX1_copyFrom 30 = .ok (.iconst 0, 1) := by decide +kernel
theorem dX1_copyFrom_31 : decode cX1_copyFrom 31 = .ok (.aload_n 0, 1) := by decide +kernel
theorem dX1_copyFrom_32 : decode cX1_copyFrom 32 = .ok (.getfield 15, 3) := by decide +kernel
theorem dX1_copyFrom_35 : decode cX1_copyFrom 35 = .ok (.iconst 0, 1) := by decide +kernel
theorem dX1_copyFrom_36 : decode cX1_copyFrom 36 = .ok (.aload_n 0, 1) := by decide +kernel
theorem dX1_copyFrom_37 : decode cX1_copyFrom 37 = .ok (.getfield 15, 3) := by decide +kernel
theorem dX1_copyFrom_40 : decode cX1_copyFrom 40 = .ok (.arraylength, 1) := by decide +kernel
theorem dX1_copyFrom_41 : decode cX1_copyFrom 41 = .ok (.invokestatic 31, 3) := by decide +kernel
theorem dX1_copyFrom_44 : decode cX1_copyFrom 44 = .ok (.aload_n 1, 1) := by decide +kernel
theorem dX1_copyFrom_45 : decode cX1_copyFrom 45 = .ok (.getfield 18, 3) := by decide +kernel
theorem dX1_copyFrom_48 : decode cX1_copyFrom 48 = .ok (.iconst 0, 1) := by decide +kernel
theorem dX1_copyFrom_49 : decode cX1_copyFrom 49 = .ok (.aload_n 0, 1) := by decide +kernel
theorem dX1_copyFrom_50 : decode cX1_copyFrom 50 = .ok (.getfield 18, 3) := by decide +kernel
theorem dX1_copyFrom_53 : decode cX1_copyFrom 53 = .ok (.iconst 0, 1) := by decide +kernel
theorem dX1_copyFrom_54 : decode cX1_copyFrom 54 = .ok (.aload_n 0, 1) := by decide +kernel
theorem dX1_copyFrom_55 : decode cX1_copyFrom 55 = .ok (.getfield 18, 3) := by decide +kernel
theorem dX1_copyFrom_58 : decode cX1_copyFrom 58 = .ok (.arraylength, 1) := by decide +kernel
theorem dX1_copyFrom_59 : decode cX1_copyFrom 59 = .ok (.invokestatic 31, 3) := by decide +kernel
theorem dX1_copyFrom_62 : decode cX1_copyFrom 62 = .ok (.return_, 1) := by decide +kernel
theorem dX1_leads_0 : decode cX1_leads 0 = .ok (.aload_n 0, 1) := by decide +kernel
theorem dX1_leads_1 : decode cX1_leads 1 = .ok (.getfield 9, 3) := by decide +kernel
theorem dX1_leads_4 : decode cX1_leads 4 = .ok (.iload_n 1, 1) := by decide +kernel
theorem dX1_leads_5 : decode cX1_leads 5 = .ok (.iaload, 1) := by decide +kernel
theorem dX1_leads_6 : decode cX1_leads 6 = .ok (.iload_n 2, 1) := by decide +kernel
theorem dX1_leads_7 : decode cX1_leads 7 = .ok (.invokestatic 37, 3) := by decide +kernel
theorem dX1_leads_10 : decode cX1_leads 10 = .ok (.ireturn, 1) := by decide +kernel
theorem dX1_learn_0 : decode cX1_learn 0 = .ok (.aload_n 0, 1) := by decide +kernel
theorem dX1_learn_1 : decode cX1_learn 1 = .ok (.dup, 1) := by decide +kernel
theorem dX1_learn_2 : decode cX1_learn 2 = .ok (.getfield 21, 3) := by decide +kernel
theorem dX1_learn_5 : decode cX1_learn 5 = .ok (.iconst 1, 1) := by decide +kernel
theorem dX1_learn_6 : decode cX1_learn 6 = .ok (.iadd, 1) := by decide +kernel
theorem dX1_learn_7 : decode cX1_learn 7 = .ok (.putfield 21, 3) := by decide +kernel
theorem dX1_learn_10 : decode cX1_learn 10 = .ok (.aload_n 0, 1) := by decide +kernel
theorem dX1_learn_11 : decode cX1_learn 11 = .ok (.getfield 9, 3) := by decide +kernel
theorem dX1_learn_14 : decode cX1_learn 14 = .ok (.iload_n 1, 1) := by decide +kernel
theorem dX1_learn_15 : decode cX1_learn 15 = .ok (.dup2, 1) := by decide +kernel
theorem dX1_learn_16 : decode cX1_learn 16 = .ok (.iaload, 1) := by decide +kernel
theorem dX1_learn_17 : decode cX1_learn 17 = .ok (.iconst 1, 1) := by decide +kernel
theorem dX1_learn_18 : decode cX1_learn 18 = .ok (.iload_n 2, 1) := by decide +kernel
theorem dX1_learn_19 : decode cX1_learn 19 = .ok (.ishl, 1) := by decide +kernel
theorem dX1_learn_20 : decode cX1_learn 20 = .ok (.ior, 1) := by decide +kernel
theorem dX1_learn_21 : decode cX1_learn 21 = .ok (.iastore, 1) := by decide +kernel
theorem dX1_learn_22 : decode cX1_learn 22 = .ok (.aload_n 0, 1) := by decide +kernel
theorem dX1_learn_23 : decode cX1_learn 23 = .ok (.getfield 18, 3) := by decide +kernel
theorem dX1_learn_26 : decode cX1_learn 26 = .ok (.iload_n 1, 1) := by decide +kernel
theorem dX1_learn_27 : decode cX1_learn 27 = .ok (.bipush 16, 2) := by decide +kernel
theorem dX1_learn_29 : decode cX1_learn 29 = .ok (.imul, 1) := by decide +kernel
theorem dX1_learn_30 : decode cX1_learn 30 = .ok (.iload_n 2, 1) := by decide +kernel
theorem dX1_learn_31 : decode cX1_learn 31 = .ok (.iadd, 1) := by decide +kernel
theorem dX1_learn_32 : decode cX1_learn 32 = .ok (.iload_n 3, 1) := by decide +kernel
theorem dX1_learn_33 : decode cX1_learn 33 = .ok (.iastore, 1) := by decide +kernel
theorem dX1_learn_34 : decode cX1_learn 34 = .ok (.aload_n 0, 1) := by decide +kernel
theorem dX1_learn_35 : decode cX1_learn 35 = .ok (.getfield 15, 3) := by decide +kernel
theorem dX1_learn_38 : decode cX1_learn 38 = .ok (.iload_n 2, 1) := by decide +kernel
theorem dX1_learn_39 : decode cX1_learn 39 = .ok (.iaload, 1) := by decide +kernel
theorem dX1_learn_40 : decode cX1_learn 40 = .ok (.iconst 1, 1) := by decide +kernel
theorem dX1_learn_41 : decode cX1_learn 41 = .ok (.iload_n 2, 1) := by decide +kernel
theorem dX1_learn_42 : decode cX1_learn 42 = .ok (.ishl, 1) := by decide +kernel
theorem dX1_learn_43 : decode cX1_learn 43 = .ok (.ior, 1) := by decide +kernel
theorem dX1_learn_44 : decode cX1_learn 44 = .ok (.istore 4, 2) := by decide +kernel
theorem dX1_learn_46 : decode cX1_learn 46 = .ok (.iconst 0, 1) := by decide +kernel
theorem dX1_learn_47 : decode cX1_learn 47 = .ok (.istore 5, 2) := by decide +kernel
theorem dX1_learn_49 : decode cX1_learn 49 = .ok (.iload 5, 2) := by decide +kernel
theorem dX1_learn_51 : decode cX1_learn 51 = .ok (.bipush 16, 2) := by decide +kernel
theorem dX1_learn_53 : decode cX1_learn 53 = .ok (.if_icmp .ge 41, 3) := by decide +kernel
theorem dX1_learn_56 : decode cX1_learn 56 = .ok (.iload 5, 2) := by decide +kernel
theorem dX1_learn_58 : decode cX1_learn 58 = .ok (.iload_n 1, 1) := by decide +kernel
theorem dX1_learn_59 : decode cX1_learn 59 = .ok (.if_icmp .eq 17, 3) := by decide +kernel
theorem dX1_learn_62 : decode cX1_learn 62 = .ok (.aload_n 0, 1) := by decide +kernel
theorem dX1_learn_63 : decode cX1_learn 63 = .ok (.getfield 15, 3) := by decide +kernel
theorem dX1_learn_66 : decode cX1_learn 66 = .ok (.iload 5, 2) := by decide +kernel
theorem dX1_learn_68 : decode cX1_learn 68 = .ok (.iaload, 1) := by decide +kernel
theorem dX1_learn_69 : decode cX1_learn 69 = .ok (.iload_n 1, 1) := by decide +kernel
theorem dX1_learn_70 : decode cX1_learn 70 = .ok (.invokestatic 37, 3) := by decide +kernel
theorem dX1_learn_73 : decode cX1_learn 73 = .ok (.ifCond .eq 15, 3) := by decide +kernel
theorem dX1_learn_76 : decode cX1_learn 76 = .ok (.aload_n 0, 1) := by decide +kernel
theorem dX1_learn_77 : decode cX1_learn 77 = .ok (.getfield 15, 3) := by decide +kernel
theorem dX1_learn_80 : decode cX1_learn 80 = .ok (.iload 5, 2) := by decide +kernel
theorem dX1_learn_82 : decode cX1_learn 82 = .ok (.dup2, 1) := by decide +kernel
theorem dX1_learn_83 : decode cX1_learn 83 = .ok (.iaload, 1) := by decide +kernel
theorem dX1_learn_84 : decode cX1_learn 84 = .ok (.iload 4, 2) := by decide +kernel
theorem dX1_learn_86 : decode cX1_learn 86 = .ok (.ior, 1) := by decide +kernel
theorem dX1_learn_87 : decode cX1_learn 87 = .ok (.iastore, 1) := by decide +kernel
theorem dX1_learn_88 : decode cX1_learn 88 = .ok (.iinc 5 1, 3) := by decide +kernel
theorem dX1_learn_91 : decode cX1_learn 91 = .ok (.goto (-42), 3) := by decide +kernel
theorem dX1_learn_94 : decode cX1_learn 94 = .ok (.return_, 1) := by decide +kernel
theorem dX1_inOrder_0 : decode cX1_inOrder 0 = .ok (.iconst 0, 1) := by decide +kernel
theorem dX1_inOrder_1 : decode cX1_inOrder 1 = .ok (.istore_n 2, 1) := by decide +kernel
theorem dX1_inOrder_2 : decode cX1_inOrder 2 = .ok (.iconst 0, 1) := by decide +kernel
theorem dX1_inOrder_3 : decode cX1_inOrder 3 = .ok (.istore_n 3, 1) := by decide +kernel
theorem dX1_inOrder_4 : decode cX1_inOrder 4 = .ok (.iload_n 3, 1) := by decide +kernel
theorem dX1_inOrder_5 : decode cX1_inOrder 5 = .ok (.bipush 16, 2) := by decide +kernel
theorem dX1_inOrder_7 : decode cX1_inOrder 7 = .ok (.if_icmp .ge 46, 3) := by decide +kernel
theorem dX1_inOrder_10 : decode cX1_inOrder 10 = .ok (.aload_n 0, 1) := by decide +kernel
theorem dX1_inOrder_11 : decode cX1_inOrder 11 = .ok (.getfield 15, 3) := by decide +kernel
theorem dX1_inOrder_14 : decode cX1_inOrder 14 = .ok (.iload_n 3, 1) := by decide +kernel
theorem dX1_inOrder_15 : decode cX1_inOrder 15 = .ok (.iaload, 1) := by decide +kernel
theorem dX1_inOrder_16 : decode cX1_inOrder 16 = .ok (.iload_n 3, 1) := by decide +kernel
theorem dX1_inOrder_17 : decode cX1_inOrder 17 = .ok (.invokestatic 37, 3) := by decide +kernel
theorem dX1_inOrder_20 : decode cX1_inOrder 20 = .ok (.ifCond .eq 5, 3) := by decide +kernel
theorem dX1_inOrder_23 : decode cX1_inOrder 23 = .ok (.iconst (-1), 1) := by decide +kernel
theorem dX1_inOrder_24 : decode cX1_inOrder 24 = .ok (.ireturn, 1) := by decide +kernel
theorem dX1_inOrder_25 : decode cX1_inOrder 25 = .ok (.aload_n 0, 1) := by decide +kernel
theorem dX1_inOrder_26 : decode cX1_inOrder 26 = .ok (.getfield 9, 3) := by decide +kernel
theorem dX1_inOrder_29 : decode cX1_inOrder 29 = .ok (.iload_n 3, 1) := by decide +kernel
theorem dX1_inOrder_30 : decode cX1_inOrder 30 = .ok (.iaload, 1) := by decide +kernel
theorem dX1_inOrder_31 : decode cX1_inOrder 31 = .ok (.ifCond .eq 16, 3) := by decide +kernel
theorem dX1_inOrder_34 : decode cX1_inOrder 34 = .ok (.iload_n 2, 1) := by decide +kernel
theorem dX1_inOrder_35 : decode cX1_inOrder 35 = .ok (.iconst 1, 1) := by decide +kernel
theorem dX1_inOrder_36 : decode cX1_inOrder 36 = .ok (.iload_n 3, 1) := by decide +kernel
theorem dX1_inOrder_37 : decode cX1_inOrder 37 = .ok (.ishl, 1) := by decide +kernel
theorem dX1_inOrder_38 : decode cX1_inOrder 38 = .ok (.aload_n 0, 1) := by decide +kernel
theorem dX1_inOrder_39 : decode cX1_inOrder 39 = .ok (.getfield 9, 3) := by decide +kernel
theorem dX1_inOrder_42 : decode cX1_inOrder 42 = .ok (.iload_n 3, 1) := by decide +kernel
theorem dX1_inOrder_43 : decode cX1_inOrder 43 = .ok (.iaload, 1) := by decide +kernel
theorem dX1_inOrder_44 : decode cX1_inOrder 44 = .ok (.ior, 1) := by decide +kernel
theorem dX1_inOrder_45 : decode cX1_inOrder 45 = .ok (.ior, 1) := by decide +kernel
theorem dX1_inOrder_46 : decode cX1_inOrder 46 = .ok (.istore_n 2, 1) := by decide +kernel
theorem dX1_inOrder_47 : decode cX1_inOrder 47 = .ok (.iinc 3 1, 3) := by decide +kernel
theorem dX1_inOrder_50 : decode cX1_inOrder 50 = .ok (.goto (-46), 3) := by decide +kernel
theorem dX1_inOrder_53 : decode cX1_inOrder 53 = .ok (.iconst (-1), 1) := by decide +kernel
theorem dX1_inOrder_54 : decode cX1_inOrder 54 = .ok (.istore_n 3, 1) := by decide +kernel
theorem dX1_inOrder_55 : decode cX1_inOrder 55 = .ok (.iconst 0, 1) := by decide +kernel
theorem dX1_inOrder_56 : decode cX1_inOrder 56 = .ok (.istore 4, 2) := by decide +kernel
theorem dX1_inOrder_58 : decode cX1_inOrder 58 = .ok (.iload 4, 2) := by decide +kernel
theorem dX1_inOrder_60 : decode cX1_inOrder 60 = .ok (.iload_n 1, 1) := by decide +kernel
theorem dX1_inOrder_61 : decode cX1_inOrder 61 = .ok (.if_icmp .gt 41, 3) := by decide +kernel
theorem dX1_inOrder_64 : decode cX1_inOrder 64 = .ok (.iload_n 2, 1) := by decide +kernel
theorem dX1_inOrder_65 : decode cX1_inOrder 65 = .ok (.aload_n 0, 1) := by decide +kernel
theorem dX1_inOrder_66 : decode cX1_inOrder 66 = .ok (.iload_n 2, 1) := by decide +kernel
theorem dX1_inOrder_67 : decode cX1_inOrder 67 = .ok (.invokevirtual 41, 3) := by decide +kernel
theorem dX1_inOrder_70 : decode cX1_inOrder 70 = .ok (.iconst (-1), 1) := by decide +kernel
theorem dX1_inOrder_71 : decode cX1_inOrder 71 = .ok (.ixor, 1) := by decide +kernel
theorem dX1_inOrder_72 : decode cX1_inOrder 72 = .ok (.iand, 1) := by decide +kernel
theorem dX1_inOrder_73 : decode cX1_inOrder 73 = .ok (.istore 5, 2) := by decide +kernel
theorem dX1_inOrder_75 : decode cX1_inOrder 75 = .ok (.iload 5, 2) := by decide +kernel
theorem dX1_inOrder_77 : decode cX1_inOrder 77 = .ok (.ifCond .ne 5, 3) := by decide +kernel
theorem dX1_inOrder_80 : decode cX1_inOrder 80 = .ok (.iconst (-1), 1) := by decide +kernel
theorem dX1_inOrder_81 : decode cX1_inOrder 81 = .ok (.ireturn, 1) := by decide +kernel
theorem dX1_inOrder_82 : decode cX1_inOrder 82 = .ok (.iload 5, 2) := by decide +kernel
theorem dX1_inOrder_84 : decode cX1_inOrder 84 = .ok (.invokestatic 45, 3) := by decide +kernel
theorem dX1_inOrder_87 : decode cX1_inOrder 87 = .ok (.istore_n 3, 1) := by decide +kernel
theorem dX1_inOrder_88 : decode cX1_inOrder 88 = .ok (.iload_n 2, 1) := by decide +kernel
theorem dX1_inOrder_89 : decode cX1_inOrder 89 = .ok (.iconst 1, 1) := by decide +kernel
theorem dX1_inOrder_90 : decode cX1_inOrder 90 = .ok (.iload_n 3, 1) := by decide +kernel
theorem dX1_inOrder_91 : decode cX1_inOrder 91 = .ok (.ishl, 1) := by decide +kernel
theorem dX1_inOrder_92 : decode cX1_inOrder 92 = .ok (.iconst (-1), 1) := by decide +kernel
theorem dX1_inOrder_93 : decode cX1_inOrder 93 = .ok (.ixor, 1) := by decide +kernel
theorem dX1_inOrder_94 : decode cX1_inOrder 94 = .ok (.iand, 1) := by decide +kernel
theorem dX1_inOrder_95 : decode cX1_inOrder 95 = .ok (.istore_n 2, 1) := by decide +kernel
theorem dX1_inOrder_96 : decode cX1_inOrder 96 = .ok (.iinc 4 1, 3) := by decide +kernel
theorem dX1_inOrder_99 : decode cX1_inOrder 99 = .ok (.goto (-41), 3) := by decide +kernel
theorem dX1_inOrder_102 : decode cX1_inOrder 102 = .ok (.iload_n 3, 1) := by decide +kernel
theorem dX1_inOrder_103 : decode cX1_inOrder 103 = .ok (.ireturn, 1) := by decide +kernel
theorem dX1_ledToFrom_0 : decode cX1_ledToFrom 0 = .ok (.iconst 0, 1) := by decide +kernel
theorem dX1_ledToFrom_1 : decode cX1_ledToFrom 1 = .ok (.istore_n 2, 1) := by decide +kernel
theorem dX1_ledToFrom_2 : decode cX1_ledToFrom 2 = .ok (.iconst 0, 1) := by decide +kernel
theorem dX1_ledToFrom_3 : decode cX1_ledToFrom 3 = .ok (.istore_n 3, 1) := by decide +kernel
theorem dX1_ledToFrom_4 : decode cX1_ledToFrom 4 = .ok (.iload_n 3, 1) := by decide +kernel
theorem dX1_ledToFrom_5 : decode cX1_ledToFrom 5 = .ok (.bipush 16, 2) := by decide +kernel
theorem dX1_ledToFrom_7 : decode cX1_ledToFrom 7 = .ok (.if_icmp .ge 26, 3) := by decide +kernel
theorem dX1_ledToFrom_10 : decode cX1_ledToFrom 10 = .ok (.iload_n 1, 1) := by decide +kernel
theorem dX1_ledToFrom_11 : decode cX1_ledToFrom 11 = .ok (.iload_n 3, 1) := by decide +kernel
theorem dX1_ledToFrom_12 : decode cX1_ledToFrom 12 = .ok (.invokestatic 37, 3) := by decide +kernel
theorem dX1_ledToFrom_15 : decode cX1_ledToFrom 15 = .ok (.ifCond .eq 12, 3) := by decide +kernel
theorem dX1_ledToFrom_18 : decode cX1_ledToFrom 18 = .ok (.iload_n 2, 1) := by decide +kernel
theorem dX1_ledToFrom_19 : decode cX1_ledToFrom 19 = .ok (.aload_n 0, 1) := by decide +kernel
theorem dX1_ledToFrom_20 : decode cX1_ledToFrom 20 = .ok (.getfield 9, 3) := by decide +kernel
theorem dX1_ledToFrom_23 : decode cX1_ledToFrom 23 = .ok (.iload_n 3, 1) := by decide +kernel
theorem dX1_ledToFrom_24 : decode cX1_ledToFrom 24 = .ok (.iaload, 1) := by decide +kernel
theorem dX1_ledToFrom_25 : decode cX1_ledToFrom 25 = .ok (.ior, 1) := by decide +kernel
theorem dX1_ledToFrom_26 : decode cX1_ledToFrom 26 = .ok (.istore_n 2, 1) := by decide +kernel
theorem dX1_ledToFrom_27 : decode cX1_ledToFrom 27 = .ok (.iinc 3 1, 3) := by decide +kernel
theorem dX1_ledToFrom_30 : decode cX1_ledToFrom 30 = .ok (.goto (-26), 3) := by decide +kernel
theorem dX1_ledToFrom_33 : decode cX1_ledToFrom 33 = .ok (.iload_n 2, 1) := by decide +kernel
theorem dX1_ledToFrom_34 : decode cX1_ledToFrom 34 = .ok (.ireturn, 1) := by decide +kernel
theorem dX2_init_0 : decode cX2_init 0 = .ok (.aload_n 0, 1) := by decide +kernel
theorem dX2_init_1 : decode cX2_init 1 = .ok (.invokespecial 3, 3) := by decide +kernel
theorem dX2_init_4 : decode cX2_init 4 = .ok (.aload_n 0, 1) := by decide +kernel
theorem dX2_init_5 : decode cX2_init 5 = .ok (.bipush 13, 2) := by decide +kernel
theorem dX2_init_7 : decode cX2_init 7 = .ok (.anewarray 9, 3) := by decide +kernel
theorem dX2_init_10 : decode cX2_init 10 = .ok (.putfield 11, 3) := by decide +kernel
theorem dX2_init_13 : decode cX2_init 13 = .ok (.aload_n 0, 1) := by decide +kernel
theorem dX2_init_14 : decode cX2_init 14 = .ok (.getfield 11, 3) := by decide +kernel
theorem dX2_init_17 : decode cX2_init 17 = .ok (.iconst 0, 1) := by decide +kernel
theorem dX2_init_18 : decode cX2_init 18 = .ok (.new 9, 3) := by decide +kernel
theorem dX2_init_21 : decode cX2_init 21 = .ok (.dup, 1) := by decide +kernel
theorem dX2_init_22 : decode cX2_init 22 = .ok (.invokespecial 17, 3) := by decide +kernel
theorem dX2_init_25 : decode cX2_init 25 = .ok (.aastore, 1) := by decide +kernel
theorem dX2_init_26 : decode cX2_init 26 = .ok (.return_, 1) := by decide +kernel
theorem dX2_present_0 : decode cX2_present 0 = .ok (.aload_n 0, 1) := by decide +kernel
theorem dX2_present_1 : decode cX2_present 1 = .ok (.getfield 11, 3) := by decide +kernel
theorem dX2_present_4 : decode cX2_present 4 = .ok (.aload_n 0, 1) := by decide +kernel
theorem dX2_present_5 : decode cX2_present 5 = .ok (.getfield 18, 3) := by decide +kernel
theorem dX2_present_8 : decode cX2_present 8 = .ok (.aaload, 1) := by decide +kernel
theorem dX2_present_9 : decode cX2_present 9 = .ok (.areturn, 1) := by decide +kernel
theorem dX2_restart_0 : decode cX2_restart 0 = .ok (.aload_n 0, 1) := by decide +kernel
theorem dX2_restart_1 : decode cX2_restart 1 = .ok (.iconst 0, 1) := by decide +kernel
theorem dX2_restart_2 : decode cX2_restart 2 = .ok (.putfield 18, 3) := by decide +kernel
theorem dX2_restart_5 : decode cX2_restart 5 = .ok (.aload_n 0, 1) := by decide +kernel
theorem dX2_restart_6 : decode cX2_restart 6 = .ok (.iconst 0, 1) := by decide +kernel
theorem dX2_restart_7 : decode cX2_restart 7 = .ok (.putfield 22, 3) := by decide +kernel
theorem dX2_restart_10 : decode cX2_restart 10 = .ok (.return_, 1) := by decide +kernel
theorem dX2_act_0 : decode cX2_act 0 = .ok (.aload_n 0, 1) := by decide +kernel
theorem dX2_act_1 : decode cX2_act 1 = .ok (.getfield 18, 3) := by decide +kernel
theorem dX2_act_4 : decode cX2_act 4 = .ok (.bipush 12, 2) := by decide +kernel
theorem dX2_act_6 : decode cX2_act 6 = .ok (.if_icmp .ne 7, 3) := by decide +kernel
theorem dX2_act_9 : decode cX2_act 9 = .ok (.aload_n 0, 1) := by decide +kernel
theorem dX2_act_10 : decode cX2_act 10 = .ok (.invokevirtual 25, 3) := by decide +kernel
theorem dX2_act_13 : decode cX2_act 13 = .ok (.aload_n 0, 1) := by decide +kernel
theorem dX2_act_14 : decode cX2_act 14 = .ok (.getfield 11, 3) := by decide +kernel
theorem dX2_act_17 : decode cX2_act 17 = .ok (.aload_n 0, 1) := by decide +kernel
theorem dX2_act_18 : decode cX2_act 18 = .ok (.getfield 18, 3) := by decide +kernel
theorem dX2_act_21 : decode cX2_act 21 = .ok (.iconst 1, 1) := by decide +kernel
theorem dX2_act_22 : decode cX2_act 22 = .ok (.iadd, 1) := by decide +kernel
theorem dX2_act_23 : decode cX2_act 23 = .ok (.aaload, 1) := by decide +kernel
theorem dX2_act_24 : decode cX2_act 24 = .ok (.ifnonnull 21, 3) := by decide +kernel
theorem dX2_act_27 : decode cX2_act 27 = .ok (.aload_n 0, 1) := by decide +kernel
theorem dX2_act_28 : decode cX2_act 28 = .ok (.getfield 11, 3) := by decide +kernel
theorem dX2_act_31 : decode cX2_act 31 = .ok (.aload_n 0, 1) := by decide +kernel
theorem dX2_act_32 : decode cX2_act 32 = .ok (.getfield 18, 3) := by decide +kernel
theorem dX2_act_35 : decode cX2_act 35 = .ok (.iconst 1, 1) := by decide +kernel
theorem dX2_act_36 : decode cX2_act 36 = .ok (.iadd, 1) := by decide +kernel
theorem dX2_act_37 : decode cX2_act 37 = .ok (.new 9, 3) := by decide +kernel
theorem dX2_act_40 : decode cX2_act 40 = .ok (.dup, 1) := by decide +kernel
theorem dX2_act_41 : decode cX2_act 41 = .ok (.invokespecial 17, 3) := by decide +kernel
theorem dX2_act_44 : decode cX2_act 44 = .ok (.aastore, 1) := by decide +kernel
theorem dX2_act_45 : decode cX2_act 45 = .ok (.aload_n 0, 1) := by decide +kernel
theorem dX2_act_46 : decode cX2_act 46 = .ok (.getfield 11, 3) := by decide +kernel
theorem dX2_act_49 : decode cX2_act 49 = .ok (.aload_n 0, 1) := by decide +kernel
theorem dX2_act_50 : decode cX2_act 50 = .ok (.getfield 18, 3) := by decide +kernel
theorem dX2_act_53 : decode cX2_act 53 = .ok (.iconst 1, 1) := by decide +kernel
theorem dX2_act_54 : decode cX2_act 54 = .ok (.iadd, 1) := by decide +kernel
theorem dX2_act_55 : decode cX2_act 55 = .ok (.aaload, 1) := by decide +kernel
theorem dX2_act_56 : decode cX2_act 56 = .ok (.aload_n 0, 1) := by decide +kernel
theorem dX2_act_57 : decode cX2_act 57 = .ok (.getfield 11, 3) := by decide +kernel
theorem dX2_act_60 : decode cX2_act 60 = .ok (.aload_n 0, 1) := by decide +kernel
theorem dX2_act_61 : decode cX2_act 61 = .ok (.getfield 18, 3) := by decide +kernel
theorem dX2_act_64 : decode cX2_act 64 = .ok (.aaload, 1) := by decide +kernel
theorem dX2_act_65 : decode cX2_act 65 = .ok (.invokevirtual 28, 3) := by decide +kernel
theorem dX2_act_68 : decode cX2_act 68 = .ok (.aload_n 0, 1) := by decide +kernel
theorem dX2_act_69 : decode cX2_act 69 = .ok (.dup, 1) := by decide +kernel
theorem dX2_act_70 : decode cX2_act 70 = .ok (.getfield 18, 3) := by decide +kernel
theorem dX2_act_73 : decode cX2_act 73 = .ok (.iconst 1, 1) := by decide +kernel
theorem dX2_act_74 : decode cX2_act 74 = .ok (.iadd, 1) := by decide +kernel
theorem dX2_act_75 : decode cX2_act 75 = .ok (.putfield 18, 3) := by decide +kernel
theorem dX2_act_78 : decode cX2_act 78 = .ok (.aload_n 0, 1) := by decide +kernel
theorem dX2_act_79 : decode cX2_act 79 = .ok (.aload_n 0, 1) := by decide +kernel
theorem dX2_act_80 : decode cX2_act 80 = .ok (.getfield 18, 3) := by decide +kernel
theorem dX2_act_83 : decode cX2_act 83 = .ok (.putfield 22, 3) := by decide +kernel
theorem dX2_act_86 : decode cX2_act 86 = .ok (.aload_n 0, 1) := by decide +kernel
theorem dX2_act_87 : decode cX2_act 87 = .ok (.getfield 11, 3) := by decide +kernel
theorem dX2_act_90 : decode cX2_act 90 = .ok (.aload_n 0, 1) := by decide +kernel
theorem dX2_act_91 : decode cX2_act 91 = .ok (.getfield 18, 3) := by decide +kernel
theorem dX2_act_94 : decode cX2_act 94 = .ok (.aaload, 1) := by decide +kernel
theorem dX2_act_95 : decode cX2_act 95 = .ok (.areturn, 1) := by decide +kernel
theorem dX2_goBack_0 : decode cX2_goBack 0 = .ok (.aload_n 0, 1) := by decide +kernel
theorem dX2_goBack_1 : decode cX2_goBack 1 = .ok (.getfield 18, 3) := by decide +kernel
theorem dX2_goBack_4 : decode cX2_goBack 4 = .ok (.ifCond .ne 5, 3) := by decide +kernel
theorem dX2_goBack_7 : decode cX2_goBack 7 = .ok (.iconst 0, 1) := by decide +kernel
theorem dX2_goBack_8 : decode cX2_goBack 8 = .ok (.ireturn, 1) := by decide +kernel
theorem dX2_goBack_9 : decode cX2_goBack 9 = .ok (.aload_n 0, 1) := by decide +kernel
theorem dX2_goBack_10 : decode cX2_goBack 10 = .ok (.dup, 1) := by decide +kernel
theorem dX2_goBack_11 : decode cX2_goBack 11 = .ok (.getfield 18, 3) := by decide +kernel
theorem dX2_goBack_14 : decode cX2_goBack 14 = .ok (.iconst 1, 1) := by decide +kernel
theorem dX2_goBack_15 : decode cX2_goBack 15 = .ok (.isub, 1) := by decide +kernel
theorem dX2_goBack_16 : decode cX2_goBack 16 = .ok (.putfield 18, 3) := by decide +kernel
theorem dX2_goBack_19 : decode cX2_goBack 19 = .ok (.iconst 1, 1) := by decide +kernel
theorem dX2_goBack_20 : decode cX2_goBack 20 = .ok (.ireturn, 1) := by decide +kernel
theorem dX2_goOn_0 : decode cX2_goOn 0 = .ok (.aload_n 0, 1) := by decide +kernel
theorem dX2_goOn_1 : decode cX2_goOn 1 = .ok (.getfield 18, 3) := by decide +kernel
theorem dX2_goOn_4 : decode cX2_goOn 4 = .ok (.aload_n 0, 1) := by decide +kernel
theorem dX2_goOn_5 : decode cX2_goOn 5 = .ok (.getfield 22, 3) := by decide +kernel
theorem dX2_goOn_8 : decode cX2_goOn 8 = .ok (.if_icmp .ne 5, 3) := by decide +kernel
theorem dX2_goOn_11 : decode cX2_goOn 11 = .ok (.iconst 0, 1) := by decide +kernel
theorem dX2_goOn_12 : decode cX2_goOn 12 = .ok (.ireturn, 1) := by decide +kernel
theorem dX2_goOn_13 : decode cX2_goOn 13 = .ok (.aload_n 0, 1) := by decide +kernel
theorem dX2_goOn_14 : decode cX2_goOn 14 = .ok (.dup, 1) := by decide +kernel
theorem dX2_goOn_15 : decode cX2_goOn 15 = .ok (.getfield 18, 3) := by decide +kernel
theorem dX2_goOn_18 : decode cX2_goOn 18 = .ok (.iconst 1, 1) := by decide +kernel
theorem dX2_goOn_19 : decode cX2_goOn 19 = .ok (.iadd, 1) := by decide +kernel
theorem dX2_goOn_20 : decode cX2_goOn 20 = .ok (.putfield 18, 3) := by decide +kernel
theorem dX2_goOn_23 : decode cX2_goOn 23 = .ok (.iconst 1, 1) := by decide +kernel
theorem dX2_goOn_24 : decode cX2_goOn 24 = .ok (.ireturn, 1) := by decide +kernel
theorem dX2_dropOldest_0 : decode cX2_dropOldest 0 = .ok (.aload_n 0, 1) := by decide +kernel
theorem dX2_dropOldest_1 : decode cX2_dropOldest 1 = .ok (.getfield 11, 3) := by decide +kernel
theorem dX2_dropOldest_4 : decode cX2_dropOldest 4 = .ok (.iconst 0, 1) := by decide +kernel
theorem dX2_dropOldest_5 : decode cX2_dropOldest 5 = .ok (.aaload, 1) := by decide +kernel
theorem dX2_dropOldest_6 : decode cX2_dropOldest 6 = .ok (.astore_n 1, 1) := by decide +kernel
theorem dX2_dropOldest_7 : decode cX2_dropOldest 7 = .ok (.iconst 0, 1) := by decide +kernel
theorem dX2_dropOldest_8 : decode cX2_dropOldest 8 = .ok (.istore_n 2, 1) := by decide +kernel
theorem dX2_dropOldest_9 : decode cX2_dropOldest 9 = .ok (.iload_n 2, 1) := by decide +kernel
theorem dX2_dropOldest_10 : decode cX2_dropOldest 10 = .ok (.bipush 12, 2) := by decide +kernel
theorem dX2_dropOldest_12 : decode cX2_dropOldest 12 = .ok (.if_icmp .ge 23, 3) := by decide +kernel
theorem dX2_dropOldest_15 : decode cX2_dropOldest 15 = .ok (.aload_n 0, 1) := by decide +kernel
theorem dX2_dropOldest_16 : decode cX2_dropOldest 16 = .ok (.getfield 11, 3) := by decide +kernel
theorem dX2_dropOldest_19 : decode cX2_dropOldest 19 = .ok (.iload_n 2, 1) := by decide +kernel
theorem dX2_dropOldest_20 : decode cX2_dropOldest 20 = .ok (.aload_n 0, 1) := by decide +kernel
theorem dX2_dropOldest_21 : decode cX2_dropOldest 21 = .ok (.getfield 11, 3) := by decide +kernel
theorem dX2_dropOldest_24 : decode cX2_dropOldest 24 = .ok (.iload_n 2, 1) := by decide +kernel
theorem dX2_dropOldest_25 : decode cX2_dropOldest 25 = .ok (.iconst 1, 1) := by decide +kernel
theorem dX2_dropOldest_26 : decode cX2_dropOldest 26 = .ok (.iadd, 1) := by decide +kernel
theorem dX2_dropOldest_27 : decode cX2_dropOldest 27 = .ok (.aaload, 1) := by decide +kernel
theorem dX2_dropOldest_28 : decode cX2_dropOldest 28 = .ok (.aastore, 1) := by decide +kernel
theorem dX2_dropOldest_29 : decode cX2_dropOldest 29 = .ok (.iinc 2 1, 3) := by decide +kernel
theorem dX2_dropOldest_32 : decode cX2_dropOldest 32 = .ok (.goto (-23), 3) := by decide +kernel
theorem dX2_dropOldest_35 : decode cX2_dropOldest 35 = .ok (.aload_n 0, 1) := by decide +kernel
theorem dX2_dropOldest_36 : decode cX2_dropOldest 36 = .ok (.getfield 11, 3) := by decide +kernel
theorem dX2_dropOldest_39 : decode cX2_dropOldest 39 = .ok (.bipush 12, 2) := by decide +kernel
theorem dX2_dropOldest_41 : decode cX2_dropOldest 41 = .ok (.aload_n 1, 1) := by decide +kernel
theorem dX2_dropOldest_42 : decode cX2_dropOldest 42 = .ok (.aastore, 1) := by decide +kernel
theorem dX2_dropOldest_43 : decode cX2_dropOldest 43 = .ok (.aload_n 0, 1) := by decide +kernel
theorem dX2_dropOldest_44 : decode cX2_dropOldest 44 = .ok (.dup, 1) := by decide +kernel
theorem dX2_dropOldest_45 : decode cX2_dropOldest 45 = .ok (.getfield 18, 3) := by decide +kernel
theorem dX2_dropOldest_48 : decode cX2_dropOldest 48 = .ok (.iconst 1, 1) := by decide +kernel
theorem dX2_dropOldest_49 : decode cX2_dropOldest 49 = .ok (.isub, 1) := by decide +kernel
theorem dX2_dropOldest_50 : decode cX2_dropOldest 50 = .ok (.putfield 18, 3) := by decide +kernel
theorem dX2_dropOldest_53 : decode cX2_dropOldest 53 = .ok (.return_, 1) := by decide +kernel
theorem dX3_init_0 : decode cX3_init 0 = .ok (.aload_n 0, 1) := by decide +kernel
theorem dX3_init_1 : decode cX3_init 1 = .ok (.invokespecial 3, 3) := by decide +kernel
theorem dX3_init_4 : decode cX3_init 4 = .ok (.aload_n 0, 1) := by decide +kernel
theorem dX3_init_5 : decode cX3_init 5 = .ok (.bipush 72, 2) := by decide +kernel
theorem dX3_init_7 : decode cX3_init 7 = .ok (.newarray .int, 2) := by decide +kernel
theorem dX3_init_9 : decode cX3_init 9 = .ok (.putfield 9, 3) := by decide +kernel
theorem dX3_init_12 : decode cX3_init 12 = .ok (.aload_n 0, 1) := by decide +kernel
theorem dX3_init_13 : decode cX3_init 13 = .ok (.bipush 6, 2) := by decide +kernel
theorem dX3_init_15 : decode cX3_init 15 = .ok (.newarray .int, 2) := by decide +kernel
theorem dX3_init_17 : decode cX3_init 17 = .ok (.putfield 15, 3) := by decide +kernel
theorem dX3_init_20 : decode cX3_init 20 = .ok (.aload_n 0, 1) := by decide +kernel
theorem dX3_init_21 : decode cX3_init 21 = .ok (.bipush 16, 2) := by decide +kernel
theorem dX3_init_23 : decode cX3_init 23 = .ok (.newarray .int, 2) := by decide +kernel
theorem dX3_init_25 : decode cX3_init 25 = .ok (.putfield 18, 3) := by decide +kernel
theorem dX3_init_28 : decode cX3_init 28 = .ok (.aload_n 0, 1) := by decide +kernel
theorem dX3_init_29 : decode cX3_init 29 = .ok (.new 21, 3) := by decide +kernel
theorem dX3_init_32 : decode cX3_init 32 = .ok (.dup, 1) := by decide +kernel
theorem dX3_init_33 : decode cX3_init 33 = .ok (.invokespecial 23, 3) := by decide +kernel
theorem dX3_init_36 : decode cX3_init 36 = .ok (.putfield 24, 3) := by decide +kernel
theorem dX3_init_39 : decode cX3_init 39 = .ok (.aload_n 0, 1) := by decide +kernel
theorem dX3_init_40 : decode cX3_init 40 = .ok (.new 28, 3) := by decide +kernel
theorem dX3_init_43 : decode cX3_init 43 = .ok (.dup, 1) := by decide +kernel
theorem dX3_init_44 : decode cX3_init 44 = .ok (.invokespecial 30, 3) := by decide +kernel
theorem dX3_init_47 : decode cX3_init 47 = .ok (.putfield 31, 3) := by decide +kernel
theorem dX3_init_50 : decode cX3_init 50 = .ok (.aload_n 0, 1) := by decide +kernel
theorem dX3_init_51 : decode cX3_init 51 = .ok (.bipush 32, 2) := by decide +kernel
theorem dX3_init_53 : decode cX3_init 53 = .ok (.newarray .long, 2) := by decide +kernel
theorem dX3_init_55 : decode cX3_init 55 = .ok (.putfield 35, 3) := by decide +kernel
theorem dX3_init_58 : decode cX3_init 58 = .ok (.return_, 1) := by decide +kernel
theorem dX3_begin_0 : decode cX3_begin 0 = .ok (.aload_n 1, 1) := by decide +kernel
theorem dX3_begin_1 : decode cX3_begin 1 = .ok (.iconst 0, 1) := by decide +kernel
theorem dX3_begin_2 : decode cX3_begin 2 = .ok (.aload_n 0, 1) := by decide +kernel
theorem dX3_begin_3 : decode cX3_begin 3 = .ok (.getfield 9, 3) := by decide +kernel
theorem dX3_begin_6 : decode cX3_begin 6 = .ok (.iconst 0, 1) := by decide +kernel
theorem dX3_begin_7 : decode cX3_begin 7 = .ok (.aload_n 0, 1) := by decide +kernel
theorem dX3_begin_8 : decode cX3_begin 8 = .ok (.getfield 9, 3) := by decide +kernel
theorem dX3_begin_11 : decode cX3_begin 11 = .ok (.arraylength, 1) := by decide +kernel
theorem dX3_begin_12 : decode cX3_begin 12 = .ok (.invokestatic 39, 3) := by decide +kernel
theorem dX3_begin_15 : decode cX3_begin 15 = .ok (.aload_n 0, 1) := by decide +kernel
theorem dX3_begin_16 : decode cX3_begin 16 = .ok (.invokevirtual 45, 3) := by decide +kernel
theorem dX3_begin_19 : decode cX3_begin 19 = .ok (.return_, 1) := by decide +kernel
theorem dX3_clear_0 : decode cX3_clear 0 = .ok (.aload_n 0, 1) := by decide +kernel
theorem dX3_clear_1 : decode cX3_clear 1 = .ok (.getfield 15, 3) := by decide +kernel
theorem dX3_clear_4 : decode cX3_clear 4 = .ok (.iconst 0, 1) := by decide +kernel
theorem dX3_clear_5 : decode cX3_clear 5 = .ok (.invokestatic 48, 3) := by decide +kernel
theorem dX3_clear_8 : decode cX3_clear 8 = .ok (.aload_n 0, 1) := by decide +kernel
theorem dX3_clear_9 : decode cX3_clear 9 = .ok (.getfield 18, 3) := by decide +kernel
theorem dX3_clear_12 : decode cX3_clear 12 = .ok (.iconst 0, 1) := by decide +kernel
theorem dX3_clear_13 : decode cX3_clear 13 = .ok (.invokestatic 48, 3) := by decide +kernel
theorem dX3_clear_16 : decode cX3_clear 16 = .ok (.aload_n 0, 1) := by decide +kernel
theorem dX3_clear_17 : decode cX3_clear 17 = .ok (.getfield 24, 3) := by decide +kernel
theorem dX3_clear_20 : decode cX3_clear 20 = .ok (.invokevirtual 54, 3) := by decide +kernel
theorem dX3_clear_23 : decode cX3_clear 23 = .ok (.aload_n 0, 1) := by decide +kernel
theorem dX3_clear_24 : decode cX3_clear 24 = .ok (.getfield 31, 3) := by decide +kernel
theorem dX3_clear_27 : decode cX3_clear 27 = .ok (.invokevirtual 55, 3) := by decide +kernel
theorem dX3_clear_30 : decode cX3_clear 30 = .ok (.aload_n 0, 1) := by decide +kernel
theorem dX3_clear_31 : decode cX3_clear 31 = .ok (.iconst 0, 1) := by decide +kernel
theorem dX3_clear_32 : decode cX3_clear 32 = .ok (.putfield 56, 3) := by decide +kernel
theorem dX3_clear_35 : decode cX3_clear 35 = .ok (.aload_n 0, 1) := by decide +kernel
theorem dX3_clear_36 : decode cX3_clear 36 = .ok (.iconst 0, 1) := by decide +kernel
theorem dX3_clear_37 : decode cX3_clear 37 = .ok (.putfield 60, 3) := by decide +kernel
theorem dX3_clear_40 : decode cX3_clear 40 = .ok (.return_, 1) := by decide +kernel
theorem dX3_copyFrom_0 : decode cX3_copyFrom 0 = .ok (.aload_n 1, 1) := by decide +kernel
theorem dX3_copyFrom_1 : decode cX3_copyFrom 1 = .ok (.getfield 9, 3) := by decide +kernel
theorem dX3_copyFrom_4 : decode cX3_copyFrom 4 = .ok (.iconst 0, 1) := by decide +kernel
theorem dX3_copyFrom_5 : decode cX3_copyFrom 5 = .ok (.aload_n 0, 1) := by decide +kernel
theorem dX3_copyFrom_6 : decode cX3_copyFrom 6 = .ok (.getfield 9, 3) := by decide +kernel
theorem dX3_copyFrom_9 : decode cX3_copyFrom 9 = .ok (.iconst 0, 1) := by decide +kernel
theorem dX3_copyFrom_10 : decode cX3_copyFrom 10 = .ok (.aload_n 0, 1) := by decide +kernel
theorem dX3_copyFrom_11 : decode cX3_copyFrom 11 = .ok (.getfield 9, 3) := by decide +kernel
theorem dX3_copyFrom_14 : decode cX3_copyFrom 14 = .ok (.arraylength, 1) := by decide +kernel
theorem dX3_copyFrom_15 : decode cX3_copyFrom 15 = .ok (.invokestatic 39, 3) := by decide +kernel
theorem dX3_copyFrom_18 : decode cX3_copyFrom 18 = .ok (.aload_n 1, 1) := by decide +kernel
theorem dX3_copyFrom_19 : decode cX3_copyFrom 19 = .ok (.getfield 15, 3) := by decide +kernel
theorem dX3_copyFrom_22 : decode cX3_copyFrom 22 = .ok (.iconst 0, 1) := by decide +kernel
theorem dX3_copyFrom_23 : decode cX3_copyFrom 23 = .ok (.aload_n 0, 1) := by decide +kernel
theorem dX3_copyFrom_24 : decode cX3_copyFrom 24 = .ok (.getfield 15, 3) := by decide +kernel
theorem dX3_copyFrom_27 : decode cX3_copyFrom 27 = .ok (.iconst 0, 1) := by decide +kernel
theorem dX3_copyFrom_28 : decode cX3_copyFrom 28 = .ok (.aload_n 0, 1) := by decide +kernel
theorem dX3_copyFrom_29 : decode cX3_copyFrom 29 = .ok (.getfield 15, 3) := by decide +kernel
theorem dX3_copyFrom_32 : decode cX3_copyFrom 32 = .ok (.arraylength, 1) := by decide +kernel
theorem dX3_copyFrom_33 : decode cX3_copyFrom 33 = .ok (.invokestatic 39, 3) := by decide +kernel
theorem dX3_copyFrom_36 : decode cX3_copyFrom 36 = .ok (.aload_n 1, 1) := by decide +kernel
theorem dX3_copyFrom_37 : decode cX3_copyFrom 37 = .ok (.getfield 18, 3) := by decide +kernel
theorem dX3_copyFrom_40 : decode cX3_copyFrom 40 = .ok (.iconst 0, 1) := by decide +kernel
theorem dX3_copyFrom_41 : decode cX3_copyFrom 41 = .ok (.aload_n 0, 1) := by decide +kernel
theorem dX3_copyFrom_42 : decode cX3_copyFrom 42 = .ok (.getfield 18, 3) := by decide +kernel
theorem dX3_copyFrom_45 : decode cX3_copyFrom 45 = .ok (.iconst 0, 1) := by decide +kernel
theorem dX3_copyFrom_46 : decode cX3_copyFrom 46 = .ok (.aload_n 0, 1) := by decide +kernel
theorem dX3_copyFrom_47 : decode cX3_copyFrom 47 = .ok (.getfield 18, 3) := by decide +kernel
theorem dX3_copyFrom_50 : decode cX3_copyFrom 50 = .ok (.arraylength, 1) := by decide +kernel
theorem dX3_copyFrom_51 : decode cX3_copyFrom 51 = .ok (.invokestatic 39, 3) := by decide +kernel
theorem dX3_copyFrom_54 : decode cX3_copyFrom 54 = .ok (.aload_n 0, 1) := by decide +kernel
theorem dX3_copyFrom_55 : decode cX3_copyFrom 55 = .ok (.getfield 24, 3) := by decide +kernel
theorem dX3_copyFrom_58 : decode cX3_copyFrom 58 = .ok (.aload_n 1, 1) := by decide +kernel
theorem dX3_copyFrom_59 : decode cX3_copyFrom 59 = .ok (.getfield 24, 3) := by decide +kernel
theorem dX3_copyFrom_62 : decode cX3_copyFrom 62 = .ok (.invokevirtual 63, 3) := by decide +kernel
theorem dX3_copyFrom_65 : decode cX3_copyFrom 65 = .ok (.aload_n 0, 1) := by decide +kernel
theorem dX3_copyFrom_66 : decode cX3_copyFrom 66 = .ok (.getfield 31, 3) := by decide +kernel
theorem dX3_copyFrom_69 : decode cX3_copyFrom 69 = .ok (.aload_n 1, 1) := by decide +kernel
theorem dX3_copyFrom_70 : decode cX3_copyFrom 70 = .ok (.getfield 31, 3) := by decide +kernel
theorem dX3_copyFrom_73 : decode cX3_copyFrom 73 = .ok (.invokevirtual 67, 3) := by decide +kernel
theorem dX3_copyFrom_76 : decode cX3_copyFrom 76 = .ok (.aload_n 0, 1) := by decide +kernel
theorem dX3_copyFrom_77 : decode cX3_copyFrom 77 = .ok (.aload_n 1, 1) := by decide +kernel
theorem dX3_copyFrom_78 : decode cX3_copyFrom 78 = .ok (.getfield 56, 3) := by decide +kernel
theorem dX3_copyFrom_81 : decode cX3_copyFrom 81 = .ok (.putfield 56, 3) := by decide +kernel
theorem dX3_copyFrom_84 : decode cX3_copyFrom 84 = .ok (.aload_n 0, 1) := by decide +kernel
theorem dX3_copyFrom_85 : decode cX3_copyFrom 85 = .ok (.aload_n 1, 1) := by decide +kernel
theorem dX3_copyFrom_86 : decode cX3_copyFrom 86 = .ok (.getfield 60, 3) := by decide +kernel
theorem dX3_copyFrom_89 : decode cX3_copyFrom 89 = .ok (.putfield 60, 3) := by decide +kernel
theorem dX3_copyFrom_92 : decode cX3_copyFrom 92 = .ok (.aload_n 0, 1) := by decide +kernel
theorem dX3_copyFrom_93 : decode cX3_copyFrom 93 = .ok (.getfield 35, 3) := by decide +kernel
theorem dX3_copyFrom_96 : decode cX3_copyFrom 96 = .ok (.arraylength, 1) := by decide +kernel
theorem dX3_copyFrom_97 : decode cX3_copyFrom 97 = .ok (.aload_n 0, 1) := by decide +kernel
theorem dX3_copyFrom_98 : decode cX3_copyFrom 98 = .ok (.getfield 56, 3) := by decide +kernel
theorem dX3_copyFrom_101 : decode cX3_copyFrom 101 = .ok (.if_icmp .ge 14, 3) := by decide +kernel
theorem dX3_copyFrom_104 : decode cX3_copyFrom 104 = .ok (.aload_n 0, 1) := by decide +kernel
theorem dX3_copyFrom_105 : decode cX3_copyFrom 105 = .ok (.aload_n 1, 1) := by decide +kernel
theorem dX3_copyFrom_106 : decode cX3_copyFrom 106 = .ok (.getfield 35, 3) := by decide +kernel
theorem dX3_copyFrom_109 : decode cX3_copyFrom 109 = .ok (.arraylength, 1) := by decide +kernel
theorem dX3_copyFrom_110 : decode cX3_copyFrom 110 = .ok (.newarray .long, 2) := by decide +kernel
theorem dX3_copyFrom_112 : decode cX3_copyFrom 112 = .ok (.putfield 35, 3) := by decide +kernel
theorem dX3_copyFrom_115 : decode cX3_copyFrom 115 = .ok (.aload_n 1, 1) := by decide +kernel
theorem dX3_copyFrom_116 : decode cX3_copyFrom 116 = .ok (.getfield 35, 3) := by decide +kernel
theorem dX3_copyFrom_119 : decode cX3_copyFrom 119 = .ok (.iconst 0, 1) := by decide +kernel
theorem dX3_copyFrom_120 : decode cX3_copyFrom 120 = .ok (.aload_n 0, 1) := by decide +kernel
theorem dX3_copyFrom_121 : decode cX3_copyFrom 121 = .ok (.getfield 35, 3) := by decide +kernel
theorem dX3_copyFrom_124 : decode cX3_copyFrom 124 = .ok (.iconst 0, 1) := by decide +kernel
theorem dX3_copyFrom_125 : decode cX3_copyFrom 125 = .ok (.aload_n 0, 1) := by decide +kernel
theorem dX3_copyFrom_126 : decode cX3_copyFrom 126 = .ok (.getfield 56, 3) := by decide +kernel
theorem dX3_copyFrom_129 : decode cX3_copyFrom 129 = .ok (.invokestatic 39, 3) := by decide +kernel
theorem dX3_copyFrom_132 : decode cX3_copyFrom 132 = .ok (.return_, 1) := by decide +kernel
theorem dX3_runCount_0 : decode cX3_runCount 0 = .ok (.iconst 0, 1) := by decide +kernel
theorem dX3_runCount_1 : decode cX3_runCount 1 = .ok (.istore_n 1, 1) := by decide +kernel
theorem dX3_runCount_2 : decode cX3_runCount 2 = .ok (.iconst 0, 1) := by decide +kernel
theorem dX3_runCount_3 : decode cX3_runCount 3 = .ok (.istore_n 2, 1) := by decide +kernel
theorem dX3_runCount_4 : decode cX3_runCount 4 = .ok (.iload_n 2, 1) := by decide +kernel
theorem dX3_runCount_5 : decode cX3_runCount 5 = .ok (.bipush 6, 2) := by decide +kernel
theorem dX3_runCount_7 : decode cX3_runCount 7 = .ok (.if_icmp .ge 18, 3) := by decide +kernel
theorem dX3_runCount_10 : decode cX3_runCount 10 = .ok (.iload_n 1, 1) := by decide +kernel
theorem dX3_runCount_11 : decode cX3_runCount 11 = .ok (.aload_n 0, 1) := by decide +kernel
theorem dX3_runCount_12 : decode cX3_runCount 12 = .ok (.getfield 15, 3) := by decide +kernel
theorem dX3_runCount_15 : decode cX3_runCount 15 = .ok (.iload_n 2, 1) := by decide +kernel
theorem dX3_runCount_16 : decode cX3_runCount 16 = .ok (.iaload, 1) := by decide +kernel
theorem dX3_runCount_17 : decode cX3_runCount 17 = .ok (.iadd, 1) := by decide +kernel
theorem dX3_runCount_18 : decode cX3_runCount 18 = .ok (.istore_n 1, 1) := by decide +kernel
theorem dX3_runCount_19 : decode cX3_runCount 19 = .ok (.iinc 2 1, 3) := by decide +kernel
theorem dX3_runCount_22 : decode cX3_runCount 22 = .ok (.goto (-18), 3) := by decide +kernel
theorem dX3_runCount_25 : decode cX3_runCount 25 = .ok (.iload_n 1, 1) := by decide +kernel
theorem dX3_runCount_26 : decode cX3_runCount 26 = .ok (.ireturn, 1) := by decide +kernel
theorem dX3_nodesWith_0 : decode cX3_nodesWith 0 = .ok (.iconst 0, 1) := by decide +kernel
theorem dX3_nodesWith_1 : decode cX3_nodesWith 1 = .ok (.istore_n 2, 1) := by decide +kernel
theorem dX3_nodesWith_2 : decode cX3_nodesWith 2 = .ok (.iconst 0, 1) := by decide +kernel
theorem dX3_nodesWith_3 : decode cX3_nodesWith 3 = .ok (.istore_n 3, 1) := by decide +kernel
theorem dX3_nodesWith_4 : decode cX3_nodesWith 4 = .ok (.iload_n 3, 1) := by decide +kernel
theorem dX3_nodesWith_5 : decode cX3_nodesWith 5 = .ok (.bipush 16, 2) := by decide +kernel
theorem dX3_nodesWith_7 : decode cX3_nodesWith 7 = .ok (.if_icmp .ge 26, 3) := by decide +kernel
theorem dX3_nodesWith_10 : decode cX3_nodesWith 10 = .ok (.aload_n 0, 1) := by decide +kernel
theorem dX3_nodesWith_11 : decode cX3_nodesWith 11 = .ok (.getfield 18, 3) := by decide +kernel
theorem dX3_nodesWith_14 : decode cX3_nodesWith 14 = .ok (.iload_n 3, 1) := by decide +kernel
theorem dX3_nodesWith_15 : decode cX3_nodesWith 15 = .ok (.iaload, 1) := by decide +kernel
theorem dX3_nodesWith_16 : decode cX3_nodesWith 16 = .ok (.iload_n 1, 1) := by decide +kernel
theorem dX3_nodesWith_17 : decode cX3_nodesWith 17 = .ok (.iand, 1) := by decide +kernel
theorem dX3_nodesWith_18 : decode cX3_nodesWith 18 = .ok (.ifCond .eq 9, 3) := by decide +kernel
theorem dX3_nodesWith_21 : decode cX3_nodesWith 21 = .ok (.iload_n 2, 1) := by decide +kernel
theorem dX3_nodesWith_22 : decode cX3_nodesWith 22 = .ok (.iconst 1, 1) := by decide +kernel
theorem dX3_nodesWith_23 : decode cX3_nodesWith 23 = .ok (.iload_n 3, 1) := by decide +kernel
theorem dX3_nodesWith_24 : decode cX3_nodesWith 24 = .ok (.ishl, 1) := by decide +kernel
theorem dX3_nodesWith_25 : decode cX3_nodesWith 25 = .ok (.ior, 1) := by decide +kernel
theorem dX3_nodesWith_26 : decode cX3_nodesWith 26 = .ok (.istore_n 2, 1) := by decide +kernel
theorem dX3_nodesWith_27 : decode cX3_nodesWith 27 = .ok (.iinc 3 1, 3) := by decide +kernel
theorem dX3_nodesWith_30 : decode cX3_nodesWith 30 = .ok (.goto (-26), 3) := by decide +kernel
theorem dX3_nodesWith_33 : decode cX3_nodesWith 33 = .ok (.iload_n 2, 1) := by decide +kernel
theorem dX3_nodesWith_34 : decode cX3_nodesWith 34 = .ok (.ireturn, 1) := by decide +kernel
theorem dX3_addRow_0 : decode cX3_addRow 0 = .ok (.iconst 0, 1) := by decide +kernel
theorem dX3_addRow_1 : decode cX3_addRow 1 = .ok (.istore_n 3, 1) := by decide +kernel
theorem dX3_addRow_2 : decode cX3_addRow 2 = .ok (.iload_n 3, 1) := by decide +kernel
theorem dX3_addRow_3 : decode cX3_addRow 3 = .ok (.aload_n 0, 1) := by decide +kernel
theorem dX3_addRow_4 : decode cX3_addRow 4 = .ok (.getfield 56, 3) := by decide +kernel
theorem dX3_addRow_7 : decode cX3_addRow 7 = .ok (.if_icmp .ge 31, 3) := by decide +kernel
theorem dX3_addRow_10 : decode cX3_addRow 10 = .ok (.aload_n 0, 1) := by decide +kernel
theorem dX3_addRow_11 : decode cX3_addRow 11 = .ok (.getfield 35, 3) := by decide +kernel
theorem dX3_addRow_14 : decode cX3_addRow 14 = .ok (.iload_n 3, 1) := by decide +kernel
theorem dX3_addRow_15 : decode cX3_addRow 15 = .ok (.laload, 1) := by decide +kernel
theorem dX3_addRow_16 : decode cX3_addRow 16 = .ok (.lload_n 1, 1) := by decide +kernel
theorem dX3_addRow_17 : decode cX3_addRow 17 = .ok (.lcmp, 1) := by decide +kernel
theorem dX3_addRow_18 : decode cX3_addRow 18 = .ok (.ifCond .ne 14, 3) := by decide +kernel
theorem dX3_addRow_21 : decode cX3_addRow 21 = .ok (.aload_n 0, 1) := by decide +kernel
theorem dX3_addRow_22 : decode cX3_addRow 22 = .ok (.dup, 1) := by decide +kernel
theorem dX3_addRow_23 : decode cX3_addRow 23 = .ok (.getfield 60, 3) := by decide +kernel
theorem dX3_addRow_26 : decode cX3_addRow 26 = .ok (.iconst 1, 1) := by decide +kernel
theorem dX3_addRow_27 : decode cX3_addRow 27 = .ok (.iadd, 1) := by decide +kernel
theorem dX3_addRow_28 : decode cX3_addRow 28 = .ok (.putfield 60, 3) := by decide +kernel
theorem dX3_addRow_31 : decode cX3_addRow 31 = .ok (.return_, 1) := by decide +kernel
theorem dX3_addRow_32 : decode cX3_addRow 32 = .ok (.iinc 3 1, 3) := by decide +kernel
theorem dX3_addRow_35 : decode cX3_addRow 35 = .ok (.goto (-33), 3) := by decide +kernel
theorem dX3_addRow_38 : decode cX3_addRow 38 = .ok (.aload_n 0, 1) := by decide +kernel
theorem dX3_addRow_39 : decode cX3_addRow 39 = .ok (.getfield 56, 3) := by decide +kernel
theorem dX3_addRow_42 : decode cX3_addRow 42 = .ok (.aload_n 0, 1) := by decide +kernel
theorem dX3_addRow_43 : decode cX3_addRow 43 = .ok (.getfield 35, 3) := by decide +kernel
theorem dX3_addRow_46 : decode cX3_addRow 46 = .ok (.arraylength, 1) := by decide +kernel
theorem dX3_addRow_47 : decode cX3_addRow 47 = .ok (.if_icmp .ne 30, 3) := by decide +kernel
theorem dX3_addRow_50 : decode cX3_addRow 50 = .ok (.aload_n 0, 1) := by decide +kernel
theorem dX3_addRow_51 : decode cX3_addRow 51 = .ok (.getfield 56, 3) := by decide +kernel
theorem dX3_addRow_54 : decode cX3_addRow 54 = .ok (.sipush 8192, 3) := by decide +kernel
theorem dX3_addRow_57 : decode cX3_addRow 57 = .ok (.if_icmp .ge 20, 3) := by decide +kernel
theorem dX3_addRow_60 : decode cX3_addRow 60 = .ok (.aload_n 0, 1) := by decide +kernel
theorem dX3_addRow_61 : decode cX3_addRow 61 = .ok (.aload_n 0, 1) := by decide +kernel
theorem dX3_addRow_62 : decode cX3_addRow 62 = .ok (.getfield 35, 3) := by decide +kernel
theorem dX3_addRow_65 : decode cX3_addRow 65 = .ok (.iconst 2, 1) := by decide +kernel
theorem dX3_addRow_66 : decode cX3_addRow 66 = .ok (.aload_n 0, 1) := by decide +kernel
theorem dX3_addRow_67 : decode cX3_addRow 67 = .ok (.getfield 56, 3) := by decide +kernel
theorem dX3_addRow_70 : decode cX3_addRow 70 = .ok (.imul, 1) := by decide +kernel
theorem dX3_addRow_71 : decode cX3_addRow 71 = .ok (.invokestatic 70, 3) := by decide +kernel
theorem dX3_addRow_74 : decode cX3_addRow 74 = .ok (.putfield 35, 3) := by decide +kernel
theorem dX3_addRow_77 : decode cX3_addRow 77 = .ok (.aload_n 0, 1) := by decide +kernel
theorem dX3_addRow_78 : decode cX3_addRow 78 = .ok (.getfield 56, 3) := by decide +kernel
theorem dX3_addRow_81 : decode cX3_addRow 81 = .ok (.aload_n 0, 1) := by decide +kernel
theorem dX3_addRow_82 : decode cX3_addRow 82 = .ok (.getfield 35, 3) := by decide +kernel
theorem dX3_addRow_85 : decode cX3_addRow 85 = .ok (.arraylength, 1) := by decide +kernel
theorem dX3_addRow_86 : decode cX3_addRow 86 = .ok (.if_icmp .ge 23, 3) := by decide +kernel
theorem dX3_addRow_89 : decode cX3_addRow 89 = .ok (.aload_n 0, 1) := by decide +kernel
theorem dX3_addRow_90 : decode cX3_addRow 90 = .ok (.getfield 35, 3) := by decide +kernel
theorem dX3_addRow_93 : decode cX3_addRow 93 = .ok (.aload_n 0, 1) := by decide +kernel
theorem dX3_addRow_94 : decode cX3_addRow 94 = .ok (.getfield 56, 3) := by decide +kernel
theorem dX3_addRow_97 : decode cX3_addRow 97 = .ok (.lload_n 1, 1) := by decide +kernel
theorem dX3_addRow_98 : decode cX3_addRow 98 = .ok (.lastore, 1) := by decide +kernel
theorem dX3_addRow_99 : decode cX3_addRow 99 = .ok (.aload_n 0, 1) := by decide +kernel
theorem dX3_addRow_100 : decode cX3_addRow 100 = .ok (.dup, 1) := by decide +kernel
theorem dX3_addRow_101 : decode cX3_addRow 101 = .ok (.getfield 56, 3) := by decide +kernel
theorem dX3_addRow_104 : decode cX3_addRow 104 = .ok (.iconst 1, 1) := by decide +kernel
theorem dX3_addRow_105 : decode cX3_addRow 105 = .ok (.iadd, 1) := by decide +kernel
theorem dX3_addRow_106 : decode cX3_addRow 106 = .ok (.putfield 56, 3) := by decide +kernel
theorem dX3_addRow_109 : decode cX3_addRow 109 = .ok (.return_, 1) := by decide +kernel
theorem dX4_init_0 : decode cX4_init 0 = .ok (.aload_n 0, 1) := by decide +kernel
theorem dX4_init_1 : decode cX4_init 1 = .ok (.invokespecial 3, 3) := by decide +kernel
theorem dX4_init_4 : decode cX4_init 4 = .ok (.aload_n 0, 1) := by decide +kernel
theorem dX4_init_5 : decode cX4_init 5 = .ok (.new 9, 3) := by decide +kernel
theorem dX4_init_8 : decode cX4_init 8 = .ok (.dup, 1) := by decide +kernel
theorem dX4_init_9 : decode cX4_init 9 = .ok (.invokespecial 11, 3) := by decide +kernel
theorem dX4_init_12 : decode cX4_init 12 = .ok (.putfield 12, 3) := by decide +kernel
theorem dX4_init_15 : decode cX4_init 15 = .ok (.aload_n 0, 1) := by decide +kernel
theorem dX4_init_16 : decode cX4_init 16 = .ok (.bipush 16, 2) := by decide +kernel
theorem dX4_init_18 : decode cX4_init 18 = .ok (.newarray .int, 2) := by decide +kernel
theorem dX4_init_20 : decode cX4_init 20 = .ok (.putfield 18, 3) := by decide +kernel
theorem dX4_init_23 : decode cX4_init 23 = .ok (.aload_n 0, 1) := by decide +kernel
theorem dX4_init_24 : decode cX4_init 24 = .ok (.iconst 4, 1) := by decide +kernel
theorem dX4_init_25 : decode cX4_init 25 = .ok (.bipush 17, 2) := by decide +kernel
theorem dX4_init_27 : decode cX4_init 27 = .ok (.multianewarray 22 2, 4) := by decide +kernel
theorem dX4_init_31 : decode cX4_init 31 = .ok (.putfield 24, 3) := by decide +kernel
theorem dX4_init_34 : decode cX4_init 34 = .ok (.return_, 1) := by decide +kernel
theorem dX4_mend_0 : decode cX4_mend 0 = .ok (.aload_n 1, 1) := by decide +kernel
theorem dX4_mend_1 : decode cX4_mend 1 = .ok (.iconst 0, 1) := by decide +kernel
theorem dX4_mend_2 : decode cX4_mend 2 = .ok (.aload_n 0, 1) := by decide +kernel
theorem dX4_mend_3 : decode cX4_mend 3 = .ok (.getfield 18, 3) := by decide +kernel
theorem dX4_mend_6 : decode cX4_mend 6 = .ok (.iconst 0, 1) := by decide +kernel
theorem dX4_mend_7 : decode cX4_mend 7 = .ok (.bipush 16, 2) := by decide +kernel
theorem dX4_mend_9 : decode cX4_mend 9 = .ok (.invokestatic 27, 3) := by decide +kernel
theorem dX4_mend_12 : decode cX4_mend 12 = .ok (.aload_n 0, 1) := by decide +kernel
theorem dX4_mend_13 : decode cX4_mend 13 = .ok (.iconst (-1), 1) := by decide +kernel
theorem dX4_mend_14 : decode cX4_mend 14 = .ok (.putfield 33, 3) := by decide +kernel
theorem dX4_mend_17 : decode cX4_mend 17 = .ok (.aload_n 0, 1) := by decide +kernel
theorem dX4_mend_18 : decode cX4_mend 18 = .ok (.iconst 0, 1) := by decide +kernel
theorem dX4_mend_19 : decode cX4_mend 19 = .ok (.putfield 37, 3) := by decide +kernel
theorem dX4_mend_22 : decode cX4_mend 22 = .ok (.aload_n 0, 1) := by decide +kernel
theorem dX4_mend_23 : decode cX4_mend 23 = .ok (.getfield 37, 3) := by decide +kernel
theorem dX4_mend_26 : decode cX4_mend 26 = .ok (.iconst 3, 1) := by decide +kernel
theorem dX4_mend_27 : decode cX4_mend 27 = .ok (.if_icmp .gt 27, 3) := by decide +kernel
theorem dX4_mend_30 : decode cX4_mend 30 = .ok (.aload_n 0, 1) := by decide +kernel
theorem dX4_mend_31 : decode cX4_mend 31 = .ok (.aload_n 0, 1) := by decide +kernel
theorem dX4_mend_32 : decode cX4_mend 32 = .ok (.getfield 37, 3) := by decide +kernel
theorem dX4_mend_35 : decode cX4_mend 35 = .ok (.invokevirtual 40, 3) := by decide +kernel
theorem dX4_mend_38 : decode cX4_mend 38 = .ok (.ifCond .ne 16, 3) := by decide +kernel
theorem dX4_mend_41 : decode cX4_mend 41 = .ok (.aload_n 0, 1) := by decide +kernel
theorem dX4_mend_42 : decode cX4_mend 42 = .ok (.dup, 1) := by decide +kernel
theorem dX4_mend_43 : decode cX4_mend 43 = .ok (.getfield 37, 3) := by decide +kernel
theorem dX4_mend_46 : decode cX4_mend 46 = .ok (.iconst 1, 1) := by decide +kernel
theorem dX4_mend_47 : decode cX4_mend 47 = .ok (.iadd, 1) := by decide +kernel
theorem dX4_mend_48 : decode cX4_mend 48 = .ok (.putfield 37, 3) := by decide +kernel
theorem dX4_mend_51 : decode cX4_mend 51 = .ok (.goto (-29), 3) := by decide +kernel
theorem dX4_mend_54 : decode cX4_mend 54 = .ok (.aload_n 0, 1) := by decide +kernel
theorem dX4_mend_55 : decode cX4_mend 55 = .ok (.getfield 37, 3) := by decide +kernel
theorem dX4_mend_58 : decode cX4_mend 58 = .ok (.ifCond .le 19, 3) := by decide +kernel
theorem dX4_mend_61 : decode cX4_mend 61 = .ok (.aload_n 0, 1) := by decide +kernel
theorem dX4_mend_62 : decode cX4_mend 62 = .ok (.getfield 37, 3) := by decide +kernel
theorem dX4_mend_65 : decode cX4_mend 65 = .ok (.iconst 3, 1) := by decide +kernel
theorem dX4_mend_66 : decode cX4_mend 66 = .ok (.if_icmp .gt 11, 3) := by decide +kernel
theorem dX4_mend_69 : decode cX4_mend 69 = .ok (.aload_n 0, 1) := by decide +kernel
theorem dX4_mend_70 : decode cX4_mend 70 = .ok (.aload_n 0, 1) := by decide +kernel
theorem dX4_mend_71 : decode cX4_mend 71 = .ok (.invokevirtual 44, 3) := by decide +kernel
theorem dX4_mend_74 : decode cX4_mend 74 = .ok (.putfield 33, 3) := by decide +kernel
theorem dX4_mend_77 : decode cX4_mend 77 = .ok (.return_, 1) := by decide +kernel
theorem dX4_leastOfFewest_0 : decode cX4_leastOfFewest 0 = .ok (.iconst 0, 1) := by decide +kernel
theorem dX4_leastOfFewest_1 : decode cX4_leastOfFewest 1 = .ok (.istore_n 1, 1) := by decide +kernel
theorem dX4_leastOfFewest_2 : decode cX4_leastOfFewest 2 = .ok (.iload_n 1, 1) := by decide +kernel
theorem dX4_leastOfFewest_3 : decode cX4_leastOfFewest 3 = .ok (.sipush 256, 3) := by decide +kernel
theorem dX4_leastOfFewest_6 : decode cX4_leastOfFewest 6 = .ok (.if_icmp .ge 77, 3) := by decide +kernel
theorem dX4_leastOfFewest_9 : decode cX4_leastOfFewest 9 = .ok (.iload_n 1, 1) := by decide +kernel
theorem dX4_leastOfFewest_10 : decode cX4_leastOfFewest 10 = .ok (.bipush 16, 2) := by decide +kernel
theorem dX4_leastOfFewest_12 : decode cX4_leastOfFewest 12 = .ok (.idiv, 1) := by decide +kernel
theorem dX4_leastOfFewest_13 : decode cX4_leastOfFewest 13 = .ok (.istore_n 2, 1) := by decide +kernel
theorem dX4_leastOfFewest_14 : decode cX4_leastOfFewest 14 = .ok (.iload_n 1, 1) := by decide +kernel
theorem dX4_leastOfFewest_15 : decode cX4_leastOfFewest 15 = .ok (.bipush 16, 2) := by decide +kernel
theorem dX4_leastOfFewest_17 : decode cX4_leastOfFewest 17 = .ok (.irem, 1) := by decide +kernel
theorem dX4_leastOfFewest_18 : decode cX4_leastOfFewest 18 = .ok (.istore_n 3, 1) := by decide +kernel
theorem dX4_leastOfFewest_19 : decode cX4_leastOfFewest 19 = .ok (.aload_n 0, 1) := by decide +kernel
theorem dX4_leastOfFewest_20 : decode cX4_leastOfFewest 20 = .ok (.getfield 18, 3) := by decide +kernel
theorem dX4_leastOfFewest_23 : decode cX4_leastOfFewest 23 = .ok (.iload_n 2, 1) := by decide +kernel
theorem dX4_leastOfFewest_24 : decode cX4_leastOfFewest 24 = .ok (.iaload, 1) := by decide +kernel
theorem dX4_leastOfFewest_25 : decode cX4_leastOfFewest 25 = .ok (.iload_n 3, 1) := by decide +kernel
theorem dX4_leastOfFewest_26 : decode cX4_leastOfFewest 26 = .ok (.invokestatic 48, 3) := by decide +kernel
theorem dX4_leastOfFewest_29 : decode cX4_leastOfFewest 29 = .ok (.ifCond .eq 48, 3) := by decide +kernel
theorem dX4_leastOfFewest_32 : decode cX4_leastOfFewest 32 = .ok (.aload_n 0, 1) := by decide +kernel
theorem dX4_leastOfFewest_33 : decode cX4_leastOfFewest 33 = .ok (.getfield 18, 3) := by decide +kernel
theorem dX4_leastOfFewest_36 : decode cX4_leastOfFewest 36 = .ok (.iload_n 2, 1) := by decide +kernel
theorem dX4_leastOfFewest_37 : decode cX4_leastOfFewest 37 = .ok (.dup2, 1) := by decide +kernel
theorem dX4_leastOfFewest_38 : decode cX4_leastOfFewest 38 = .ok (.iaload, 1) := by decide +kernel
theorem dX4_leastOfFewest_39 : decode cX4_leastOfFewest 39 = .ok (.iconst 1, 1) := by decide +kernel
theorem dX4_leastOfFewest_40 : decode cX4_leastOfFewest 40 = .ok (.iload_n 3, 1) := by decide +kernel
theorem dX4_leastOfFewest_41 : decode cX4_leastOfFewest 41 = .ok (.ishl, 1) := by decide +kernel
theorem dX4_leastOfFewest_42 : decode cX4_leastOfFewest 42 = .ok (.iconst (-1), 1) := by decide +kernel
theorem dX4_leastOfFewest_43 : decode cX4_leastOfFewest 43 = .ok (.ixor, 1) := by decide +kernel
theorem dX4_leastOfFewest_44 : decode cX4_leastOfFewest 44 = .ok (.iand, 1) := by decide +kernel
theorem dX4_leastOfFewest_45 : decode cX4_leastOfFewest 45 = .ok (.iastore, 1) := by decide +kernel
theorem dX4_leastOfFewest_46 : decode cX4_leastOfFewest 46 = .ok (.aload_n 0, 1) := by decide +kernel
theorem dX4_leastOfFewest_47 : decode cX4_leastOfFewest 47 = .ok (.aload_n 0, 1) := by decide +kernel
theorem dX4_leastOfFewest_48 : decode cX4_leastOfFewest 48 = .ok (.getfield 37, 3) := by decide +kernel
theorem dX4_leastOfFewest_51 : decode cX4_leastOfFewest 51 = .ok (.iconst 1, 1) := by decide +kernel
theorem dX4_leastOfFewest_52 : decode cX4_leastOfFewest 52 = .ok (.isub, 1) := by decide +kernel
theorem dX4_leastOfFewest_53 : decode cX4_leastOfFewest 53 = .ok (.invokevirtual 40, 3) := by decide +kernel
theorem dX4_leastOfFewest_56 : decode cX4_leastOfFewest 56 = .ok (.istore 4, 2) := by decide +kernel
theorem dX4_leastOfFewest_58 : decode cX4_leastOfFewest 58 = .ok (.aload_n 0, 1) := by decide +kernel
theorem dX4_leastOfFewest_59 : decode cX4_leastOfFewest 59 = .ok (.getfield 18, 3) := by decide +kernel
theorem dX4_leastOfFewest_62 : decode cX4_leastOfFewest 62 = .ok (.iload_n 2, 1) := by decide +kernel
theorem dX4_leastOfFewest_63 : decode cX4_leastOfFewest 63 = .ok (.dup2, 1) := by decide +kernel
theorem dX4_leastOfFewest_64 : decode cX4_leastOfFewest 64 = .ok (.iaload, 1) := by decide +kernel
theorem dX4_leastOfFewest_65 : decode cX4_leastOfFewest 65 = .ok (.iconst 1, 1) := by decide +kernel
theorem dX4_leastOfFewest_66 : decode cX4_leastOfFewest 66 = .ok (.iload_n 3, 1) := by decide +kernel
theorem dX4_leastOfFewest_67 : decode cX4_leastOfFewest 67 = .ok (.ishl, 1) := by decide +kernel
theorem dX4_leastOfFewest_68 : decode cX4_leastOfFewest 68 = .ok (.ior, 1) := by decide +kernel
theorem dX4_leastOfFewest_69 : decode cX4_leastOfFewest 69 = .ok (.iastore, 1) := by decide +kernel
theorem dX4_leastOfFewest_70 : decode cX4_leastOfFewest 70 = .ok (.iload 4, 2) := by decide +kernel
theorem dX4_leastOfFewest_72 : decode cX4_leastOfFewest 72 = .ok (.ifCond .eq 5, 3) := by decide +kernel
theorem dX4_leastOfFewest_75 : decode cX4_leastOfFewest 75 = .ok (.iload_n 1, 1) := by decide +kernel
theorem dX4_leastOfFewest_76 : decode cX4_leastOfFewest 76 = .ok (.ireturn, 1) := by decide +kernel
theorem dX4_leastOfFewest_77 : decode cX4_leastOfFewest 77 = .ok (.iinc 1 1, 3) := by decide +kernel
theorem dX4_leastOfFewest_80 : decode cX4_leastOfFewest 80 = .ok (.goto (-78), 3) := by decide +kernel
theorem dX4_leastOfFewest_83 : decode cX4_leastOfFewest 83 = .ok (.iconst (-1), 1) := by decide +kernel
theorem dX4_leastOfFewest_84 : decode cX4_leastOfFewest 84 = .ok (.ireturn, 1) := by decide +kernel
theorem dX4_doesWithout_0 : decode cX4_doesWithout 0 = .ok (.aload_n 0, 1) := by decide +kernel
theorem dX4_doesWithout_1 : decode cX4_doesWithout 1 = .ok (.invokevirtual 52, 3) := by decide +kernel
theorem dX4_doesWithout_4 : decode cX4_doesWithout 4 = .ok (.ifCond .ne 5, 3) := by decide +kernel
theorem dX4_doesWithout_7 : decode cX4_doesWithout 7 = .ok (.iconst 1, 1) := by decide +kernel
theorem dX4_doesWithout_8 : decode cX4_doesWithout 8 = .ok (.ireturn, 1) := by decide +kernel
theorem dX4_doesWithout_9 : decode cX4_doesWithout 9 = .ok (.iload_n 1, 1) := by decide +kernel
theorem dX4_doesWithout_10 : decode cX4_doesWithout 10 = .ok (.ifCond .le 8, 3) := by decide +kernel
theorem dX4_doesWithout_13 : decode cX4_doesWithout 13 = .ok (.iload_n 1, 1) := by decide +kernel
theorem dX4_doesWithout_14 : decode cX4_doesWithout 14 = .ok (.iconst 3, 1) := by decide +kernel
theorem dX4_doesWithout_15 : decode cX4_doesWithout 15 = .ok (.if_icmp .le 5, 3) := by decide +kernel
theorem dX4_doesWithout_18 : decode cX4_doesWithout 18 = .ok (.iconst 0, 1) := by decide +kernel
theorem dX4_doesWithout_19 : decode cX4_doesWithout 19 = .ok (.ireturn, 1) := by decide +kernel
theorem dX4_doesWithout_20 : decode cX4_doesWithout 20 = .ok (.aload_n 0, 1) := by decide +kernel
theorem dX4_doesWithout_21 : decode cX4_doesWithout 21 = .ok (.aload_n 0, 1) := by decide +kernel
theorem dX4_doesWithout_22 : decode cX4_doesWithout 22 = .ok (.getfield 24, 3) := by decide +kernel
theorem dX4_doesWithout_25 : decode cX4_doesWithout 25 = .ok (.iload_n 1, 1) := by decide +kernel
theorem dX4_doesWithout_26 : decode cX4_doesWithout 26 = .ok (.aaload, 1) := by decide +kernel
theorem dX4_doesWithout_27 : decode cX4_doesWithout 27 = .ok (.invokevirtual 56, 3) := by decide +kernel
theorem dX4_doesWithout_30 : decode cX4_doesWithout 30 = .ok (.istore_n 2, 1) := by decide +kernel
theorem dX4_doesWithout_31 : decode cX4_doesWithout 31 = .ok (.iconst 0, 1) := by decide +kernel
theorem dX4_doesWithout_32 : decode cX4_doesWithout 32 = .ok (.istore_n 3, 1) := by decide +kernel
theorem dX4_doesWithout_33 : decode cX4_doesWithout 33 = .ok (.iconst 0, 1) := by decide +kernel
theorem dX4_doesWithout_34 : decode cX4_doesWithout 34 = .ok (.istore 4, 2) := by decide +kernel
theorem dX4_doesWithout_36 : decode cX4_doesWithout 36 = .ok (.iload 4, 2) := by decide +kernel
theorem dX4_doesWithout_38 : decode cX4_doesWithout 38 = .ok (.iload_n 2, 1) := by decide +kernel
theorem dX4_doesWithout_39 : decode cX4_doesWithout 39 = .ok (.if_icmp .ge 75, 3) := by decide +kernel
theorem dX4_doesWithout_42 : decode cX4_doesWithout 42 = .ok (.iload_n 3, 1) := by decide +kernel
theorem dX4_doesWithout_43 : decode cX4_doesWithout 43 = .ok (.ifCond .ne 71, 3) := by decide +kernel
theorem dX4_doesWithout_46 : decode cX4_doesWithout 46 = .ok (.aload_n 0, 1) := by decide +kernel
theorem dX4_doesWithout_47 : decode cX4_doesWithout 47 = .ok (.getfield 24, 3) := by decide +kernel
theorem dX4_doesWithout_50 : decode cX4_doesWithout 50 = .ok (.iload_n 1, 1) := by decide +kernel
theorem dX4_doesWithout_51 : decode cX4_doesWithout 51 = .ok (.aaload, 1) := by decide +kernel
theorem dX4_doesWithout_52 : decode cX4_doesWithout 52 = .ok (.iload 4, 2) := by decide +kernel
theorem dX4_doesWithout_54 : decode cX4_doesWithout 54 = .ok (.iaload, 1) := by decide +kernel
theorem dX4_doesWithout_55 : decode cX4_doesWithout 55 = .ok (.istore 5, 2) := by decide +kernel
theorem dX4_doesWithout_57 : decode cX4_doesWithout 57 = .ok (.aload_n 0, 1) := by decide +kernel
theorem dX4_doesWithout_58 : decode cX4_doesWithout 58 = .ok (.getfield 24, 3) := by decide +kernel
theorem dX4_doesWithout_61 : decode cX4_doesWithout 61 = .ok (.iload_n 1, 1) := by decide +kernel
theorem dX4_doesWithout_62 : decode cX4_doesWithout 62 = .ok (.aaload, 1) := by decide +kernel
theorem dX4_doesWithout_63 : decode cX4_doesWithout 63 = .ok (.iload 4, 2) := by decide +kernel
theorem dX4_doesWithout_65 : decode cX4_doesWithout 65 = .ok (.iconst 1, 1) := by decide +kernel
theorem dX4_doesWithout_66 : decode cX4_doesWithout 66 = .ok (.iadd, 1) := by decide +kernel
theorem dX4_doesWithout_67 : decode cX4_doesWithout 67 = .ok (.iaload, 1) := by decide +kernel
theorem dX4_doesWithout_68 : decode cX4_doesWithout 68 = .ok (.istore 6, 2) := by decide +kernel
theorem dX4_doesWithout_70 : decode cX4_doesWithout 70 = .ok (.aload_n 0, 1) := by decide +kernel
theorem dX4_doesWithout_71 : decode cX4_doesWithout 71 = .ok (.getfield 18, 3) := by decide +kernel
theorem dX4_doesWithout_74 : decode cX4_doesWithout 74 = .ok (.iload 5, 2) := by decide +kernel
theorem dX4_doesWithout_76 : decode cX4_doesWithout 76 = .ok (.dup2, 1) := by decide +kernel
theorem dX4_doesWithout_77 : decode cX4_doesWithout 77 = .ok (.iaload, 1) := by decide +kernel
theorem dX4_doesWithout_78 : decode cX4_doesWithout 78 = .ok (.iconst 1, 1) := by decide +kernel
theorem dX4_doesWithout_79 : decode cX4_doesWithout 79 = .ok (.iload 6, 2) := by decide +kernel
theorem dX4_doesWithout_81 : decode cX4_doesWithout 81 = .ok (.ishl, 1) := by decide +kernel
theorem dX4_doesWithout_82 : decode cX4_doesWithout 82 = .ok (.iconst (-1), 1) := by decide +kernel
theorem dX4_doesWithout_83 : decode cX4_doesWithout 83 = .ok (.ixor, 1) := by decide +kernel
theorem dX4_doesWithout_84 : decode cX4_doesWithout 84 = .ok (.iand, 1) := by decide +kernel
theorem dX4_doesWithout_85 : decode cX4_doesWithout 85 = .ok (.iastore, 1) := by decide +kernel
theorem dX4_doesWithout_86 : decode cX4_doesWithout 86 = .ok (.aload_n 0, 1) := by decide +kernel
theorem dX4_doesWithout_87 : decode cX4_doesWithout 87 = .ok (.iload_n 1, 1) := by decide +kernel
theorem dX4_doesWithout_88 : decode cX4_doesWithout 88 = .ok (.iconst 1, 1) := by decide +kernel
theorem dX4_doesWithout_89 : decode cX4_doesWithout 89 = .ok (.isub, 1) := by decide +kernel
theorem dX4_doesWithout_90 : decode cX4_doesWithout 90 = .ok (.invokevirtual 40, 3) := by decide +kernel
theorem dX4_doesWithout_93 : decode cX4_doesWithout 93 = .ok (.istore_n 3, 1) := by decide +kernel
theorem dX4_doesWithout_94 : decode cX4_doesWithout 94 = .ok (.aload_n 0, 1) := by decide +kernel
theorem dX4_doesWithout_95 : decode cX4_doesWithout 95 = .ok (.getfield 18, 3) := by decide +kernel
theorem dX4_doesWithout_98 : decode cX4_doesWithout 98 = .ok (.iload 5, 2) := by decide +kernel
theorem dX4_doesWithout_100 : decode cX4_doesWithout 100 = .ok (.dup2, 1) := by decide +kernel
theorem dX4_doesWithout_101 : decode cX4_doesWithout 101 = .ok (.iaload, 1) := by decide +kernel
theorem dX4_doesWithout_102 : decode cX4_doesWithout 102 = .ok (.iconst 1, 1) := by decide +kernel
theorem dX4_doesWithout_103 : decode cX4_doesWithout 103 = .ok (.iload 6, 2) := by decide +kernel
theorem dX4_doesWithout_105 : decode cX4_doesWithout 105 = .ok (.ishl, 1) := by decide +kernel
theorem dX4_doesWithout_106 : decode cX4_doesWithout 106 = .ok (.ior, 1) := by decide +kernel
theorem dX4_doesWithout_107 : decode cX4_doesWithout 107 = .ok (.iastore, 1) := by decide +kernel
theorem dX4_doesWithout_108 : decode cX4_doesWithout 108 = .ok (.iinc 4 1, 3) := by decide +kernel
theorem dX4_doesWithout_111 : decode cX4_doesWithout 111 = .ok (.goto (-75), 3) := by decide +kernel
theorem dX4_doesWithout_114 : decode cX4_doesWithout 114 = .ok (.iload_n 3, 1) := by decide +kernel
theorem dX4_doesWithout_115 : decode cX4_doesWithout 115 = .ok (.ireturn, 1) := by decide +kernel
theorem dX4_hasRing_0 : decode cX4_hasRing 0 = .ok (.ldc 60, 2) := by decide +kernel
theorem dX4_hasRing_2 : decode cX4_hasRing 2 = .ok (.istore_n 1, 1) := by decide +kernel
theorem dX4_hasRing_3 : decode cX4_hasRing 3 = .ok (.iconst 0, 1) := by decide +kernel
theorem dX4_hasRing_4 : decode cX4_hasRing 4 = .ok (.istore_n 2, 1) := by decide +kernel
theorem dX4_hasRing_5 : decode cX4_hasRing 5 = .ok (.iload_n 2, 1) := by decide +kernel
theorem dX4_hasRing_6 : decode cX4_hasRing 6 = .ok (.bipush 16, 2) := by decide +kernel
theorem dX4_hasRing_8 : decode cX4_hasRing 8 = .ok (.if_icmp .ge 72, 3) := by decide +kernel
theorem dX4_hasRing_11 : decode cX4_hasRing 11 = .ok (.iconst 0, 1) := by decide +kernel
theorem dX4_hasRing_12 : decode cX4_hasRing 12 = .ok (.istore_n 3, 1) := by decide +kernel
theorem dX4_hasRing_13 : decode cX4_hasRing 13 = .ok (.iconst 0, 1) := by decide +kernel
theorem dX4_hasRing_14 : decode cX4_hasRing 14 = .ok (.istore 4, 2) := by decide +kernel
theorem dX4_hasRing_16 : decode cX4_hasRing 16 = .ok (.iload 4, 2) := by decide +kernel
theorem dX4_hasRing_18 : decode cX4_hasRing 18 = .ok (.bipush 16, 2) := by decide +kernel
theorem dX4_hasRing_20 : decode cX4_hasRing 20 = .ok (.if_icmp .ge 37, 3) := by decide +kernel
theorem dX4_hasRing_23 : decode cX4_hasRing 23 = .ok (.iload_n 1, 1) := by decide +kernel
theorem dX4_hasRing_24 : decode cX4_hasRing 24 = .ok (.iload 4, 2) := by decide +kernel
theorem dX4_hasRing_26 : decode cX4_hasRing 26 = .ok (.ishr, 1) := by decide +kernel
theorem dX4_hasRing_27 : decode cX4_hasRing 27 = .ok (.iconst 1, 1) := by decide +kernel
theorem dX4_hasRing_28 : decode cX4_hasRing 28 = .ok (.iand, 1) := by decide +kernel
theorem dX4_hasRing_29 : decode cX4_hasRing 29 = .ok (.ifCond .eq 22, 3) := by decide +kernel
theorem dX4_hasRing_32 : decode cX4_hasRing 32 = .ok (.aload_n 0, 1) := by decide +kernel
theorem dX4_hasRing_33 : decode cX4_hasRing 33 = .ok (.getfield 18, 3) := by decide +kernel
theorem dX4_hasRing_36 : decode cX4_hasRing 36 = .ok (.iload 4, 2) := by decide +kernel
theorem dX4_hasRing_38 : decode cX4_hasRing 38 = .ok (.iaload, 1) := by decide +kernel
theorem dX4_hasRing_39 : decode cX4_hasRing 39 = .ok (.iload_n 1, 1) := by decide +kernel
theorem dX4_hasRing_40 : decode cX4_hasRing 40 = .ok (.iand, 1) := by decide +kernel
theorem dX4_hasRing_41 : decode cX4_hasRing 41 = .ok (.ifCond .eq 10, 3) := by decide +kernel
theorem dX4_hasRing_44 : decode cX4_hasRing 44 = .ok (.iload_n 3, 1) := by decide +kernel
theorem dX4_hasRing_45 : decode cX4_hasRing 45 = .ok (.iconst 1, 1) := by decide +kernel
theorem dX4_hasRing_46 : decode cX4_hasRing 46 = .ok (.iload 4, 2) := by decide +kernel
theorem dX4_hasRing_48 : decode cX4_hasRing 48 = .ok (.ishl, 1) := by decide +kernel
theorem dX4_hasRing_49 : decode cX4_hasRing 49 = .ok (.ior, 1) := by decide +kernel
theorem dX4_hasRing_50 : decode cX4_hasRing 50 = .ok (.istore_n 3, 1) := by decide +kernel
theorem dX4_hasRing_51 : decode cX4_hasRing 51 = .ok (.iinc 4 1, 3) := by decide +kernel
theorem dX4_hasRing_54 : decode cX4_hasRing 54 = .ok (.goto (-38), 3) := by decide +kernel
theorem dX4_hasRing_57 : decode cX4_hasRing 57 = .ok (.iload_n 3, 1) := by decide +kernel
theorem dX4_hasRing_58 : decode cX4_hasRing 58 = .ok (.iload_n 1, 1) := by decide +kernel
theorem dX4_hasRing_59 : decode cX4_hasRing 59 = .ok (.if_icmp .ne 13, 3) := by decide +kernel
theorem dX4_hasRing_62 : decode cX4_hasRing 62 = .ok (.iload_n 1, 1) := by decide +kernel
theorem dX4_hasRing_63 : decode cX4_hasRing 63 = .ok (.ifCond .eq 7, 3) := by decide +kernel
theorem dX4_hasRing_66 : decode cX4_hasRing 66 = .ok (.iconst 1, 1) := by decide +kernel
theorem dX4_hasRing_67 : decode cX4_hasRing 67 = .ok (.goto 4, 3) := by decide +kernel
theorem dX4_hasRing_70 : decode cX4_hasRing 70 = .ok (.iconst 0, 1) := by decide +kernel
theorem dX4_hasRing_71 : decode cX4_hasRing 71 = .ok (.ireturn, 1) := by decide +kernel
theorem dX4_hasRing_72 : decode cX4_hasRing 72 = .ok (.iload_n 3, 1) := by decide +kernel
theorem dX4_hasRing_73 : decode cX4_hasRing 73 = .ok (.istore_n 1, 1) := by decide +kernel
theorem dX4_hasRing_74 : decode cX4_hasRing 74 = .ok (.iinc 2 1, 3) := by decide +kernel
theorem dX4_hasRing_77 : decode cX4_hasRing 77 = .ok (.goto (-72), 3) := by decide +kernel
theorem dX4_hasRing_80 : decode cX4_hasRing 80 = .ok (.iload_n 1, 1) := by decide +kernel
theorem dX4_hasRing_81 : decode cX4_hasRing 81 = .ok (.ifCond .eq 7, 3) := by decide +kernel
theorem dX4_hasRing_84 : decode cX4_hasRing 84 = .ok (.iconst 1, 1) := by decide +kernel
theorem dX4_hasRing_85 : decode cX4_hasRing 85 = .ok (.goto 4, 3) := by decide +kernel
theorem dX4_hasRing_88 : decode cX4_hasRing 88 = .ok (.iconst 0, 1) := by decide +kernel
theorem dX4_hasRing_89 : decode cX4_hasRing 89 = .ok (.ireturn, 1) := by decide +kernel
theorem dX4_shortestRing_0 : decode cX4_shortestRing 0 = .ok (.iconst 0, 1) := by decide +kernel
theorem dX4_shortestRing_1 : decode cX4_shortestRing 1 = .ok (.istore_n 2, 1) := by decide +kernel
theorem dX4_shortestRing_2 : decode cX4_shortestRing 2 = .ok (.iconst 0, 1) := by decide +kernel
theorem dX4_shortestRing_3 : decode cX4_shortestRing 3 = .ok (.istore_n 3, 1) := by decide +kernel
theorem dX4_shortestRing_4 : decode cX4_shortestRing 4 = .ok (.iload_n 3, 1) := by decide +kernel
theorem dX4_shortestRing_5 : decode cX4_shortestRing 5 = .ok (.bipush 16, 2) := by decide +kernel
theorem dX4_shortestRing_7 : decode cX4_shortestRing 7 = .ok (.if_icmp .ge 64, 3) := by decide +kernel
theorem dX4_shortestRing_10 : decode cX4_shortestRing 10 = .ok (.aload_n 0, 1) := by decide +kernel
theorem dX4_shortestRing_11 : decode cX4_shortestRing 11 = .ok (.getfield 12, 3) := by decide +kernel
theorem dX4_shortestRing_14 : decode cX4_shortestRing 14 = .ok (.aload_n 0, 1) := by decide +kernel
theorem dX4_shortestRing_15 : decode cX4_shortestRing 15 = .ok (.getfield 18, 3) := by decide +kernel
theorem dX4_shortestRing_18 : decode cX4_shortestRing 18 = .ok (.iload_n 3, 1) := by decide +kernel
theorem dX4_shortestRing_19 : decode cX4_shortestRing 19 = .ok (.iload_n 3, 1) := by decide +kernel
theorem dX4_shortestRing_20 : decode cX4_shortestRing 20 = .ok (.invokevirtual 61, 3) := by decide +kernel
theorem dX4_shortestRing_23 : decode cX4_shortestRing 23 = .ok (.ifCond .eq 42, 3) := by decide +kernel
theorem dX4_shortestRing_26 : decode cX4_shortestRing 26 = .ok (.iload_n 2, 1) := by decide +kernel
theorem dX4_shortestRing_27 : decode cX4_shortestRing 27 = .ok (.ifCond .eq 14, 3) := by decide +kernel
theorem dX4_shortestRing_30 : decode cX4_shortestRing 30 = .ok (.aload_n 0, 1) := by decide +kernel
theorem dX4_shortestRing_31 : decode cX4_shortestRing 31 = .ok (.getfield 12, 3) := by decide +kernel
theorem dX4_shortestRing_34 : decode cX4_shortestRing 34 = .ok (.getfield 65, 3) := by decide +kernel
theorem dX4_shortestRing_37 : decode cX4_shortestRing 37 = .ok (.iload_n 2, 1) := by decide +kernel
theorem dX4_shortestRing_38 : decode cX4_shortestRing 38 = .ok (.if_icmp .ge 27, 3) := by decide +kernel
theorem dX4_shortestRing_41 : decode cX4_shortestRing 41 = .ok (.aload_n 0, 1) := by decide +kernel
theorem dX4_shortestRing_42 : decode cX4_shortestRing 42 = .ok (.getfield 12, 3) := by decide +kernel
theorem dX4_shortestRing_45 : decode cX4_shortestRing 45 = .ok (.getfield 65, 3) := by decide +kernel
theorem dX4_shortestRing_48 : decode cX4_shortestRing 48 = .ok (.istore_n 2, 1) := by decide +kernel
theorem dX4_shortestRing_49 : decode cX4_shortestRing 49 = .ok (.aload_n 0, 1) := by decide +kernel
theorem dX4_shortestRing_50 : decode cX4_shortestRing 50 = .ok (.getfield 12, 3) := by decide +kernel
theorem dX4_shortestRing_53 : decode cX4_shortestRing 53 = .ok (.getfield 68, 3) := by decide +kernel
theorem dX4_shortestRing_56 : decode cX4_shortestRing 56 = .ok (.iconst 0, 1) := by decide +kernel
theorem dX4_shortestRing_57 : decode cX4_shortestRing 57 = .ok (.aload_n 1, 1) := by decide +kernel
theorem dX4_shortestRing_58 : decode cX4_shortestRing 58 = .ok (.iconst 0, 1) := by decide +kernel
theorem dX4_shortestRing_59 : decode cX4_shortestRing 59 = .ok (.iload_n 2, 1) := by decide +kernel
theorem dX4_shortestRing_60 : decode cX4_shortestRing 60 = .ok (.iconst 1, 1) := by decide +kernel
theorem dX4_shortestRing_61 : decode cX4_shortestRing 61 = .ok (.iadd, 1) := by decide +kernel
theorem dX4_shortestRing_62 : decode cX4_shortestRing 62 = .ok (.invokestatic 27, 3) := by decide +kernel
theorem dX4_shortestRing_65 : decode cX4_shortestRing 65 = .ok (.iinc 3 1, 3) := by decide +kernel
theorem dX4_shortestRing_68 : decode cX4_shortestRing 68 = .ok (.goto (-64), 3) := by decide +kernel
theorem dX4_shortestRing_71 : decode cX4_shortestRing 71 = .ok (.iload_n 2, 1) := by decide +kernel
theorem dX4_shortestRing_72 : decode cX4_shortestRing 72 = .ok (.ireturn, 1) := by decide +kernel
theorem dX5_init_0 : decode cX5_init 0 = .ok (.aload_n 0, 1) := by decide +kernel
theorem dX5_init_1 : decode cX5_init 1 = .ok (.invokespecial 3, 3) := by decide +kernel
theorem dX5_init_4 : decode cX5_init 4 = .ok (.aload_n 0, 1) := by decide +kernel
theorem dX5_init_5 : decode cX5_init 5 = .ok (.bipush 10, 2) := by decide +kernel
theorem dX5_init_7 : decode cX5_init 7 = .ok (.newarray .int, 2) := by decide +kernel
theorem dX5_init_9 : decode cX5_init 9 = .ok (.putfield 9, 3) := by decide +kernel
theorem dX5_init_12 : decode cX5_init 12 = .ok (.aload_n 0, 1) := by decide +kernel
theorem dX5_init_13 : decode cX5_init 13 = .ok (.bipush 6, 2) := by decide +kernel
theorem dX5_init_15 : decode cX5_init 15 = .ok (.newarray .int, 2) := by decide +kernel
theorem dX5_init_17 : decode cX5_init 17 = .ok (.putfield 15, 3) := by decide +kernel
theorem dX5_init_20 : decode cX5_init 20 = .ok (.aload_n 0, 1) := by decide +kernel
theorem dX5_init_21 : decode cX5_init 21 = .ok (.bipush 6, 2) := by decide +kernel
theorem dX5_init_23 : decode cX5_init 23 = .ok (.newarray .int, 2) := by decide +kernel
theorem dX5_init_25 : decode cX5_init 25 = .ok (.putfield 18, 3) := by decide +kernel
theorem dX5_init_28 : decode cX5_init 28 = .ok (.aload_n 0, 1) := by decide +kernel
theorem dX5_init_29 : decode cX5_init 29 = .ok (.bipush 72, 2) := by decide +kernel
theorem dX5_init_31 : decode cX5_init 31 = .ok (.newarray .int, 2) := by decide +kernel
theorem dX5_init_33 : decode cX5_init 33 = .ok (.putfield 21, 3) := by decide +kernel
theorem dX5_init_36 : decode cX5_init 36 = .ok (.return_, 1) := by decide +kernel
theorem dX5_clear_0 : decode cX5_clear 0 = .ok (.aload_n 0, 1) := by decide +kernel
theorem dX5_clear_1 : decode cX5_clear 1 = .ok (.iconst 0, 1) := by decide +kernel
theorem dX5_clear_2 : decode cX5_clear 2 = .ok (.putfield 24, 3) := by decide +kernel
theorem dX5_clear_5 : decode cX5_clear 5 = .ok (.aload_n 0, 1) := by decide +kernel
theorem dX5_clear_6 : decode cX5_clear 6 = .ok (.iconst 0, 1) := by decide +kernel
theorem dX5_clear_7 : decode cX5_clear 7 = .ok (.putfield 28, 3) := by decide +kernel
theorem dX5_clear_10 : decode cX5_clear 10 = .ok (.aload_n 0, 1) := by decide +kernel
theorem dX5_clear_11 : decode cX5_clear 11 = .ok (.iconst 0, 1) := by decide +kernel
theorem dX5_clear_12 : decode cX5_clear 12 = .ok (.putfield 31, 3) := by decide +kernel
theorem dX5_clear_15 : decode cX5_clear 15 = .ok (.aload_n 0, 1) := by decide +kernel
theorem dX5_clear_16 : decode cX5_clear 16 = .ok (.getfield 18, 3) := by decide +kernel
theorem dX5_clear_19 : decode cX5_clear 19 = .ok (.iconst 0, 1) := by decide +kernel
theorem dX5_clear_20 : decode cX5_clear 20 = .ok (.invokestatic 34, 3) := by decide +kernel
theorem dX5_clear_23 : decode cX5_clear 23 = .ok (.aload_n 0, 1) := by decide +kernel
theorem dX5_clear_24 : decode cX5_clear 24 = .ok (.getfield 21, 3) := by decide +kernel
theorem dX5_clear_27 : decode cX5_clear 27 = .ok (.iconst 0, 1) := by decide +kernel
theorem dX5_clear_28 : decode cX5_clear 28 = .ok (.invokestatic 34, 3) := by decide +kernel
theorem dX5_clear_31 : decode cX5_clear 31 = .ok (.return_, 1) := by decide +kernel
theorem dX5_hasLock_0 : decode cX5_hasLock 0 = .ok (.iload_n 1, 1) := by decide +kernel
theorem dX5_hasLock_1 : decode cX5_hasLock 1 = .ok (.ifCond .lt 15, 3) := by decide +kernel
theorem dX5_hasLock_4 : decode cX5_hasLock 4 = .ok (.iload_n 1, 1) := by decide +kernel
theorem dX5_hasLock_5 : decode cX5_hasLock 5 = .ok (.aload_n 0, 1) := by decide +kernel
theorem dX5_hasLock_6 : decode cX5_hasLock 6 = .ok (.getfield 28, 3) := by decide +kernel
theorem dX5_hasLock_9 : decode cX5_hasLock 9 = .ok (.if_icmp .ge 7, 3) := by decide +kernel
theorem dX5_hasLock_12 : decode cX5_hasLock 12 = .ok (.iconst 1, 1) := by decide +kernel
theorem dX5_hasLock_13 : decode cX5_hasLock 13 = .ok (.goto 4, 3) := by decide +kernel
theorem dX5_hasLock_16 : decode cX5_hasLock 16 = .ok (.iconst 0, 1) := by decide +kernel
theorem dX5_hasLock_17 : decode cX5_hasLock 17 = .ok (.ireturn, 1) := by decide +kernel
theorem dX5_hasProgram_0 : decode cX5_hasProgram 0 = .ok (.iload_n 1, 1) := by decide +kernel
theorem dX5_hasProgram_1 : decode cX5_hasProgram 1 = .ok (.ifCond .lt 15, 3) := by decide +kernel
theorem dX5_hasProgram_4 : decode cX5_hasProgram 4 = .ok (.iload_n 1, 1) := by decide +kernel
theorem dX5_hasProgram_5 : decode cX5_hasProgram 5 = .ok (.aload_n 0, 1) := by decide +kernel
theorem dX5_hasProgram_6 : decode cX5_hasProgram 6 = .ok (.getfield 31, 3) := by decide +kernel
theorem dX5_hasProgram_9 : decode cX5_hasProgram 9 = .ok (.if_icmp .ge 7, 3) := by decide +kernel
theorem dX5_hasProgram_12 : decode cX5_hasProgram 12 = .ok (.iconst 1, 1) := by decide +kernel
theorem dX5_hasProgram_13 : decode cX5_hasProgram 13 = .ok (.goto 4, 3) := by decide +kernel
theorem dX5_hasProgram_16 : decode cX5_hasProgram 16 = .ok (.iconst 0, 1) := by decide +kernel
theorem dX5_hasProgram_17 : decode cX5_hasProgram 17 = .ok (.ireturn, 1) := by decide +kernel
theorem dX5_isTask_0 : decode cX5_isTask 0 = .ok (.aload_n 0, 1) := by decide +kernel
theorem dX5_isTask_1 : decode cX5_isTask 1 = .ok (.iload_n 1, 1) := by decide +kernel
theorem dX5_isTask_2 : decode cX5_isTask 2 = .ok (.invokevirtual 40, 3) := by decide +kernel
theorem dX5_isTask_5 : decode cX5_isTask 5 = .ok (.ifCond .eq 16, 3) := by decide +kernel
theorem dX5_isTask_8 : decode cX5_isTask 8 = .ok (.aload_n 0, 1) := by decide +kernel
theorem dX5_isTask_9 : decode cX5_isTask 9 = .ok (.getfield 15, 3) := by decide +kernel
theorem dX5_isTask_12 : decode cX5_isTask 12 = .ok (.iload_n 1, 1) := by decide +kernel
theorem dX5_isTask_13 : decode cX5_isTask 13 = .ok (.iaload, 1) := by decide +kernel
theorem dX5_isTask_14 : decode cX5_isTask 14 = .ok (.ifCond .ne 7, 3) := by decide +kernel
theorem dX5_isTask_17 : decode cX5_isTask 17 = .ok (.iconst 1, 1) := by decide +kernel
theorem dX5_isTask_18 : decode cX5_isTask 18 = .ok (.goto 4, 3) := by decide +kernel
theorem dX5_isTask_21 : decode cX5_isTask 21 = .ok (.iconst 0, 1) := by decide +kernel
theorem dX5_isTask_22 : decode cX5_isTask 22 = .ok (.ireturn, 1) := by decide +kernel
theorem dX5_hasStep_0 : decode cX5_hasStep 0 = .ok (.aload_n 0, 1) := by decide +kernel
theorem dX5_hasStep_1 : decode cX5_hasStep 1 = .ok (.iload_n 1, 1) := by decide +kernel
theorem dX5_hasStep_2 : decode cX5_hasStep 2 = .ok (.invokevirtual 40, 3) := by decide +kernel
theorem dX5_hasStep_5 : decode cX5_hasStep 5 = .ok (.ifCond .eq 21, 3) := by decide +kernel
theorem dX5_hasStep_8 : decode cX5_hasStep 8 = .ok (.iload_n 2, 1) := by decide +kernel
theorem dX5_hasStep_9 : decode cX5_hasStep 9 = .ok (.ifCond .lt 17, 3) := by decide +kernel
theorem dX5_hasStep_12 : decode cX5_hasStep 12 = .ok (.iload_n 2, 1) := by decide +kernel
theorem dX5_hasStep_13 : decode cX5_hasStep 13 = .ok (.aload_n 0, 1) := by decide +kernel
theorem dX5_hasStep_14 : decode cX5_hasStep 14 = .ok (.getfield 18, 3) := by decide +kernel
theorem dX5_hasStep_17 : decode cX5_hasStep 17 = .ok (.iload_n 1, 1) := by decide +kernel
theorem dX5_hasStep_18 : decode cX5_hasStep 18 = .ok (.iaload, 1) := by decide +kernel
theorem dX5_hasStep_19 : decode cX5_hasStep 19 = .ok (.if_icmp .ge 7, 3) := by decide +kernel
theorem dX5_hasStep_22 : decode cX5_hasStep 22 = .ok (.iconst 1, 1) := by decide +kernel
theorem dX5_hasStep_23 : decode cX5_hasStep 23 = .ok (.goto 4, 3) := by decide +kernel
theorem dX5_hasStep_26 : decode cX5_hasStep 26 = .ok (.iconst 0, 1) := by decide +kernel
theorem dX5_hasStep_27 : decode cX5_hasStep 27 = .ok (.ireturn, 1) := by decide +kernel
theorem dX5_hasPair_0 : decode cX5_hasPair 0 = .ok (.aload_n 0, 1) := by decide +kernel
theorem dX5_hasPair_1 : decode cX5_hasPair 1 = .ok (.iload_n 1, 1) := by decide +kernel
theorem dX5_hasPair_2 : decode cX5_hasPair 2 = .ok (.invokevirtual 40, 3) := by decide +kernel
theorem dX5_hasPair_5 : decode cX5_hasPair 5 = .ok (.ifCond .eq 23, 3) := by decide +kernel
theorem dX5_hasPair_8 : decode cX5_hasPair 8 = .ok (.iload_n 2, 1) := by decide +kernel
theorem dX5_hasPair_9 : decode cX5_hasPair 9 = .ok (.ifCond .lt 19, 3) := by decide +kernel
theorem dX5_hasPair_12 : decode cX5_hasPair 12 = .ok (.iload_n 2, 1) := by decide +kernel
theorem dX5_hasPair_13 : decode cX5_hasPair 13 = .ok (.aload_n 0, 1) := by decide +kernel
theorem dX5_hasPair_14 : decode cX5_hasPair 14 = .ok (.getfield 18, 3) := by decide +kernel
theorem dX5_hasPair_17 : decode cX5_hasPair 17 = .ok (.iload_n 1, 1) := by decide +kernel
theorem dX5_hasPair_18 : decode cX5_hasPair 18 = .ok (.iaload, 1) := by decide +kernel
theorem dX5_hasPair_19 : decode cX5_hasPair 19 = .ok (.iconst 1, 1) := by decide +kernel
theorem dX5_hasPair_20 : decode cX5_hasPair 20 = .ok (.isub, 1) := by decide +kernel
theorem dX5_hasPair_21 : decode cX5_hasPair 21 = .ok (.if_icmp .ge 7, 3) := by decide +kernel
theorem dX5_hasPair_24 : decode cX5_hasPair 24 = .ok (.iconst 1, 1) := by decide +kernel
theorem dX5_hasPair_25 : decode cX5_hasPair 25 = .ok (.goto 4, 3) := by decide +kernel
theorem dX5_hasPair_28 : decode cX5_hasPair 28 = .ok (.iconst 0, 1) := by decide +kernel
theorem dX5_hasPair_29 : decode cX5_hasPair 29 = .ok (.ireturn, 1) := by decide +kernel
theorem dX5_everyone_0 : decode cX5_everyone 0 = .ok (.iconst 1, 1) := by decide +kernel
theorem dX5_everyone_1 : decode cX5_everyone 1 = .ok (.aload_n 0, 1) := by decide +kernel
theorem dX5_everyone_2 : decode cX5_everyone 2 = .ok (.getfield 31, 3) := by decide +kernel
theorem dX5_everyone_5 : decode cX5_everyone 5 = .ok (.ishl, 1) := by decide +kernel
theorem dX5_everyone_6 : decode cX5_everyone 6 = .ok (.iconst 1, 1) := by decide +kernel
theorem dX5_everyone_7 : decode cX5_everyone 7 = .ok (.isub, 1) := by decide +kernel
theorem dX5_everyone_8 : decode cX5_everyone 8 = .ok (.ireturn, 1) := by decide +kernel
theorem dX5_tasks_0 : decode cX5_tasks 0 = .ok (.iconst 0, 1) := by decide +kernel
theorem dX5_tasks_1 : decode cX5_tasks 1 = .ok (.istore_n 1, 1) := by decide +kernel
theorem dX5_tasks_2 : decode cX5_tasks 2 = .ok (.iconst 0, 1) := by decide +kernel
theorem dX5_tasks_3 : decode cX5_tasks 3 = .ok (.istore_n 2, 1) := by decide +kernel
theorem dX5_tasks_4 : decode cX5_tasks 4 = .ok (.iload_n 2, 1) := by decide +kernel
theorem dX5_tasks_5 : decode cX5_tasks 5 = .ok (.aload_n 0, 1) := by decide +kernel
theorem dX5_tasks_6 : decode cX5_tasks 6 = .ok (.getfield 31, 3) := by decide +kernel
theorem dX5_tasks_9 : decode cX5_tasks 9 = .ok (.if_icmp .ge 24, 3) := by decide +kernel
theorem dX5_tasks_12 : decode cX5_tasks 12 = .ok (.aload_n 0, 1) := by decide +kernel
theorem dX5_tasks_13 : decode cX5_tasks 13 = .ok (.getfield 15, 3) := by decide +kernel
theorem dX5_tasks_16 : decode cX5_tasks 16 = .ok (.iload_n 2, 1) := by decide +kernel
theorem dX5_tasks_17 : decode cX5_tasks 17 = .ok (.iaload, 1) := by decide +kernel
theorem dX5_tasks_18 : decode cX5_tasks 18 = .ok (.ifCond .ne 9, 3) := by decide +kernel
theorem dX5_tasks_21 : decode cX5_tasks 21 = .ok (.iload_n 1, 1) := by decide +kernel
theorem dX5_tasks_22 : decode cX5_tasks 22 = .ok (.iconst 1, 1) := by decide +kernel
theorem dX5_tasks_23 : decode cX5_tasks 23 = .ok (.iload_n 2, 1) := by decide +kernel
theorem dX5_tasks_24 : decode cX5_tasks 24 = .ok (.ishl, 1) := by decide +kernel
theorem dX5_tasks_25 : decode cX5_tasks 25 = .ok (.ior, 1) := by decide +kernel
theorem dX5_tasks_26 : decode cX5_tasks 26 = .ok (.istore_n 1, 1) := by decide +kernel
theorem dX5_tasks_27 : decode cX5_tasks 27 = .ok (.iinc 2 1, 3) := by decide +kernel
theorem dX5_tasks_30 : decode cX5_tasks 30 = .ok (.goto (-26), 3) := by decide +kernel
theorem dX5_tasks_33 : decode cX5_tasks 33 = .ok (.iload_n 1, 1) := by decide +kernel
theorem dX5_tasks_34 : decode cX5_tasks 34 = .ok (.ireturn, 1) := by decide +kernel
theorem dX5_isSet_0 : decode cX5_isSet 0 = .ok (.iload_n 1, 1) := by decide +kernel
theorem dX5_isSet_1 : decode cX5_isSet 1 = .ok (.ifCond .le 24, 3) := by decide +kernel
theorem dX5_isSet_4 : decode cX5_isSet 4 = .ok (.iload_n 1, 1) := by decide +kernel
theorem dX5_isSet_5 : decode cX5_isSet 5 = .ok (.aload_n 0, 1) := by decide +kernel
theorem dX5_isSet_6 : decode cX5_isSet 6 = .ok (.invokevirtual 44, 3) := by decide +kernel
theorem dX5_isSet_9 : decode cX5_isSet 9 = .ok (.if_icmp .gt 16, 3) := by decide +kernel
theorem dX5_isSet_12 : decode cX5_isSet 12 = .ok (.iload_n 1, 1) := by decide +kernel
theorem dX5_isSet_13 : decode cX5_isSet 13 = .ok (.aload_n 0, 1) := by decide +kernel
theorem dX5_isSet_14 : decode cX5_isSet 14 = .ok (.invokevirtual 48, 3) := by decide +kernel
theorem dX5_isSet_17 : decode cX5_isSet 17 = .ok (.iand, 1) := by decide +kernel
theorem dX5_isSet_18 : decode cX5_isSet 18 = .ok (.ifCond .eq 7, 3) := by decide +kernel
theorem dX5_isSet_21 : decode cX5_isSet 21 = .ok (.iconst 1, 1) := by decide +kernel
theorem dX5_isSet_22 : decode cX5_isSet 22 = .ok (.goto 4, 3) := by decide +kernel
theorem dX5_isSet_25 : decode cX5_isSet 25 = .ok (.iconst 0, 1) := by decide +kernel
theorem dX5_isSet_26 : decode cX5_isSet 26 = .ok (.ireturn, 1) := by decide +kernel
theorem dX5_locksOfKinds_0 : decode cX5_locksOfKinds 0 = .ok (.iconst 0, 1) := by decide +kernel
theorem dX5_locksOfKinds_1 : decode cX5_locksOfKinds 1 = .ok (.istore_n 3, 1) := by decide +kernel
theorem dX5_locksOfKinds_2 : decode cX5_locksOfKinds 2 = .ok (.iconst 0, 1) := by decide +kernel
theorem dX5_locksOfKinds_3 : decode cX5_locksOfKinds 3 = .ok (.istore 4, 2) := by decide +kernel
theorem dX5_locksOfKinds_5 : decode cX5_locksOfKinds 5 = .ok (.iload 4, 2) := by decide +kernel
theorem dX5_locksOfKinds_7 : decode cX5_locksOfKinds 7 = .ok (.aload_n 0, 1) := by decide +kernel
theorem dX5_locksOfKinds_8 : decode cX5_locksOfKinds 8 = .ok (.getfield 28, 3) := by decide +kernel
theorem dX5_locksOfKinds_11 : decode cX5_locksOfKinds 11 = .ok (.if_icmp .ge 39, 3) := by decide +kernel
theorem dX5_locksOfKinds_14 : decode cX5_locksOfKinds 14 = .ok (.iload_n 1, 1) := by decide +kernel
theorem dX5_locksOfKinds_15 : decode cX5_locksOfKinds 15 = .ok (.iload 4, 2) := by decide +kernel
theorem dX5_locksOfKinds_17 : decode cX5_locksOfKinds 17 = .ok (.invokestatic 51, 3) := by decide +kernel
theorem dX5_locksOfKinds_20 : decode cX5_locksOfKinds 20 = .ok (.ifCond .eq 24, 3) := by decide +kernel
theorem dX5_locksOfKinds_23 : decode cX5_locksOfKinds 23 = .ok (.iload_n 2, 1) := by decide +kernel
theorem dX5_locksOfKinds_24 : decode cX5_locksOfKinds 24 = .ok (.aload_n 0, 1) := by decide +kernel
theorem dX5_locksOfKinds_25 : decode cX5_locksOfKinds 25 = .ok (.getfield 9, 3) := by decide +kernel
theorem dX5_locksOfKinds_28 : decode cX5_locksOfKinds 28 = .ok (.iload 4, 2) := by decide +kernel
theorem dX5_locksOfKinds_30 : decode cX5_locksOfKinds 30 = .ok (.iaload, 1) := by decide +kernel
theorem dX5_locksOfKinds_31 : decode cX5_locksOfKinds 31 = .ok (.invokestatic 51, 3) := by decide +kernel
theorem dX5_locksOfKinds_34 : decode cX5_locksOfKinds 34 = .ok (.ifCond .eq 10, 3) := by decide +kernel
theorem dX5_locksOfKinds_37 : decode cX5_locksOfKinds 37 = .ok (.iload_n 3, 1) := by decide +kernel
theorem dX5_locksOfKinds_38 : decode cX5_locksOfKinds 38 = .ok (.iconst 1, 1) := by decide +kernel
theorem dX5_locksOfKinds_39 : decode cX5_locksOfKinds 39 = .ok (.iload 4, 2) := by decide +kernel
theorem dX5_locksOfKinds_41 : decode cX5_locksOfKinds 41 = .ok (.ishl, 1) := by decide +kernel
theorem dX5_locksOfKinds_42 : decode cX5_locksOfKinds 42 = .ok (.ior, 1) := by decide +kernel
theorem dX5_locksOfKinds_43 : decode cX5_locksOfKinds 43 = .ok (.istore_n 3, 1) := by decide +kernel
theorem dX5_locksOfKinds_44 : decode cX5_locksOfKinds 44 = .ok (.iinc 4 1, 3) := by decide +kernel
theorem dX5_locksOfKinds_47 : decode cX5_locksOfKinds 47 = .ok (.goto (-42), 3) := by decide +kernel
theorem dX5_locksOfKinds_50 : decode cX5_locksOfKinds 50 = .ok (.iload_n 3, 1) := by decide +kernel
theorem dX5_locksOfKinds_51 : decode cX5_locksOfKinds 51 = .ok (.ireturn, 1) := by decide +kernel
theorem dX6_init_0 : decode cX6_init 0 = .ok (.aload_n 0, 1) := by decide +kernel
theorem dX6_init_1 : decode cX6_init 1 = .ok (.invokespecial 3, 3) := by decide +kernel
theorem dX6_init_4 : decode cX6_init 4 = .ok (.aload_n 0, 1) := by decide +kernel
theorem dX6_init_5 : decode cX6_init 5 = .ok (.iconst (-1), 1) := by decide +kernel
theorem dX6_init_6 : decode cX6_init 6 = .ok (.putfield 9, 3) := by decide +kernel
theorem dX6_init_9 : decode cX6_init 9 = .ok (.aload_n 0, 1) := by decide +kernel
theorem dX6_init_10 : decode cX6_init 10 = .ok (.iconst 0, 1) := by decide +kernel
theorem dX6_init_11 : decode cX6_init 11 = .ok (.newarray .byte, 2) := by decide +kernel
theorem dX6_init_13 : decode cX6_init 13 = .ok (.putfield 15, 3) := by decide +kernel
theorem dX6_init_16 : decode cX6_init 16 = .ok (.aload_n 0, 1) := by decide +kernel
theorem dX6_init_17 : decode cX6_init 17 = .ok (.bipush 24, 2) := by decide +kernel
theorem dX6_init_19 : decode cX6_init 19 = .ok (.newarray .int, 2) := by decide +kernel
theorem dX6_init_21 : decode cX6_init 21 = .ok (.putfield 19, 3) := by decide +kernel
theorem dX6_init_24 : decode cX6_init 24 = .ok (.aload_n 0, 1) := by decide +kernel
theorem dX6_init_25 : decode cX6_init 25 = .ok (.bipush 24, 2) := by decide +kernel
theorem dX6_init_27 : decode cX6_init 27 = .ok (.newarray .int, 2) := by decide +kernel
theorem dX6_init_29 : decode cX6_init 29 = .ok (.putfield 23, 3) := by decide +kernel
theorem dX6_init_32 : decode cX6_init 32 = .ok (.aload_n 0, 1) := by decide +kernel
theorem dX6_init_33 : decode cX6_init 33 = .ok (.bipush 24, 2) := by decide +kernel
theorem dX6_init_35 : decode cX6_init 35 = .ok (.newarray .int, 2) := by decide +kernel
theorem dX6_init_37 : decode cX6_init 37 = .ok (.putfield 26, 3) := by decide +kernel
theorem dX6_init_40 : decode cX6_init 40 = .ok (.aload_n 0, 1) := by decide +kernel
theorem dX6_init_41 : decode cX6_init 41 = .ok (.bipush 24, 2) := by decide +kernel
theorem dX6_init_43 : decode cX6_init 43 = .ok (.newarray .int, 2) := by decide +kernel
theorem dX6_init_45 : decode cX6_init 45 = .ok (.putfield 29, 3) := by decide +kernel
theorem dX6_init_48 : decode cX6_init 48 = .ok (.return_, 1) := by decide +kernel
theorem dX6_read_0 : decode cX6_read 0 = .ok (.aload_n 0, 1) := by decide +kernel
theorem dX6_read_1 : decode cX6_read 1 = .ok (.aload_n 1, 1) := by decide +kernel
theorem dX6_read_2 : decode cX6_read 2 = .ok (.putfield 15, 3) := by decide +kernel
theorem dX6_read_5 : decode cX6_read 5 = .ok (.aload_n 0, 1) := by decide +kernel
theorem dX6_read_6 : decode cX6_read 6 = .ok (.iload_n 2, 1) := by decide +kernel
theorem dX6_read_7 : decode cX6_read 7 = .ok (.aload_n 1, 1) := by decide +kernel
theorem dX6_read_8 : decode cX6_read 8 = .ok (.arraylength, 1) := by decide +kernel
theorem dX6_read_9 : decode cX6_read 9 = .ok (.invokestatic 32, 3) := by decide +kernel
theorem dX6_read_12 : decode cX6_read 12 = .ok (.putfield 38, 3) := by decide +kernel
theorem dX6_read_15 : decode cX6_read 15 = .ok (.aload_n 0, 1) := by decide +kernel
theorem dX6_read_16 : decode cX6_read 16 = .ok (.aload_n 3, 1) := by decide +kernel
theorem dX6_read_17 : decode cX6_read 17 = .ok (.putfield 41, 3) := by decide +kernel
theorem dX6_read_20 : decode cX6_read 20 = .ok (.aload_n 0, 1) := by decide +kernel
theorem dX6_read_21 : decode cX6_read 21 = .ok (.getfield 41, 3) := by decide +kernel
theorem dX6_read_24 : decode cX6_read 24 = .ok (.invokevirtual 45, 3) := by decide +kernel
theorem dX6_read_27 : decode cX6_read 27 = .ok (.aload_n 0, 1) := by decide +kernel
theorem dX6_read_28 : decode cX6_read 28 = .ok (.iconst 0, 1) := by decide +kernel
theorem dX6_read_29 : decode cX6_read 29 = .ok (.putfield 50, 3) := by decide +kernel
theorem dX6_read_32 : decode cX6_read 32 = .ok (.aload_n 0, 1) := by decide +kernel
theorem dX6_read_33 : decode cX6_read 33 = .ok (.iconst (-1), 1) := by decide +kernel
theorem dX6_read_34 : decode cX6_read 34 = .ok (.putfield 9, 3) := by decide +kernel
theorem dX6_read_37 : decode cX6_read 37 = .ok (.aload_n 0, 1) := by decide +kernel
theorem dX6_read_38 : decode cX6_read 38 = .ok (.iconst 0, 1) := by decide +kernel
theorem dX6_read_39 : decode cX6_read 39 = .ok (.putfield 53, 3) := by decide +kernel
theorem dX6_read_42 : decode cX6_read 42 = .ok (.aload_n 0, 1) := by decide +kernel
theorem dX6_read_43 : decode cX6_read 43 = .ok (.iconst 0, 1) := by decide +kernel
theorem dX6_read_44 : decode cX6_read 44 = .ok (.putfield 56, 3) := by decide +kernel
theorem dX6_read_47 : decode cX6_read 47 = .ok (.aload_n 0, 1) := by decide +kernel
theorem dX6_read_48 : decode cX6_read 48 = .ok (.invokevirtual 59, 3) := by decide +kernel
theorem dX6_read_51 : decode cX6_read 51 = .ok (.iconst 0, 1) := by decide +kernel
theorem dX6_read_52 : decode cX6_read 52 = .ok (.istore 4, 2) := by decide +kernel
theorem dX6_read_54 : decode cX6_read 54 = .ok (.iload 4, 2) := by decide +kernel
theorem dX6_read_56 : decode cX6_read 56 = .ok (.aload_n 0, 1) := by decide +kernel
theorem dX6_read_57 : decode cX6_read 57 = .ok (.getfield 38, 3) := by decide +kernel
theorem dX6_read_60 : decode cX6_read 60 = .ok (.if_icmp .gt 87, 3) := by decide +kernel
theorem dX6_read_63 : decode cX6_read 63 = .ok (.aload_n 0, 1) := by decide +kernel
theorem dX6_read_64 : decode cX6_read 64 = .ok (.getfield 50, 3) := by decide +kernel
theorem dX6_read_67 : decode cX6_read 67 = .ok (.ifCond .ne 80, 3) := by decide +kernel
theorem dX6_read_70 : decode cX6_read 70 = .ok (.aload_n 0, 1) := by decide +kernel
theorem dX6_read_71 : decode cX6_read 71 = .ok (.getfield 62, 3) := by decide +kernel
theorem dX6_read_74 : decode cX6_read 74 = .ok (.bipush 17, 2) := by decide +kernel
theorem dX6_read_76 : decode cX6_read 76 = .ok (.if_icmp .eq 71, 3) := by decide +kernel
theorem dX6_read_79 : decode cX6_read 79 = .ok (.aload_n 0, 1) := by decide +kernel
theorem dX6_read_80 : decode cX6_read 80 = .ok (.getfield 62, 3) := by decide +kernel
theorem dX6_read_83 : decode cX6_read 83 = .ok (.bipush 9, 2) := by decide +kernel
theorem dX6_read_85 : decode cX6_read 85 = .ok (.if_icmp .ne 10, 3) := by decide +kernel
theorem dX6_read_88 : decode cX6_read 88 = .ok (.aload_n 0, 1) := by decide +kernel
theorem dX6_read_89 : decode cX6_read 89 = .ok (.invokevirtual 65, 3) := by decide +kernel
theorem dX6_read_92 : decode cX6_read 92 = .ok (.goto 49, 3) := by decide +kernel
theorem dX6_read_95 : decode cX6_read 95 = .ok (.aload_n 0, 1) := by decide +kernel
theorem dX6_read_96 : decode cX6_read 96 = .ok (.getfield 62, 3) := by decide +kernel
theorem dX6_read_99 : decode cX6_read 99 = .ok (.bipush 10, 2) := by decide +kernel
theorem dX6_read_101 : decode cX6_read 101 = .ok (.if_icmp .ne 10, 3) := by decide +kernel
theorem dX6_read_104 : decode cX6_read 104 = .ok (.aload_n 0, 1) := by decide +kernel
theorem dX6_read_105 : decode cX6_read 105 = .ok (.invokevirtual 68, 3) := by decide +kernel
