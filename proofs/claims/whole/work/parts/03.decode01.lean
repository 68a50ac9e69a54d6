theorem dX6_read_108 : decode cX6_read 108 = .ok (.goto 33, 3) := by decide +kernel
theorem dX6_read_111 : decode cX6_read 111 = .ok (.aload_n 0, 1) := by decide +kernel
theorem dX6_read_112 : decode cX6_read 112 = .ok (.getfield 62, 3) := by decide +kernel
theorem dX6_read_115 : decode cX6_read 115 = .ok (.bipush 12, 2) := by decide +kernel
theorem dX6_read_117 : decode cX6_read 117 = .ok (.if_icmp .lt 19, 3) := by decide +kernel
theorem dX6_read_120 : decode cX6_read 120 = .ok (.aload_n 0, 1) := by decide +kernel
theorem dX6_read_121 : decode cX6_read 121 = .ok (.getfield 62, 3) := by decide +kernel
theorem dX6_read_124 : decode cX6_read 124 = .ok (.bipush 14, 2) := by decide +kernel
theorem dX6_read_126 : decode cX6_read 126 = .ok (.if_icmp .gt 10, 3) := by decide +kernel
theorem dX6_read_129 : decode cX6_read 129 = .ok (.aload_n 0, 1) := by decide +kernel
theorem dX6_read_130 : decode cX6_read 130 = .ok (.invokevirtual 71, 3) := by decide +kernel
theorem dX6_read_133 : decode cX6_read 133 = .ok (.goto 8, 3) := by decide +kernel
theorem dX6_read_136 : decode cX6_read 136 = .ok (.aload_n 0, 1) := by decide +kernel
theorem dX6_read_137 : decode cX6_read 137 = .ok (.iconst 1, 1) := by decide +kernel
theorem dX6_read_138 : decode cX6_read 138 = .ok (.invokevirtual 74, 3) := by decide +kernel
theorem dX6_read_141 : decode cX6_read 141 = .ok (.iinc 4 1, 3) := by decide +kernel
theorem dX6_read_144 : decode cX6_read 144 = .ok (.goto (-90), 3) := by decide +kernel
theorem dX6_read_147 : decode cX6_read 147 = .ok (.return_, 1) := by decide +kernel
theorem dX6_readKind_0 : decode cX6_readKind 0 = .ok (.aload_n 0, 1) := by decide +kernel
theorem dX6_readKind_1 : decode cX6_readKind 1 = .ok (.getfield 41, 3) := by decide +kernel
theorem dX6_readKind_4 : decode cX6_readKind 4 = .ok (.getfield 78, 3) := by decide +kernel
theorem dX6_readKind_7 : decode cX6_readKind 7 = .ok (.bipush 8, 2) := by decide +kernel
theorem dX6_readKind_9 : decode cX6_readKind 9 = .ok (.if_icmp .ne 9, 3) := by decide +kernel
theorem dX6_readKind_12 : decode cX6_readKind 12 = .ok (.aload_n 0, 1) := by decide +kernel
theorem dX6_readKind_13 : decode cX6_readKind 13 = .ok (.iconst 4, 1) := by decide +kernel
theorem dX6_readKind_14 : decode cX6_readKind 14 = .ok (.invokevirtual 74, 3) := by decide +kernel
theorem dX6_readKind_17 : decode cX6_readKind 17 = .ok (.return_, 1) := by decide +kernel
theorem dX6_readKind_18 : decode cX6_readKind 18 = .ok (.aload_n 0, 1) := by decide +kernel
theorem dX6_readKind_19 : decode cX6_readKind 19 = .ok (.invokevirtual 59, 3) := by decide +kernel
theorem dX6_readKind_22 : decode cX6_readKind 22 = .ok (.aload_n 0, 1) := by decide +kernel
theorem dX6_readKind_23 : decode cX6_readKind 23 = .ok (.iconst 0, 1) := by decide +kernel
theorem dX6_readKind_24 : decode cX6_readKind 24 = .ok (.aload_n 0, 1) := by decide +kernel
theorem dX6_readKind_25 : decode cX6_readKind 25 = .ok (.getfield 41, 3) := by decide +kernel
theorem dX6_readKind_28 : decode cX6_readKind 28 = .ok (.getfield 78, 3) := by decide +kernel
theorem dX6_readKind_31 : decode cX6_readKind 31 = .ok (.invokevirtual 81, 3) := by decide +kernel
theorem dX6_readKind_34 : decode cX6_readKind 34 = .ok (.ifCond .eq 23, 3) := by decide +kernel
theorem dX6_readKind_37 : decode cX6_readKind 37 = .ok (.aload_n 0, 1) := by decide +kernel
theorem dX6_readKind_38 : decode cX6_readKind 38 = .ok (.getfield 41, 3) := by decide +kernel
theorem dX6_readKind_41 : decode cX6_readKind 41 = .ok (.dup, 1) := by decide +kernel
theorem dX6_readKind_42 : decode cX6_readKind 42 = .ok (.getfield 78, 3) := by decide +kernel
theorem dX6_readKind_45 : decode cX6_readKind 45 = .ok (.iconst 1, 1) := by decide +kernel
theorem dX6_readKind_46 : decode cX6_readKind 46 = .ok (.iadd, 1) := by decide +kernel
theorem dX6_readKind_47 : decode cX6_readKind 47 = .ok (.putfield 78, 3) := by decide +kernel
theorem dX6_readKind_50 : decode cX6_readKind 50 = .ok (.aload_n 0, 1) := by decide +kernel
theorem dX6_readKind_51 : decode cX6_readKind 51 = .ok (.bipush 16, 2) := by decide +kernel
theorem dX6_readKind_53 : decode cX6_readKind 53 = .ok (.invokevirtual 85, 3) := by decide +kernel
theorem dX6_readKind_56 : decode cX6_readKind 56 = .ok (.pop, 1) := by decide +kernel
theorem dX6_readKind_57 : decode cX6_readKind 57 = .ok (.return_, 1) := by decide +kernel
theorem dX6_readLock_0 : decode cX6_readLock 0 = .ok (.aload_n 0, 1) := by decide +kernel
theorem dX6_readLock_1 : decode cX6_readLock 1 = .ok (.getfield 41, 3) := by decide +kernel
theorem dX6_readLock_4 : decode cX6_readLock 4 = .ok (.getfield 89, 3) := by decide +kernel
theorem dX6_readLock_7 : decode cX6_readLock 7 = .ok (.bipush 10, 2) := by decide +kernel
theorem dX6_readLock_9 : decode cX6_readLock 9 = .ok (.if_icmp .ne 9, 3) := by decide +kernel
theorem dX6_readLock_12 : decode cX6_readLock 12 = .ok (.aload_n 0, 1) := by decide +kernel
theorem dX6_readLock_13 : decode cX6_readLock 13 = .ok (.iconst 4, 1) := by decide +kernel
theorem dX6_readLock_14 : decode cX6_readLock 14 = .ok (.invokevirtual 74, 3) := by decide +kernel
theorem dX6_readLock_17 : decode cX6_readLock 17 = .ok (.return_, 1) := by decide +kernel
theorem dX6_readLock_18 : decode cX6_readLock 18 = .ok (.aload_n 0, 1) := by decide +kernel
theorem dX6_readLock_19 : decode cX6_readLock 19 = .ok (.invokevirtual 59, 3) := by decide +kernel
theorem dX6_readLock_22 : decode cX6_readLock 22 = .ok (.aload_n 0, 1) := by decide +kernel
theorem dX6_readLock_23 : decode cX6_readLock 23 = .ok (.iconst 1, 1) := by decide +kernel
theorem dX6_readLock_24 : decode cX6_readLock 24 = .ok (.aload_n 0, 1) := by decide +kernel
theorem dX6_readLock_25 : decode cX6_readLock 25 = .ok (.getfield 41, 3) := by decide +kernel
theorem dX6_readLock_28 : decode cX6_readLock 28 = .ok (.getfield 89, 3) := by decide +kernel
theorem dX6_readLock_31 : decode cX6_readLock 31 = .ok (.invokevirtual 81, 3) := by decide +kernel
theorem dX6_readLock_34 : decode cX6_readLock 34 = .ok (.ifCond .eq 12, 3) := by decide +kernel
theorem dX6_readLock_37 : decode cX6_readLock 37 = .ok (.aload_n 0, 1) := by decide +kernel
theorem dX6_readLock_38 : decode cX6_readLock 38 = .ok (.bipush 11, 2) := by decide +kernel
theorem dX6_readLock_40 : decode cX6_readLock 40 = .ok (.invokevirtual 85, 3) := by decide +kernel
theorem dX6_readLock_43 : decode cX6_readLock 43 = .ok (.ifCond .ne 4, 3) := by decide +kernel
theorem dX6_readLock_46 : decode cX6_readLock 46 = .ok (.return_, 1) := by decide +kernel
theorem dX6_readLock_47 : decode cX6_readLock 47 = .ok (.aload_n 0, 1) := by decide +kernel
theorem dX6_readLock_48 : decode cX6_readLock 48 = .ok (.iconst 0, 1) := by decide +kernel
theorem dX6_readLock_49 : decode cX6_readLock 49 = .ok (.invokevirtual 92, 3) := by decide +kernel
theorem dX6_readLock_52 : decode cX6_readLock 52 = .ok (.istore_n 1, 1) := by decide +kernel
theorem dX6_readLock_53 : decode cX6_readLock 53 = .ok (.iload_n 1, 1) := by decide +kernel
theorem dX6_readLock_54 : decode cX6_readLock 54 = .ok (.iconst (-1), 1) := by decide +kernel
theorem dX6_readLock_55 : decode cX6_readLock 55 = .ok (.if_icmp .eq 39, 3) := by decide +kernel
theorem dX6_readLock_58 : decode cX6_readLock 58 = .ok (.aload_n 0, 1) := by decide +kernel
theorem dX6_readLock_59 : decode cX6_readLock 59 = .ok (.getfield 41, 3) := by decide +kernel
theorem dX6_readLock_62 : decode cX6_readLock 62 = .ok (.getfield 96, 3) := by decide +kernel
theorem dX6_readLock_65 : decode cX6_readLock 65 = .ok (.aload_n 0, 1) := by decide +kernel
theorem dX6_readLock_66 : decode cX6_readLock 66 = .ok (.getfield 41, 3) := by decide +kernel
theorem dX6_readLock_69 : decode cX6_readLock 69 = .ok (.getfield 89, 3) := by decide +kernel
theorem dX6_readLock_72 : decode cX6_readLock 72 = .ok (.iload_n 1, 1) := by decide +kernel
theorem dX6_readLock_73 : decode cX6_readLock 73 = .ok (.iastore, 1) := by decide +kernel
theorem dX6_readLock_74 : decode cX6_readLock 74 = .ok (.aload_n 0, 1) := by decide +kernel
theorem dX6_readLock_75 : decode cX6_readLock 75 = .ok (.getfield 41, 3) := by decide +kernel
theorem dX6_readLock_78 : decode cX6_readLock 78 = .ok (.dup, 1) := by decide +kernel
theorem dX6_readLock_79 : decode cX6_readLock 79 = .ok (.getfield 89, 3) := by decide +kernel
theorem dX6_readLock_82 : decode cX6_readLock 82 = .ok (.iconst 1, 1) := by decide +kernel
theorem dX6_readLock_83 : decode cX6_readLock 83 = .ok (.iadd, 1) := by decide +kernel
theorem dX6_readLock_84 : decode cX6_readLock 84 = .ok (.putfield 89, 3) := by decide +kernel
theorem dX6_readLock_87 : decode cX6_readLock 87 = .ok (.aload_n 0, 1) := by decide +kernel
theorem dX6_readLock_88 : decode cX6_readLock 88 = .ok (.bipush 16, 2) := by decide +kernel
theorem dX6_readLock_90 : decode cX6_readLock 90 = .ok (.invokevirtual 85, 3) := by decide +kernel
theorem dX6_readLock_93 : decode cX6_readLock 93 = .ok (.pop, 1) := by decide +kernel
theorem dX6_readLock_94 : decode cX6_readLock 94 = .ok (.return_, 1) := by decide +kernel
theorem dX6_readProgram_0 : decode cX6_readProgram 0 = .ok (.aload_n 0, 1) := by decide +kernel
theorem dX6_readProgram_1 : decode cX6_readProgram 1 = .ok (.getfield 41, 3) := by decide +kernel
theorem dX6_readProgram_4 : decode cX6_readProgram 4 = .ok (.getfield 99, 3) := by decide +kernel
theorem dX6_readProgram_7 : decode cX6_readProgram 7 = .ok (.bipush 6, 2) := by decide +kernel
theorem dX6_readProgram_9 : decode cX6_readProgram 9 = .ok (.if_icmp .ne 9, 3) := by decide +kernel
theorem dX6_readProgram_12 : decode cX6_readProgram 12 = .ok (.aload_n 0, 1) := by decide +kernel
theorem dX6_readProgram_13 : decode cX6_readProgram 13 = .ok (.iconst 4, 1) := by decide +kernel
theorem dX6_readProgram_14 : decode cX6_readProgram 14 = .ok (.invokevirtual 74, 3) := by decide +kernel
theorem dX6_readProgram_17 : decode cX6_readProgram 17 = .ok (.return_, 1) := by decide +kernel
theorem dX6_readProgram_18 : decode cX6_readProgram 18 = .ok (.aload_n 0, 1) := by decide +kernel
theorem dX6_readProgram_19 : decode cX6_readProgram 19 = .ok (.getfield 41, 3) := by decide +kernel
theorem dX6_readProgram_22 : decode cX6_readProgram 22 = .ok (.getfield 99, 3) := by decide +kernel
theorem dX6_readProgram_25 : decode cX6_readProgram 25 = .ok (.istore_n 1, 1) := by decide +kernel
theorem dX6_readProgram_26 : decode cX6_readProgram 26 = .ok (.aload_n 0, 1) := by decide +kernel
theorem dX6_readProgram_27 : decode cX6_readProgram 27 = .ok (.getfield 41, 3) := by decide +kernel
theorem dX6_readProgram_30 : decode cX6_readProgram 30 = .ok (.getfield 102, 3) := by decide +kernel
theorem dX6_readProgram_33 : decode cX6_readProgram 33 = .ok (.iload_n 1, 1) := by decide +kernel
theorem dX6_readProgram_34 : decode cX6_readProgram 34 = .ok (.aload_n 0, 1) := by decide +kernel
theorem dX6_readProgram_35 : decode cX6_readProgram 35 = .ok (.getfield 62, 3) := by decide +kernel
theorem dX6_readProgram_38 : decode cX6_readProgram 38 = .ok (.bipush 12, 2) := by decide +kernel
theorem dX6_readProgram_40 : decode cX6_readProgram 40 = .ok (.isub, 1) := by decide +kernel
theorem dX6_readProgram_41 : decode cX6_readProgram 41 = .ok (.iastore, 1) := by decide +kernel
theorem dX6_readProgram_42 : decode cX6_readProgram 42 = .ok (.aload_n 0, 1) := by decide +kernel
theorem dX6_readProgram_43 : decode cX6_readProgram 43 = .ok (.invokevirtual 59, 3) := by decide +kernel
theorem dX6_readProgram_46 : decode cX6_readProgram 46 = .ok (.aload_n 0, 1) := by decide +kernel
theorem dX6_readProgram_47 : decode cX6_readProgram 47 = .ok (.iconst 2, 1) := by decide +kernel
theorem dX6_readProgram_48 : decode cX6_readProgram 48 = .ok (.iload_n 1, 1) := by decide +kernel
theorem dX6_readProgram_49 : decode cX6_readProgram 49 = .ok (.invokevirtual 81, 3) := by decide +kernel
theorem dX6_readProgram_52 : decode cX6_readProgram 52 = .ok (.ifCond .ne 4, 3) := by decide +kernel
theorem dX6_readProgram_55 : decode cX6_readProgram 55 = .ok (.return_, 1) := by decide +kernel
theorem dX6_readProgram_56 : decode cX6_readProgram 56 = .ok (.aload_n 0, 1) := by decide +kernel
theorem dX6_readProgram_57 : decode cX6_readProgram 57 = .ok (.iload_n 1, 1) := by decide +kernel
theorem dX6_readProgram_58 : decode cX6_readProgram 58 = .ok (.invokevirtual 105, 3) := by decide +kernel
theorem dX6_readProgram_61 : decode cX6_readProgram 61 = .ok (.iconst 0, 1) := by decide +kernel
theorem dX6_readProgram_62 : decode cX6_readProgram 62 = .ok (.istore_n 2, 1) := by decide +kernel
theorem dX6_readProgram_63 : decode cX6_readProgram 63 = .ok (.iload_n 2, 1) := by decide +kernel
theorem dX6_readProgram_64 : decode cX6_readProgram 64 = .ok (.bipush 12, 2) := by decide +kernel
theorem dX6_readProgram_66 : decode cX6_readProgram 66 = .ok (.if_icmp .gt 30, 3) := by decide +kernel
theorem dX6_readProgram_69 : decode cX6_readProgram 69 = .ok (.aload_n 0, 1) := by decide +kernel
theorem dX6_readProgram_70 : decode cX6_readProgram 70 = .ok (.getfield 50, 3) := by decide +kernel
theorem dX6_readProgram_73 : decode cX6_readProgram 73 = .ok (.ifCond .ne 23, 3) := by decide +kernel
theorem dX6_readProgram_76 : decode cX6_readProgram 76 = .ok (.aload_n 0, 1) := by decide +kernel
theorem dX6_readProgram_77 : decode cX6_readProgram 77 = .ok (.getfield 62, 3) := by decide +kernel
theorem dX6_readProgram_80 : decode cX6_readProgram 80 = .ok (.bipush 16, 2) := by decide +kernel
theorem dX6_readProgram_82 : decode cX6_readProgram 82 = .ok (.if_icmp .eq 14, 3) := by decide +kernel
theorem dX6_readProgram_85 : decode cX6_readProgram 85 = .ok (.aload_n 0, 1) := by decide +kernel
theorem dX6_readProgram_86 : decode cX6_readProgram 86 = .ok (.iload_n 1, 1) := by decide +kernel
theorem dX6_readProgram_87 : decode cX6_readProgram 87 = .ok (.invokevirtual 105, 3) := by decide +kernel
theorem dX6_readProgram_90 : decode cX6_readProgram 90 = .ok (.iinc 2 1, 3) := by decide +kernel
theorem dX6_readProgram_93 : decode cX6_readProgram 93 = .ok (.goto (-30), 3) := by decide +kernel
theorem dX6_readProgram_96 : decode cX6_readProgram 96 = .ok (.aload_n 0, 1) := by decide +kernel
theorem dX6_readProgram_97 : decode cX6_readProgram 97 = .ok (.getfield 50, 3) := by decide +kernel
theorem dX6_readProgram_100 : decode cX6_readProgram 100 = .ok (.ifCond .ne 23, 3) := by decide +kernel
theorem dX6_readProgram_103 : decode cX6_readProgram 103 = .ok (.aload_n 0, 1) := by decide +kernel
theorem dX6_readProgram_104 : decode cX6_readProgram 104 = .ok (.getfield 41, 3) := by decide +kernel
theorem dX6_readProgram_107 : decode cX6_readProgram 107 = .ok (.dup, 1) := by decide +kernel
theorem dX6_readProgram_108 : decode cX6_readProgram 108 = .ok (.getfield 99, 3) := by decide +kernel
theorem dX6_readProgram_111 : decode cX6_readProgram 111 = .ok (.iconst 1, 1) := by decide +kernel
theorem dX6_readProgram_112 : decode cX6_readProgram 112 = .ok (.iadd, 1) := by decide +kernel
theorem dX6_readProgram_113 : decode cX6_readProgram 113 = .ok (.putfield 99, 3) := by decide +kernel
theorem dX6_readProgram_116 : decode cX6_readProgram 116 = .ok (.aload_n 0, 1) := by decide +kernel
theorem dX6_readProgram_117 : decode cX6_readProgram 117 = .ok (.bipush 16, 2) := by decide +kernel
theorem dX6_readProgram_119 : decode cX6_readProgram 119 = .ok (.invokevirtual 85, 3) := by decide +kernel
theorem dX6_readProgram_122 : decode cX6_readProgram 122 = .ok (.pop, 1) := by decide +kernel
theorem dX6_readProgram_123 : decode cX6_readProgram 123 = .ok (.return_, 1) := by decide +kernel
theorem dX6_readStep_0 : decode cX6_readStep 0 = .ok (.aload_n 0, 1) := by decide +kernel
theorem dX6_readStep_1 : decode cX6_readStep 1 = .ok (.getfield 62, 3) := by decide +kernel
theorem dX6_readStep_4 : decode cX6_readStep 4 = .ok (.bipush 8, 2) := by decide +kernel
theorem dX6_readStep_6 : decode cX6_readStep 6 = .ok (.if_icmp .le 9, 3) := by decide +kernel
theorem dX6_readStep_9 : decode cX6_readStep 9 = .ok (.aload_n 0, 1) := by decide +kernel
theorem dX6_readStep_10 : decode cX6_readStep 10 = .ok (.iconst 1, 1) := by decide +kernel
theorem dX6_readStep_11 : decode cX6_readStep 11 = .ok (.invokevirtual 74, 3) := by decide +kernel
theorem dX6_readStep_14 : decode cX6_readStep 14 = .ok (.return_, 1) := by decide +kernel
theorem dX6_readStep_15 : decode cX6_readStep 15 = .ok (.aload_n 0, 1) := by decide +kernel
theorem dX6_readStep_16 : decode cX6_readStep 16 = .ok (.getfield 41, 3) := by decide +kernel
theorem dX6_readStep_19 : decode cX6_readStep 19 = .ok (.getfield 108, 3) := by decide +kernel
theorem dX6_readStep_22 : decode cX6_readStep 22 = .ok (.iload_n 1, 1) := by decide +kernel
theorem dX6_readStep_23 : decode cX6_readStep 23 = .ok (.iaload, 1) := by decide +kernel
theorem dX6_readStep_24 : decode cX6_readStep 24 = .ok (.bipush 12, 2) := by decide +kernel
theorem dX6_readStep_26 : decode cX6_readStep 26 = .ok (.if_icmp .ne 9, 3) := by decide +kernel
theorem dX6_readStep_29 : decode cX6_readStep 29 = .ok (.aload_n 0, 1) := by decide +kernel
theorem dX6_readStep_30 : decode cX6_readStep 30 = .ok (.iconst 4, 1) := by decide +kernel
theorem dX6_readStep_31 : decode cX6_readStep 31 = .ok (.invokevirtual 74, 3) := by decide +kernel
theorem dX6_readStep_34 : decode cX6_readStep 34 = .ok (.return_, 1) := by decide +kernel
theorem dX6_readStep_35 : decode cX6_readStep 35 = .ok (.aload_n 0, 1) := by decide +kernel
theorem dX6_readStep_36 : decode cX6_readStep 36 = .ok (.getfield 62, 3) := by decide +kernel
theorem dX6_readStep_39 : decode cX6_readStep 39 = .ok (.istore_n 2, 1) := by decide +kernel
theorem dX6_readStep_40 : decode cX6_readStep 40 = .ok (.aload_n 0, 1) := by decide +kernel
theorem dX6_readStep_41 : decode cX6_readStep 41 = .ok (.invokevirtual 59, 3) := by decide +kernel
theorem dX6_readStep_44 : decode cX6_readStep 44 = .ok (.iload_n 2, 1) := by decide +kernel
theorem dX6_readStep_45 : decode cX6_readStep 45 = .ok (.iconst 4, 1) := by decide +kernel
theorem dX6_readStep_46 : decode cX6_readStep 46 = .ok (.if_icmp .gt 11, 3) := by decide +kernel
theorem dX6_readStep_49 : decode cX6_readStep 49 = .ok (.aload_n 0, 1) := by decide +kernel
theorem dX6_readStep_50 : decode cX6_readStep 50 = .ok (.iconst 1, 1) := by decide +kernel
theorem dX6_readStep_51 : decode cX6_readStep 51 = .ok (.invokevirtual 92, 3) := by decide +kernel
theorem dX6_readStep_54 : decode cX6_readStep 54 = .ok (.goto 4, 3) := by decide +kernel
theorem dX6_readStep_57 : decode cX6_readStep 57 = .ok (.iconst 0, 1) := by decide +kernel
theorem dX6_readStep_58 : decode cX6_readStep 58 = .ok (.istore_n 3, 1) := by decide +kernel
theorem dX6_readStep_59 : decode cX6_readStep 59 = .ok (.iload_n 3, 1) := by decide +kernel
theorem dX6_readStep_60 : decode cX6_readStep 60 = .ok (.iconst (-1), 1) := by decide +kernel
theorem dX6_readStep_61 : decode cX6_readStep 61 = .ok (.if_icmp .eq 43, 3) := by decide +kernel
theorem dX6_readStep_64 : decode cX6_readStep 64 = .ok (.aload_n 0, 1) := by decide +kernel
theorem dX6_readStep_65 : decode cX6_readStep 65 = .ok (.getfield 41, 3) := by decide +kernel
theorem dX6_readStep_68 : decode cX6_readStep 68 = .ok (.getfield 111, 3) := by decide +kernel
theorem dX6_readStep_71 : decode cX6_readStep 71 = .ok (.iload_n 1, 1) := by decide +kernel
theorem dX6_readStep_72 : decode cX6_readStep 72 = .ok (.bipush 12, 2) := by decide +kernel
theorem dX6_readStep_74 : decode cX6_readStep 74 = .ok (.imul, 1) := by decide +kernel
theorem dX6_readStep_75 : decode cX6_readStep 75 = .ok (.aload_n 0, 1) := by decide +kernel
theorem dX6_readStep_76 : decode cX6_readStep 76 = .ok (.getfield 41, 3) := by decide +kernel
theorem dX6_readStep_79 : decode cX6_readStep 79 = .ok (.getfield 108, 3) := by decide +kernel
theorem dX6_readStep_82 : decode cX6_readStep 82 = .ok (.iload_n 1, 1) := by decide +kernel
theorem dX6_readStep_83 : decode cX6_readStep 83 = .ok (.iaload, 1) := by decide +kernel
theorem dX6_readStep_84 : decode cX6_readStep 84 = .ok (.iadd, 1) := by decide +kernel
theorem dX6_readStep_85 : decode cX6_readStep 85 = .ok (.iload_n 2, 1) := by decide +kernel
theorem dX6_readStep_86 : decode cX6_readStep 86 = .ok (.iload_n 3, 1) := by decide +kernel
theorem dX6_readStep_87 : decode cX6_readStep 87 = .ok (.invokestatic 114, 3) := by decide +kernel
theorem dX6_readStep_90 : decode cX6_readStep 90 = .ok (.iastore, 1) := by decide +kernel
theorem dX6_readStep_91 : decode cX6_readStep 91 = .ok (.aload_n 0, 1) := by decide +kernel
theorem dX6_readStep_92 : decode cX6_readStep 92 = .ok (.getfield 41, 3) := by decide +kernel
theorem dX6_readStep_95 : decode cX6_readStep 95 = .ok (.getfield 108, 3) := by decide +kernel
theorem dX6_readStep_98 : decode cX6_readStep 98 = .ok (.iload_n 1, 1) := by decide +kernel
theorem dX6_readStep_99 : decode cX6_readStep 99 = .ok (.dup2, 1) := by decide +kernel
theorem dX6_readStep_100 : decode cX6_readStep 100 = .ok (.iaload, 1) := by decide +kernel
theorem dX6_readStep_101 : decode cX6_readStep 101 = .ok (.iconst 1, 1) := by decide +kernel
theorem dX6_readStep_102 : decode cX6_readStep 102 = .ok (.iadd, 1) := by decide +kernel
theorem dX6_readStep_103 : decode cX6_readStep 103 = .ok (.iastore, 1) := by decide +kernel
theorem dX6_readStep_104 : decode cX6_readStep 104 = .ok (.return_, 1) := by decide +kernel
theorem dX6_tellName_0 : decode cX6_tellName 0 = .ok (.aload_n 0, 1) := by decide +kernel
theorem dX6_tellName_1 : decode cX6_tellName 1 = .ok (.getfield 62, 3) := by decide +kernel
theorem dX6_tellName_4 : decode cX6_tellName 4 = .ok (.bipush 15, 2) := by decide +kernel
theorem dX6_tellName_6 : decode cX6_tellName 6 = .ok (.if_icmp .eq 10, 3) := by decide +kernel
theorem dX6_tellName_9 : decode cX6_tellName 9 = .ok (.aload_n 0, 1) := by decide +kernel
theorem dX6_tellName_10 : decode cX6_tellName 10 = .ok (.iconst 1, 1) := by decide +kernel
theorem dX6_tellName_11 : decode cX6_tellName 11 = .ok (.invokevirtual 74, 3) := by decide +kernel
theorem dX6_tellName_14 : decode cX6_tellName 14 = .ok (.iconst 0, 1) := by decide +kernel
theorem dX6_tellName_15 : decode cX6_tellName 15 = .ok (.ireturn, 1) := by decide +kernel
theorem dX6_tellName_16 : decode cX6_tellName 16 = .ok (.aload_n 0, 1) := by decide +kernel
theorem dX6_tellName_17 : decode cX6_tellName 17 = .ok (.invokevirtual 117, 3) := by decide +kernel
theorem dX6_tellName_20 : decode cX6_tellName 20 = .ok (.iconst (-1), 1) := by decide +kernel
theorem dX6_tellName_21 : decode cX6_tellName 21 = .ok (.if_icmp .eq 10, 3) := by decide +kernel
theorem dX6_tellName_24 : decode cX6_tellName 24 = .ok (.aload_n 0, 1) := by decide +kernel
theorem dX6_tellName_25 : decode cX6_tellName 25 = .ok (.iconst 2, 1) := by decide +kernel
theorem dX6_tellName_26 : decode cX6_tellName 26 = .ok (.invokevirtual 74, 3) := by decide +kernel
theorem dX6_tellName_29 : decode cX6_tellName 29 = .ok (.iconst 0, 1) := by decide +kernel
theorem dX6_tellName_30 : decode cX6_tellName 30 = .ok (.ireturn, 1) := by decide +kernel
theorem dX6_tellName_31 : decode cX6_tellName 31 = .ok (.aload_n 0, 1) := by decide +kernel
theorem dX6_tellName_32 : decode cX6_tellName 32 = .ok (.getfield 53, 3) := by decide +kernel
theorem dX6_tellName_35 : decode cX6_tellName 35 = .ok (.bipush 24, 2) := by decide +kernel
theorem dX6_tellName_37 : decode cX6_tellName 37 = .ok (.if_icmp .ge 59, 3) := by decide +kernel
theorem dX6_tellName_40 : decode cX6_tellName 40 = .ok (.aload_n 0, 1) := by decide +kernel
theorem dX6_tellName_41 : decode cX6_tellName 41 = .ok (.getfield 19, 3) := by decide +kernel
theorem dX6_tellName_44 : decode cX6_tellName 44 = .ok (.aload_n 0, 1) := by decide +kernel
theorem dX6_tellName_45 : decode cX6_tellName 45 = .ok (.getfield 53, 3) := by decide +kernel
theorem dX6_tellName_48 : decode cX6_tellName 48 = .ok (.aload_n 0, 1) := by decide +kernel
theorem dX6_tellName_49 : decode cX6_tellName 49 = .ok (.getfield 121, 3) := by decide +kernel
theorem dX6_tellName_52 : decode cX6_tellName 52 = .ok (.iastore, 1) := by decide +kernel
theorem dX6_tellName_53 : decode cX6_tellName 53 = .ok (.aload_n 0, 1) := by decide +kernel
theorem dX6_tellName_54 : decode cX6_tellName 54 = .ok (.getfield 23, 3) := by decide +kernel
theorem dX6_tellName_57 : decode cX6_tellName 57 = .ok (.aload_n 0, 1) := by decide +kernel
theorem dX6_tellName_58 : decode cX6_tellName 58 = .ok (.getfield 53, 3) := by decide +kernel
theorem dX6_tellName_61 : decode cX6_tellName 61 = .ok (.aload_n 0, 1) := by decide +kernel
theorem dX6_tellName_62 : decode cX6_tellName 62 = .ok (.getfield 56, 3) := by decide +kernel
theorem dX6_tellName_65 : decode cX6_tellName 65 = .ok (.iastore, 1) := by decide +kernel
theorem dX6_tellName_66 : decode cX6_tellName 66 = .ok (.aload_n 0, 1) := by decide +kernel
theorem dX6_tellName_67 : decode cX6_tellName 67 = .ok (.getfield 26, 3) := by decide +kernel
theorem dX6_tellName_70 : decode cX6_tellName 70 = .ok (.aload_n 0, 1) := by decide +kernel
theorem dX6_tellName_71 : decode cX6_tellName 71 = .ok (.getfield 53, 3) := by decide +kernel
theorem dX6_tellName_74 : decode cX6_tellName 74 = .ok (.iload_n 1, 1) := by decide +kernel
theorem dX6_tellName_75 : decode cX6_tellName 75 = .ok (.iastore, 1) := by decide +kernel
theorem dX6_tellName_76 : decode cX6_tellName 76 = .ok (.aload_n 0, 1) := by decide +kernel
theorem dX6_tellName_77 : decode cX6_tellName 77 = .ok (.getfield 29, 3) := by decide +kernel
theorem dX6_tellName_80 : decode cX6_tellName 80 = .ok (.aload_n 0, 1) := by decide +kernel
theorem dX6_tellName_81 : decode cX6_tellName 81 = .ok (.getfield 53, 3) := by decide +kernel
theorem dX6_tellName_84 : decode cX6_tellName 84 = .ok (.iload_n 2, 1) := by decide +kernel
theorem dX6_tellName_85 : decode cX6_tellName 85 = .ok (.iastore, 1) := by decide +kernel
theorem dX6_tellName_86 : decode cX6_tellName 86 = .ok (.aload_n 0, 1) := by decide +kernel
theorem dX6_tellName_87 : decode cX6_tellName 87 = .ok (.dup, 1) := by decide +kernel
theorem dX6_tellName_88 : decode cX6_tellName 88 = .ok (.getfield 53, 3) := by decide +kernel
theorem dX6_tellName_91 : decode cX6_tellName 91 = .ok (.iconst 1, 1) := by decide +kernel
theorem dX6_tellName_92 : decode cX6_tellName 92 = .ok (.iadd, 1) := by decide +kernel
theorem dX6_tellName_93 : decode cX6_tellName 93 = .ok (.putfield 53, 3) := by decide +kernel
theorem dX6_tellName_96 : decode cX6_tellName 96 = .ok (.aload_n 0, 1) := by decide +kernel
theorem dX6_tellName_97 : decode cX6_tellName 97 = .ok (.invokevirtual 59, 3) := by decide +kernel
theorem dX6_tellName_100 : decode cX6_tellName 100 = .ok (.iconst 1, 1) := by decide +kernel
theorem dX6_tellName_101 : decode cX6_tellName 101 = .ok (.ireturn, 1) := by decide +kernel
theorem dX6_knownName_0 : decode cX6_knownName 0 = .ok (.aload_n 0, 1) := by decide +kernel
theorem dX6_knownName_1 : decode cX6_knownName 1 = .ok (.getfield 62, 3) := by decide +kernel
theorem dX6_knownName_4 : decode cX6_knownName 4 = .ok (.bipush 15, 2) := by decide +kernel
theorem dX6_knownName_6 : decode cX6_knownName 6 = .ok (.if_icmp .eq 10, 3) := by decide +kernel
theorem dX6_knownName_9 : decode cX6_knownName 9 = .ok (.aload_n 0, 1) := by decide +kernel
theorem dX6_knownName_10 : decode cX6_knownName 10 = .ok (.iconst 1, 1) := by decide +kernel
theorem dX6_knownName_11 : decode cX6_knownName 11 = .ok (.invokevirtual 74, 3) := by decide +kernel
theorem dX6_knownName_14 : decode cX6_knownName 14 = .ok (.iconst (-1), 1) := by decide +kernel
theorem dX6_knownName_15 : decode cX6_knownName 15 = .ok (.ireturn, 1) := by decide +kernel
theorem dX6_knownName_16 : decode cX6_knownName 16 = .ok (.aload_n 0, 1) := by decide +kernel
theorem dX6_knownName_17 : decode cX6_knownName 17 = .ok (.invokevirtual 117, 3) := by decide +kernel
theorem dX6_knownName_20 : decode cX6_knownName 20 = .ok (.istore_n 2, 1) := by decide +kernel
theorem dX6_knownName_21 : decode cX6_knownName 21 = .ok (.iload_n 2, 1) := by decide +kernel
theorem dX6_knownName_22 : decode cX6_knownName 22 = .ok (.iconst (-1), 1) := by decide +kernel
theorem dX6_knownName_23 : decode cX6_knownName 23 = .ok (.if_icmp .eq 13, 3) := by decide +kernel
theorem dX6_knownName_26 : decode cX6_knownName 26 = .ok (.aload_n 0, 1) := by decide +kernel
theorem dX6_knownName_27 : decode cX6_knownName 27 = .ok (.getfield 26, 3) := by decide +kernel
theorem dX6_knownName_30 : decode cX6_knownName 30 = .ok (.iload_n 2, 1) := by decide +kernel
theorem dX6_knownName_31 : decode cX6_knownName 31 = .ok (.iaload, 1) := by decide +kernel
theorem dX6_knownName_32 : decode cX6_knownName 32 = .ok (.iload_n 1, 1) := by decide +kernel
theorem dX6_knownName_33 : decode cX6_knownName 33 = .ok (.if_icmp .eq 10, 3) := by decide +kernel
theorem dX6_knownName_36 : decode cX6_knownName 36 = .ok (.aload_n 0, 1) := by decide +kernel
theorem dX6_knownName_37 : decode cX6_knownName 37 = .ok (.iconst 3, 1) := by decide +kernel
theorem dX6_knownName_38 : decode cX6_knownName 38 = .ok (.invokevirtual 74, 3) := by decide +kernel
theorem dX6_knownName_41 : decode cX6_knownName 41 = .ok (.iconst (-1), 1) := by decide +kernel
theorem dX6_knownName_42 : decode cX6_knownName 42 = .ok (.ireturn, 1) := by decide +kernel
theorem dX6_knownName_43 : decode cX6_knownName 43 = .ok (.aload_n 0, 1) := by decide +kernel
theorem dX6_knownName_44 : decode cX6_knownName 44 = .ok (.invokevirtual 59, 3) := by decide +kernel
theorem dX6_knownName_47 : decode cX6_knownName 47 = .ok (.aload_n 0, 1) := by decide +kernel
theorem dX6_knownName_48 : decode cX6_knownName 48 = .ok (.getfield 29, 3) := by decide +kernel
theorem dX6_knownName_51 : decode cX6_knownName 51 = .ok (.iload_n 2, 1) := by decide +kernel
theorem dX6_knownName_52 : decode cX6_knownName 52 = .ok (.iaload, 1) := by decide +kernel
theorem dX6_knownName_53 : decode cX6_knownName 53 = .ok (.ireturn, 1) := by decide +kernel
theorem dX6_findName_0 : decode cX6_findName 0 = .ok (.iconst 0, 1) := by decide +kernel
theorem dX6_findName_1 : decode cX6_findName 1 = .ok (.istore_n 1, 1) := by decide +kernel
theorem dX6_findName_2 : decode cX6_findName 2 = .ok (.iload_n 1, 1) := by decide +kernel
theorem dX6_findName_3 : decode cX6_findName 3 = .ok (.aload_n 0, 1) := by decide +kernel
theorem dX6_findName_4 : decode cX6_findName 4 = .ok (.getfield 53, 3) := by decide +kernel
theorem dX6_findName_7 : decode cX6_findName 7 = .ok (.if_icmp .ge 19, 3) := by decide +kernel
theorem dX6_findName_10 : decode cX6_findName 10 = .ok (.aload_n 0, 1) := by decide +kernel
theorem dX6_findName_11 : decode cX6_findName 11 = .ok (.iload_n 1, 1) := by decide +kernel
theorem dX6_findName_12 : decode cX6_findName 12 = .ok (.invokevirtual 124, 3) := by decide +kernel
theorem dX6_findName_15 : decode cX6_findName 15 = .ok (.ifCond .eq 5, 3) := by decide +kernel
theorem dX6_findName_18 : decode cX6_findName 18 = .ok (.iload_n 1, 1) := by decide +kernel
theorem dX6_findName_19 : decode cX6_findName 19 = .ok (.ireturn, 1) := by decide +kernel
theorem dX6_findName_20 : decode cX6_findName 20 = .ok (.iinc 1 1, 3) := by decide +kernel
theorem dX6_findName_23 : decode cX6_findName 23 = .ok (.goto (-21), 3) := by decide +kernel
theorem dX6_findName_26 : decode cX6_findName 26 = .ok (.iconst (-1), 1) := by decide +kernel
theorem dX6_findName_27 : decode cX6_findName 27 = .ok (.ireturn, 1) := by decide +kernel
theorem dX6_isName_0 : decode cX6_isName 0 = .ok (.aload_n 0, 1) := by decide +kernel
theorem dX6_isName_1 : decode cX6_isName 1 = .ok (.getfield 56, 3) := by decide +kernel
theorem dX6_isName_4 : decode cX6_isName 4 = .ok (.aload_n 0, 1) := by decide +kernel
theorem dX6_isName_5 : decode cX6_isName 5 = .ok (.getfield 121, 3) := by decide +kernel
theorem dX6_isName_8 : decode cX6_isName 8 = .ok (.isub, 1) := by decide +kernel
theorem dX6_isName_9 : decode cX6_isName 9 = .ok (.istore_n 2, 1) := by decide +kernel
theorem dX6_isName_10 : decode cX6_isName 10 = .ok (.aload_n 0, 1) := by decide +kernel
theorem dX6_isName_11 : decode cX6_isName 11 = .ok (.getfield 23, 3) := by decide +kernel
theorem dX6_isName_14 : decode cX6_isName 14 = .ok (.iload_n 1, 1) := by decide +kernel
theorem dX6_isName_15 : decode cX6_isName 15 = .ok (.iaload, 1) := by decide +kernel
theorem dX6_isName_16 : decode cX6_isName 16 = .ok (.aload_n 0, 1) := by decide +kernel
theorem dX6_isName_17 : decode cX6_isName 17 = .ok (.getfield 19, 3) := by decide +kernel
theorem dX6_isName_20 : decode cX6_isName 20 = .ok (.iload_n 1, 1) := by decide +kernel
theorem dX6_isName_21 : decode cX6_isName 21 = .ok (.iaload, 1) := by decide +kernel
theorem dX6_isName_22 : decode cX6_isName 22 = .ok (.isub, 1) := by decide +kernel
theorem dX6_isName_23 : decode cX6_isName 23 = .ok (.iload_n 2, 1) := by decide +kernel
theorem dX6_isName_24 : decode cX6_isName 24 = .ok (.if_icmp .eq 5, 3) := by decide +kernel
theorem dX6_isName_27 : decode cX6_isName 27 = .ok (.iconst 0, 1) := by decide +kernel
theorem dX6_isName_28 : decode cX6_isName 28 = .ok (.ireturn, 1) := by decide +kernel
theorem dX6_isName_29 : decode cX6_isName 29 = .ok (.iconst 0, 1) := by decide +kernel
theorem dX6_isName_30 : decode cX6_isName 30 = .ok (.istore_n 3, 1) := by decide +kernel
theorem dX6_isName_31 : decode cX6_isName 31 = .ok (.iload_n 3, 1) := by decide +kernel
theorem dX6_isName_32 : decode cX6_isName 32 = .ok (.iload_n 2, 1) := by decide +kernel
theorem dX6_isName_33 : decode cX6_isName 33 = .ok (.if_icmp .ge 38, 3) := by decide +kernel
theorem dX6_isName_36 : decode cX6_isName 36 = .ok (.aload_n 0, 1) := by decide +kernel
theorem dX6_isName_37 : decode cX6_isName 37 = .ok (.getfield 15, 3) := by decide +kernel
theorem dX6_isName_40 : decode cX6_isName 40 = .ok (.aload_n 0, 1) := by decide +kernel
theorem dX6_isName_41 : decode cX6_isName 41 = .ok (.getfield 19, 3) := by decide +kernel
theorem dX6_isName_44 : decode cX6_isName 44 = .ok (.iload_n 1, 1) := by decide +kernel
theorem dX6_isName_45 : decode cX6_isName 45 = .ok (.iaload, 1) := by decide +kernel
theorem dX6_isName_46 : decode cX6_isName 46 = .ok (.iload_n 3, 1) := by decide +kernel
theorem dX6_isName_47 : decode cX6_isName 47 = .ok (.iadd, 1) := by decide +kernel
theorem dX6_isName_48 : decode cX6_isName 48 = .ok (.baload, 1) := by decide +kernel
theorem dX6_isName_49 : decode cX6_isName 49 = .ok (.aload_n 0, 1) := by decide +kernel
theorem dX6_isName_50 : decode cX6_isName 50 = .ok (.getfield 15, 3) := by decide +kernel
theorem dX6_isName_53 : decode cX6_isName 53 = .ok (.aload_n 0, 1) := by decide +kernel
theorem dX6_isName_54 : decode cX6_isName 54 = .ok (.getfield 121, 3) := by decide +kernel
theorem dX6_isName_57 : decode cX6_isName 57 = .ok (.iload_n 3, 1) := by decide +kernel
theorem dX6_isName_58 : decode cX6_isName 58 = .ok (.iadd, 1) := by decide +kernel
theorem dX6_isName_59 : decode cX6_isName 59 = .ok (.baload, 1) := by decide +kernel
theorem dX6_isName_60 : decode cX6_isName 60 = .ok (.if_icmp .eq 5, 3) := by decide +kernel
theorem dX6_isName_63 : decode cX6_isName 63 = .ok (.iconst 0, 1) := by decide +kernel
theorem dX6_isName_64 : decode cX6_isName 64 = .ok (.ireturn, 1) := by decide +kernel
theorem dX6_isName_65 : decode cX6_isName 65 = .ok (.iinc 3 1, 3) := by decide +kernel
theorem dX6_isName_68 : decode cX6_isName 68 = .ok (.goto (-37), 3) := by decide +kernel
theorem dX6_isName_71 : decode cX6_isName 71 = .ok (.iconst 1, 1) := by decide +kernel
theorem dX6_isName_72 : decode cX6_isName 72 = .ok (.ireturn, 1) := by decide +kernel
theorem dX6_pass_0 : decode cX6_pass 0 = .ok (.aload_n 0, 1) := by decide +kernel
theorem dX6_pass_1 : decode cX6_pass 1 = .ok (.getfield 62, 3) := by decide +kernel
theorem dX6_pass_4 : decode cX6_pass 4 = .ok (.iload_n 1, 1) := by decide +kernel
theorem dX6_pass_5 : decode cX6_pass 5 = .ok (.if_icmp .eq 10, 3) := by decide +kernel
theorem dX6_pass_8 : decode cX6_pass 8 = .ok (.aload_n 0, 1) := by decide +kernel
theorem dX6_pass_9 : decode cX6_pass 9 = .ok (.iconst 1, 1) := by decide +kernel
theorem dX6_pass_10 : decode cX6_pass 10 = .ok (.invokevirtual 74, 3) := by decide +kernel
theorem dX6_pass_13 : decode cX6_pass 13 = .ok (.iconst 0, 1) := by decide +kernel
theorem dX6_pass_14 : decode cX6_pass 14 = .ok (.ireturn, 1) := by decide +kernel
theorem dX6_pass_15 : decode cX6_pass 15 = .ok (.aload_n 0, 1) := by decide +kernel
theorem dX6_pass_16 : decode cX6_pass 16 = .ok (.invokevirtual 59, 3) := by decide +kernel
theorem dX6_pass_19 : decode cX6_pass 19 = .ok (.iconst 1, 1) := by decide +kernel
theorem dX6_pass_20 : decode cX6_pass 20 = .ok (.ireturn, 1) := by decide +kernel
theorem dX6_fail_0 : decode cX6_fail 0 = .ok (.aload_n 0, 1) := by decide +kernel
theorem dX6_fail_1 : decode cX6_fail 1 = .ok (.iload_n 1, 1) := by decide +kernel
theorem dX6_fail_2 : decode cX6_fail 2 = .ok (.putfield 50, 3) := by decide +kernel
theorem dX6_fail_5 : decode cX6_fail 5 = .ok (.aload_n 0, 1) := by decide +kernel
theorem dX6_fail_6 : decode cX6_fail 6 = .ok (.aload_n 0, 1) := by decide +kernel
theorem dX6_fail_7 : decode cX6_fail 7 = .ok (.getfield 121, 3) := by decide +kernel
theorem dX6_fail_10 : decode cX6_fail 10 = .ok (.putfield 9, 3) := by decide +kernel
theorem dX6_fail_13 : decode cX6_fail 13 = .ok (.return_, 1) := by decide +kernel
theorem dX6_nextToken_0 : decode cX6_nextToken 0 = .ok (.aload_n 0, 1) := by decide +kernel
theorem dX6_nextToken_1 : decode cX6_nextToken 1 = .ok (.aload_n 0, 1) := by decide +kernel
theorem dX6_nextToken_2 : decode cX6_nextToken 2 = .ok (.getfield 56, 3) := by decide +kernel
theorem dX6_nextToken_5 : decode cX6_nextToken 5 = .ok (.putfield 121, 3) := by decide +kernel
theorem dX6_nextToken_8 : decode cX6_nextToken 8 = .ok (.aload_n 0, 1) := by decide +kernel
theorem dX6_nextToken_9 : decode cX6_nextToken 9 = .ok (.getfield 121, 3) := by decide +kernel
theorem dX6_nextToken_12 : decode cX6_nextToken 12 = .ok (.aload_n 0, 1) := by decide +kernel
theorem dX6_nextToken_13 : decode cX6_nextToken 13 = .ok (.getfield 38, 3) := by decide +kernel
theorem dX6_nextToken_16 : decode cX6_nextToken 16 = .ok (.if_icmp .ge 44, 3) := by decide +kernel
theorem dX6_nextToken_19 : decode cX6_nextToken 19 = .ok (.aload_n 0, 1) := by decide +kernel
theorem dX6_nextToken_20 : decode cX6_nextToken 20 = .ok (.getfield 15, 3) := by decide +kernel
theorem dX6_nextToken_23 : decode cX6_nextToken 23 = .ok (.aload_n 0, 1) := by decide +kernel
theorem dX6_nextToken_24 : decode cX6_nextToken 24 = .ok (.getfield 121, 3) := by decide +kernel
theorem dX6_nextToken_27 : decode cX6_nextToken 27 = .ok (.baload, 1) := by decide +kernel
theorem dX6_nextToken_28 : decode cX6_nextToken 28 = .ok (.bipush 32, 2) := by decide +kernel
theorem dX6_nextToken_30 : decode cX6_nextToken 30 = .ok (.if_icmp .eq 17, 3) := by decide +kernel
theorem dX6_nextToken_33 : decode cX6_nextToken 33 = .ok (.aload_n 0, 1) := by decide +kernel
theorem dX6_nextToken_34 : decode cX6_nextToken 34 = .ok (.getfield 15, 3) := by decide +kernel
theorem dX6_nextToken_37 : decode cX6_nextToken 37 = .ok (.aload_n 0, 1) := by decide +kernel
theorem dX6_nextToken_38 : decode cX6_nextToken 38 = .ok (.getfield 121, 3) := by decide +kernel
theorem dX6_nextToken_41 : decode cX6_nextToken 41 = .ok (.baload, 1) := by decide +kernel
theorem dX6_nextToken_42 : decode cX6_nextToken 42 = .ok (.bipush 10, 2) := by decide +kernel
theorem dX6_nextToken_44 : decode cX6_nextToken 44 = .ok (.if_icmp .ne 16, 3) := by decide +kernel
theorem dX6_nextToken_47 : decode cX6_nextToken 47 = .ok (.aload_n 0, 1) := by decide +kernel
theorem dX6_nextToken_48 : decode cX6_nextToken 48 = .ok (.dup, 1) := by decide +kernel
theorem dX6_nextToken_49 : decode cX6_nextToken 49 = .ok (.getfield 121, 3) := by decide +kernel
theorem dX6_nextToken_52 : decode cX6_nextToken 52 = .ok (.iconst 1, 1) := by decide +kernel
theorem dX6_nextToken_53 : decode cX6_nextToken 53 = .ok (.iadd, 1) := by decide +kernel
theorem dX6_nextToken_54 : decode cX6_nextToken 54 = .ok (.putfield 121, 3) := by decide +kernel
theorem dX6_nextToken_57 : decode cX6_nextToken 57 = .ok (.goto (-49), 3) := by decide +kernel
theorem dX6_nextToken_60 : decode cX6_nextToken 60 = .ok (.aload_n 0, 1) := by decide +kernel
theorem dX6_nextToken_61 : decode cX6_nextToken 61 = .ok (.aload_n 0, 1) := by decide +kernel
theorem dX6_nextToken_62 : decode cX6_nextToken 62 = .ok (.getfield 121, 3) := by decide +kernel
theorem dX6_nextToken_65 : decode cX6_nextToken 65 = .ok (.putfield 56, 3) := by decide +kernel
theorem dX6_nextToken_68 : decode cX6_nextToken 68 = .ok (.aload_n 0, 1) := by decide +kernel
theorem dX6_nextToken_69 : decode cX6_nextToken 69 = .ok (.getfield 121, 3) := by decide +kernel
theorem dX6_nextToken_72 : decode cX6_nextToken 72 = .ok (.aload_n 0, 1) := by decide +kernel
theorem dX6_nextToken_73 : decode cX6_nextToken 73 = .ok (.getfield 38, 3) := by decide +kernel
theorem dX6_nextToken_76 : decode cX6_nextToken 76 = .ok (.if_icmp .ne 12, 3) := by decide +kernel
theorem dX6_nextToken_79 : decode cX6_nextToken 79 = .ok (.aload_n 0, 1) := by decide +kernel
theorem dX6_nextToken_80 : decode cX6_nextToken 80 = .ok (.bipush 17, 2) := by decide +kernel
theorem dX6_nextToken_82 : decode cX6_nextToken 82 = .ok (.putfield 62, 3) := by decide +kernel
theorem dX6_nextToken_85 : decode cX6_nextToken 85 = .ok (.goto 107, 3) := by decide +kernel
theorem dX6_nextToken_88 : decode cX6_nextToken 88 = .ok (.aload_n 0, 1) := by decide +kernel
theorem dX6_nextToken_89 : decode cX6_nextToken 89 = .ok (.getfield 15, 3) := by decide +kernel
theorem dX6_nextToken_92 : decode cX6_nextToken 92 = .ok (.aload_n 0, 1) := by decide +kernel
theorem dX6_nextToken_93 : decode cX6_nextToken 93 = .ok (.getfield 121, 3) := by decide +kernel
theorem dX6_nextToken_96 : decode cX6_nextToken 96 = .ok (.baload, 1) := by decide +kernel
theorem dX6_nextToken_97 : decode cX6_nextToken 97 = .ok (.bipush 59, 2) := by decide +kernel
theorem dX6_nextToken_99 : decode cX6_nextToken 99 = .ok (.if_icmp .ne 22, 3) := by decide +kernel
theorem dX6_nextToken_102 : decode cX6_nextToken 102 = .ok (.aload_n 0, 1) := by decide +kernel
theorem dX6_nextToken_103 : decode cX6_nextToken 103 = .ok (.bipush 16, 2) := by decide +kernel
theorem dX6_nextToken_105 : decode cX6_nextToken 105 = .ok (.putfield 62, 3) := by decide +kernel
theorem dX6_nextToken_108 : decode cX6_nextToken 108 = .ok (.aload_n 0, 1) := by decide +kernel
theorem dX6_nextToken_109 : decode cX6_nextToken 109 = .ok (.dup, 1) := by decide +kernel
theorem dX6_nextToken_110 : decode cX6_nextToken 110 = .ok (.getfield 56, 3) := by decide +kernel
theorem dX6_nextToken_113 : decode cX6_nextToken 113 = .ok (.iconst 1, 1) := by decide +kernel
theorem dX6_nextToken_114 : decode cX6_nextToken 114 = .ok (.iadd, 1) := by decide +kernel
theorem dX6_nextToken_115 : decode cX6_nextToken 115 = .ok (.putfield 56, 3) := by decide +kernel
theorem dX6_nextToken_118 : decode cX6_nextToken 118 = .ok (.goto 74, 3) := by decide +kernel
theorem dX6_nextToken_121 : decode cX6_nextToken 121 = .ok (.aload_n 0, 1) := by decide +kernel
theorem dX6_nextToken_122 : decode cX6_nextToken 122 = .ok (.getfield 15, 3) := by decide +kernel
theorem dX6_nextToken_125 : decode cX6_nextToken 125 = .ok (.aload_n 0, 1) := by decide +kernel
theorem dX6_nextToken_126 : decode cX6_nextToken 126 = .ok (.getfield 121, 3) := by decide +kernel
theorem dX6_nextToken_129 : decode cX6_nextToken 129 = .ok (.baload, 1) := by decide +kernel
theorem dX6_nextToken_130 : decode cX6_nextToken 130 = .ok (.invokestatic 127, 3) := by decide +kernel
theorem dX6_nextToken_133 : decode cX6_nextToken 133 = .ok (.ifCond .eq 53, 3) := by decide +kernel
theorem dX6_nextToken_136 : decode cX6_nextToken 136 = .ok (.aload_n 0, 1) := by decide +kernel
theorem dX6_nextToken_137 : decode cX6_nextToken 137 = .ok (.getfield 56, 3) := by decide +kernel
theorem dX6_nextToken_140 : decode cX6_nextToken 140 = .ok (.aload_n 0, 1) := by decide +kernel
theorem dX6_nextToken_141 : decode cX6_nextToken 141 = .ok (.getfield 38, 3) := by decide +kernel
theorem dX6_nextToken_144 : decode cX6_nextToken 144 = .ok (.if_icmp .ge 31, 3) := by decide +kernel
theorem dX6_nextToken_147 : decode cX6_nextToken 147 = .ok (.aload_n 0, 1) := by decide +kernel
theorem dX6_nextToken_148 : decode cX6_nextToken 148 = .ok (.getfield 15, 3) := by decide +kernel
theorem dX6_nextToken_151 : decode cX6_nextToken 151 = .ok (.aload_n 0, 1) := by decide +kernel
theorem dX6_nextToken_152 : decode cX6_nextToken 152 = .ok (.getfield 56, 3) := by decide +kernel
theorem dX6_nextToken_155 : decode cX6_nextToken 155 = .ok (.baload, 1) := by decide +kernel
theorem dX6_nextToken_156 : decode cX6_nextToken 156 = .ok (.invokestatic 127, 3) := by decide +kernel
theorem dX6_nextToken_159 : decode cX6_nextToken 159 = .ok (.ifCond .eq 16, 3) := by decide +kernel
theorem dX6_nextToken_162 : decode cX6_nextToken 162 = .ok (.aload_n 0, 1) := by decide +kernel
theorem dX6_nextToken_163 : decode cX6_nextToken 163 = .ok (.dup, 1) := by decide +kernel
theorem dX6_nextToken_164 : decode cX6_nextToken 164 = .ok (.getfield 56, 3) := by decide +kernel
theorem dX6_nextToken_167 : decode cX6_nextToken 167 = .ok (.iconst 1, 1) := by decide +kernel
theorem dX6_nextToken_168 : decode cX6_nextToken 168 = .ok (.iadd, 1) := by decide +kernel
theorem dX6_nextToken_169 : decode cX6_nextToken 169 = .ok (.putfield 56, 3) := by decide +kernel
theorem dX6_nextToken_172 : decode cX6_nextToken 172 = .ok (.goto (-36), 3) := by decide +kernel
theorem dX6_nextToken_175 : decode cX6_nextToken 175 = .ok (.aload_n 0, 1) := by decide +kernel
theorem dX6_nextToken_176 : decode cX6_nextToken 176 = .ok (.aload_n 0, 1) := by decide +kernel
theorem dX6_nextToken_177 : decode cX6_nextToken 177 = .ok (.invokevirtual 131, 3) := by decide +kernel
theorem dX6_nextToken_180 : decode cX6_nextToken 180 = .ok (.putfield 62, 3) := by decide +kernel
theorem dX6_nextToken_183 : decode cX6_nextToken 183 = .ok (.goto 9, 3) := by decide +kernel
theorem dX6_nextToken_186 : decode cX6_nextToken 186 = .ok (.aload_n 0, 1) := by decide +kernel
theorem dX6_nextToken_187 : decode cX6_nextToken 187 = .ok (.bipush 18, 2) := by decide +kernel
theorem dX6_nextToken_189 : decode cX6_nextToken 189 = .ok (.putfield 62, 3) := by decide +kernel
theorem dX6_nextToken_192 : decode cX6_nextToken 192 = .ok (.return_, 1) := by decide +kernel
theorem dX6_isLetter_0 : decode cX6_isLetter 0 = .ok (.iload_n 0, 1) := by decide +kernel
theorem dX6_isLetter_1 : decode cX6_isLetter 1 = .ok (.bipush 97, 2) := by decide +kernel
theorem dX6_isLetter_3 : decode cX6_isLetter 3 = .ok (.if_icmp .lt 13, 3) := by decide +kernel
theorem dX6_isLetter_6 : decode cX6_isLetter 6 = .ok (.iload_n 0, 1) := by decide +kernel
theorem dX6_isLetter_7 : decode cX6_isLetter 7 = .ok (.bipush 122, 2) := by decide +kernel
theorem dX6_isLetter_9 : decode cX6_isLetter 9 = .ok (.if_icmp .gt 7, 3) := by decide +kernel
theorem dX6_isLetter_12 : decode cX6_isLetter 12 = .ok (.iconst 1, 1) := by decide +kernel
theorem dX6_isLetter_13 : decode cX6_isLetter 13 = .ok (.goto 4, 3) := by decide +kernel
theorem dX6_isLetter_16 : decode cX6_isLetter 16 = .ok (.iconst 0, 1) := by decide +kernel
theorem dX6_isLetter_17 : decode cX6_isLetter 17 = .ok (.ireturn, 1) := by decide +kernel
theorem dX6_wordNumber_0 : decode cX6_wordNumber 0 = .ok (.aload_n 0, 1) := by decide +kernel
theorem dX6_wordNumber_1 : decode cX6_wordNumber 1 = .ok (.getfield 56, 3) := by decide +kernel
theorem dX6_wordNumber_4 : decode cX6_wordNumber 4 = .ok (.aload_n 0, 1) := by decide +kernel
theorem dX6_wordNumber_5 : decode cX6_wordNumber 5 = .ok (.getfield 121, 3) := by decide +kernel
theorem dX6_wordNumber_8 : decode cX6_wordNumber 8 = .ok (.isub, 1) := by decide +kernel
theorem dX6_wordNumber_9 : decode cX6_wordNumber 9 = .ok (.istore_n 1, 1) := by decide +kernel
theorem dX6_wordNumber_10 : decode cX6_wordNumber 10 = .ok (.iconst 0, 1) := by decide +kernel
theorem dX6_wordNumber_11 : decode cX6_wordNumber 11 = .ok (.istore_n 2, 1) := by decide +kernel
theorem dX6_wordNumber_12 : decode cX6_wordNumber 12 = .ok (.iconst 0, 1) := by decide +kernel
theorem dX6_wordNumber_13 : decode cX6_wordNumber 13 = .ok (.istore_n 3, 1) := by decide +kernel
theorem dX6_wordNumber_14 : decode cX6_wordNumber 14 = .ok (.iconst 1, 1) := by decide +kernel
theorem dX6_wordNumber_15 : decode cX6_wordNumber 15 = .ok (.istore 4, 2) := by decide +kernel
theorem dX6_wordNumber_17 : decode cX6_wordNumber 17 = .ok (.iconst 0, 1) := by decide +kernel
theorem dX6_wordNumber_18 : decode cX6_wordNumber 18 = .ok (.istore 5, 2) := by decide +kernel
theorem dX6_wordNumber_20 : decode cX6_wordNumber 20 = .ok (.iload 5, 2) := by decide +kernel
theorem dX6_wordNumber_22 : decode cX6_wordNumber 22 = .ok (.ldc 134, 2) := by decide +kernel
theorem dX6_wordNumber_24 : decode cX6_wordNumber 24 = .ok (.invokevirtual 136, 3) := by decide +kernel
theorem dX6_wordNumber_27 : decode cX6_wordNumber 27 = .ok (.if_icmp .ge 84, 3) := by decide +kernel
theorem dX6_wordNumber_30 : decode cX6_wordNumber 30 = .ok (.ldc 134, 2) := by decide +kernel
theorem dX6_wordNumber_32 : decode cX6_wordNumber 32 = .ok (.iload 5, 2) := by decide +kernel
theorem dX6_wordNumber_34 : decode cX6_wordNumber 34 = .ok (.invokevirtual 141, 3) := by decide +kernel
theorem dX6_wordNumber_37 : decode cX6_wordNumber 37 = .ok (.istore 6, 2) := by decide +kernel
theorem dX6_wordNumber_39 : decode cX6_wordNumber 39 = .ok (.iload 6, 2) := by decide +kernel
theorem dX6_wordNumber_41 : decode cX6_wordNumber 41 = .ok (.bipush 32, 2) := by decide +kernel
theorem dX6_wordNumber_43 : decode cX6_wordNumber 43 = .ok (.if_icmp .eq 42, 3) := by decide +kernel
theorem dX6_wordNumber_46 : decode cX6_wordNumber 46 = .ok (.iload 4, 2) := by decide +kernel
theorem dX6_wordNumber_48 : decode cX6_wordNumber 48 = .ok (.ifCond .eq 28, 3) := by decide +kernel
theorem dX6_wordNumber_51 : decode cX6_wordNumber 51 = .ok (.iload_n 3, 1) := by decide +kernel
theorem dX6_wordNumber_52 : decode cX6_wordNumber 52 = .ok (.iload_n 1, 1) := by decide +kernel
theorem dX6_wordNumber_53 : decode cX6_wordNumber 53 = .ok (.if_icmp .ge 23, 3) := by decide +kernel
theorem dX6_wordNumber_56 : decode cX6_wordNumber 56 = .ok (.aload_n 0, 1) := by decide +kernel
theorem dX6_wordNumber_57 : decode cX6_wordNumber 57 = .ok (.getfield 15, 3) := by decide +kernel
theorem dX6_wordNumber_60 : decode cX6_wordNumber 60 = .ok (.aload_n 0, 1) := by decide +kernel
theorem dX6_wordNumber_61 : decode cX6_wordNumber 61 = .ok (.getfield 121, 3) := by decide +kernel
theorem dX6_wordNumber_64 : decode cX6_wordNumber 64 = .ok (.iload_n 3, 1) := by decide +kernel
theorem dX6_wordNumber_65 : decode cX6_wordNumber 65 = .ok (.iadd, 1) := by decide +kernel
theorem dX6_wordNumber_66 : decode cX6_wordNumber 66 = .ok (.baload, 1) := by decide +kernel
theorem dX6_wordNumber_67 : decode cX6_wordNumber 67 = .ok (.iload 6, 2) := by decide +kernel
theorem dX6_wordNumber_69 : decode cX6_wordNumber 69 = .ok (.if_icmp .ne 7, 3) := by decide +kernel
theorem dX6_wordNumber_72 : decode cX6_wordNumber 72 = .ok (.iconst 1, 1) := by decide +kernel
theorem dX6_wordNumber_73 : decode cX6_wordNumber 73 = .ok (.goto 4, 3) := by decide +kernel
theorem dX6_wordNumber_76 : decode cX6_wordNumber 76 = .ok (.iconst 0, 1) := by decide +kernel
theorem dX6_wordNumber_77 : decode cX6_wordNumber 77 = .ok (.istore 4, 2) := by decide +kernel
theorem dX6_wordNumber_79 : decode cX6_wordNumber 79 = .ok (.iinc 3 1, 3) := by decide +kernel
theorem dX6_wordNumber_82 : decode cX6_wordNumber 82 = .ok (.goto 23, 3) := by decide +kernel
theorem dX6_wordNumber_85 : decode cX6_wordNumber 85 = .ok (.iload 4, 2) := by decide +kernel
theorem dX6_wordNumber_87 : decode cX6_wordNumber 87 = .ok (.ifCond .eq 10, 3) := by decide +kernel
theorem dX6_wordNumber_90 : decode cX6_wordNumber 90 = .ok (.iload_n 3, 1) := by decide +kernel
theorem dX6_wordNumber_91 : decode cX6_wordNumber 91 = .ok (.iload_n 1, 1) := by decide +kernel
theorem dX6_wordNumber_92 : decode cX6_wordNumber 92 = .ok (.if_icmp .ne 5, 3) := by decide +kernel
theorem dX6_wordNumber_95 : decode cX6_wordNumber 95 = .ok (.iload_n 2, 1) := by decide +kernel
theorem dX6_wordNumber_96 : decode cX6_wordNumber 96 = .ok (.ireturn, 1) := by decide +kernel
theorem dX6_wordNumber_97 : decode cX6_wordNumber 97 = .ok (.iinc 2 1, 3) := by decide +kernel
theorem dX6_wordNumber_100 : decode cX6_wordNumber 100 = .ok (.iconst 0, 1) := by decide +kernel
theorem dX6_wordNumber_101 : decode cX6_wordNumber 101 = .ok (.istore_n 3, 1) := by decide +kernel
theorem dX6_wordNumber_102 : decode cX6_wordNumber 102 = .ok (.iconst 1, 1) := by decide +kernel
theorem dX6_wordNumber_103 : decode cX6_wordNumber 103 = .ok (.istore 4, 2) := by decide +kernel
theorem dX6_wordNumber_105 : decode cX6_wordNumber 105 = .ok (.iinc 5 1, 3) := by decide +kernel
theorem dX6_wordNumber_108 : decode cX6_wordNumber 108 = .ok (.goto (-88), 3) := by decide +kernel
theorem dX6_wordNumber_111 : decode cX6_wordNumber 111 = .ok (.bipush 15, 2) := by decide +kernel
theorem dX6_wordNumber_113 : decode cX6_wordNumber 113 = .ok (.ireturn, 1) := by decide +kernel
theorem dX7_init_0 : decode cX7_init 0 = .ok (.aload_n 0, 1) := by decide +kernel
theorem dX7_init_1 : decode cX7_init 1 = .ok (.invokespecial 3, 3) := by decide +kernel
theorem dX7_init_4 : decode cX7_init 4 = .ok (.aload_n 0, 1) := by decide +kernel
theorem dX7_init_5 : decode cX7_init 5 = .ok (.bipush 60, 2) := by decide +kernel
theorem dX7_init_7 : decode cX7_init 7 = .ok (.newarray .int, 2) := by decide +kernel
theorem dX7_init_9 : decode cX7_init 9 = .ok (.putfield 9, 3) := by decide +kernel
theorem dX7_init_12 : decode cX7_init 12 = .ok (.aload_n 0, 1) := by decide +kernel
theorem dX7_init_13 : decode cX7_init 13 = .ok (.bipush 60, 2) := by decide +kernel
theorem dX7_init_15 : decode cX7_init 15 = .ok (.newarray .int, 2) := by decide +kernel
theorem dX7_init_17 : decode cX7_init 17 = .ok (.putfield 15, 3) := by decide +kernel
theorem dX7_init_20 : decode cX7_init 20 = .ok (.aload_n 0, 1) := by decide +kernel
theorem dX7_init_21 : decode cX7_init 21 = .ok (.bipush 60, 2) := by decide +kernel
theorem dX7_init_23 : decode cX7_init 23 = .ok (.newarray .int, 2) := by decide +kernel
theorem dX7_init_25 : decode cX7_init 25 = .ok (.putfield 18, 3) := by decide +kernel
theorem dX7_init_28 : decode cX7_init 28 = .ok (.aload_n 0, 1) := by decide +kernel
theorem dX7_init_29 : decode cX7_init 29 = .ok (.bipush 60, 2) := by decide +kernel
theorem dX7_init_31 : decode cX7_init 31 = .ok (.newarray .int, 2) := by decide +kernel
theorem dX7_init_33 : decode cX7_init 33 = .ok (.putfield 21, 3) := by decide +kernel
theorem dX7_init_36 : decode cX7_init 36 = .ok (.aload_n 0, 1) := by decide +kernel
theorem dX7_init_37 : decode cX7_init 37 = .ok (.sipush 1020, 3) := by decide +kernel
theorem dX7_init_40 : decode cX7_init 40 = .ok (.newarray .byte, 2) := by decide +kernel
theorem dX7_init_42 : decode cX7_init 42 = .ok (.putfield 24, 3) := by decide +kernel
theorem dX7_init_45 : decode cX7_init 45 = .ok (.aload_n 0, 1) := by decide +kernel
theorem dX7_init_46 : decode cX7_init 46 = .ok (.sipush 160, 3) := by decide +kernel
theorem dX7_init_49 : decode cX7_init 49 = .ok (.newarray .int, 2) := by decide +kernel
theorem dX7_init_51 : decode cX7_init 51 = .ok (.putfield 28, 3) := by decide +kernel
theorem dX7_init_54 : decode cX7_init 54 = .ok (.return_, 1) := by decide +kernel
theorem dX7_clear_0 : decode cX7_clear 0 = .ok (.aload_n 0, 1) := by decide +kernel
theorem dX7_clear_1 : decode cX7_clear 1 = .ok (.iconst 0, 1) := by decide +kernel
theorem dX7_clear_2 : decode cX7_clear 2 = .ok (.putfield 31, 3) := by decide +kernel
theorem dX7_clear_5 : decode cX7_clear 5 = .ok (.aload_n 0, 1) := by decide +kernel
theorem dX7_clear_6 : decode cX7_clear 6 = .ok (.getfield 28, 3) := by decide +kernel
theorem dX7_clear_9 : decode cX7_clear 9 = .ok (.iconst 0, 1) := by decide +kernel
theorem dX7_clear_10 : decode cX7_clear 10 = .ok (.invokestatic 35, 3) := by decide +kernel
theorem dX7_clear_13 : decode cX7_clear 13 = .ok (.return_, 1) := by decide +kernel
theorem dX7_copyFrom_0 : decode cX7_copyFrom 0 = .ok (.aload_n 0, 1) := by decide +kernel
theorem dX7_copyFrom_1 : decode cX7_copyFrom 1 = .ok (.aload_n 1, 1) := by decide +kernel
theorem dX7_copyFrom_2 : decode cX7_copyFrom 2 = .ok (.getfield 31, 3) := by decide +kernel
theorem dX7_copyFrom_5 : decode cX7_copyFrom 5 = .ok (.putfield 31, 3) := by decide +kernel
theorem dX7_copyFrom_8 : decode cX7_copyFrom 8 = .ok (.aload_n 1, 1) := by decide +kernel
theorem dX7_copyFrom_9 : decode cX7_copyFrom 9 = .ok (.getfield 9, 3) := by decide +kernel
theorem dX7_copyFrom_12 : decode cX7_copyFrom 12 = .ok (.iconst 0, 1) := by decide +kernel
theorem dX7_copyFrom_13 : decode cX7_copyFrom 13 = .ok (.aload_n 0, 1) := by decide +kernel
theorem dX7_copyFrom_14 : decode cX7_copyFrom 14 = .ok (.getfield 9, 3) := by decide +kernel
theorem dX7_copyFrom_17 : decode cX7_copyFrom 17 = .ok (.iconst 0, 1) := by decide +kernel
theorem dX7_copyFrom_18 : decode cX7_copyFrom 18 = .ok (.aload_n 0, 1) := by decide +kernel
theorem dX7_copyFrom_19 : decode cX7_copyFrom 19 = .ok (.getfield 31, 3) := by decide +kernel
theorem dX7_copyFrom_22 : decode cX7_copyFrom 22 = .ok (.invokestatic 41, 3) := by decide +kernel
theorem dX7_copyFrom_25 : decode cX7_copyFrom 25 = .ok (.aload_n 1, 1) := by decide +kernel
theorem dX7_copyFrom_26 : decode cX7_copyFrom 26 = .ok (.getfield 15, 3) := by decide +kernel
theorem dX7_copyFrom_29 : decode cX7_copyFrom 29 = .ok (.iconst 0, 1) := by decide +kernel
theorem dX7_copyFrom_30 : decode cX7_copyFrom 30 = .ok (.aload_n 0, 1) := by decide +kernel
theorem dX7_copyFrom_31 : decode cX7_copyFrom 31 = .ok (.getfield 15, 3) := by decide +kernel
theorem dX7_copyFrom_34 : decode cX7_copyFrom 34 = .ok (.iconst 0, 1) := by decide +kernel
theorem dX7_copyFrom_35 : decode cX7_copyFrom 35 = .ok (.aload_n 0, 1) := by decide +kernel
theorem dX7_copyFrom_36 : decode cX7_copyFrom 36 = .ok (.getfield 31, 3) := by decide +kernel
theorem dX7_copyFrom_39 : decode cX7_copyFrom 39 = .ok (.invokestatic 41, 3) := by decide +kernel
theorem dX7_copyFrom_42 : decode cX7_copyFrom 42 = .ok (.aload_n 1, 1) := by decide +kernel
theorem dX7_copyFrom_43 : decode cX7_copyFrom 43 = .ok (.getfield 18, 3) := by decide +kernel
theorem dX7_copyFrom_46 : decode cX7_copyFrom 46 = .ok (.iconst 0, 1) := by decide +kernel
theorem dX7_copyFrom_47 : decode cX7_copyFrom 47 = .ok (.aload_n 0, 1) := by decide +kernel
theorem dX7_copyFrom_48 : decode cX7_copyFrom 48 = .ok (.getfield 18, 3) := by decide +kernel
theorem dX7_copyFrom_51 : decode cX7_copyFrom 51 = .ok (.iconst 0, 1) := by decide +kernel
theorem dX7_copyFrom_52 : decode cX7_copyFrom 52 = .ok (.aload_n 0, 1) := by decide +kernel
theorem dX7_copyFrom_53 : decode cX7_copyFrom 53 = .ok (.getfield 31, 3) := by decide +kernel
theorem dX7_copyFrom_56 : decode cX7_copyFrom 56 = .ok (.invokestatic 41, 3) := by decide +kernel
theorem dX7_copyFrom_59 : decode cX7_copyFrom 59 = .ok (.aload_n 1, 1) := by decide +kernel
theorem dX7_copyFrom_60 : decode cX7_copyFrom 60 = .ok (.getfield 21, 3) := by decide +kernel
theorem dX7_copyFrom_63 : decode cX7_copyFrom 63 = .ok (.iconst 0, 1) := by decide +kernel
theorem dX7_copyFrom_64 : decode cX7_copyFrom 64 = .ok (.aload_n 0, 1) := by decide +kernel
theorem dX7_copyFrom_65 : decode cX7_copyFrom 65 = .ok (.getfield 21, 3) := by decide +kernel
theorem dX7_copyFrom_68 : decode cX7_copyFrom 68 = .ok (.iconst 0, 1) := by decide +kernel
theorem dX7_copyFrom_69 : decode cX7_copyFrom 69 = .ok (.aload_n 0, 1) := by decide +kernel
theorem dX7_copyFrom_70 : decode cX7_copyFrom 70 = .ok (.getfield 31, 3) := by decide +kernel
theorem dX7_copyFrom_73 : decode cX7_copyFrom 73 = .ok (.invokestatic 41, 3) := by decide +kernel
theorem dX7_copyFrom_76 : decode cX7_copyFrom 76 = .ok (.aload_n 1, 1) := by decide +kernel
theorem dX7_copyFrom_77 : decode cX7_copyFrom 77 = .ok (.getfield 24, 3) := by decide +kernel
theorem dX7_copyFrom_80 : decode cX7_copyFrom 80 = .ok (.iconst 0, 1) := by decide +kernel
theorem dX7_copyFrom_81 : decode cX7_copyFrom 81 = .ok (.aload_n 0, 1) := by decide +kernel
theorem dX7_copyFrom_82 : decode cX7_copyFrom 82 = .ok (.getfield 24, 3) := by decide +kernel
theorem dX7_copyFrom_85 : decode cX7_copyFrom 85 = .ok (.iconst 0, 1) := by decide +kernel
theorem dX7_copyFrom_86 : decode cX7_copyFrom 86 = .ok (.aload_n 0, 1) := by decide +kernel
theorem dX7_copyFrom_87 : decode cX7_copyFrom 87 = .ok (.getfield 31, 3) := by decide +kernel
theorem dX7_copyFrom_90 : decode cX7_copyFrom 90 = .ok (.bipush 17, 2) := by decide +kernel
theorem dX7_copyFrom_92 : decode cX7_copyFrom 92 = .ok (.imul, 1) := by decide +kernel
theorem dX7_copyFrom_93 : decode cX7_copyFrom 93 = .ok (.invokestatic 41, 3) := by decide +kernel
theorem dX7_copyFrom_96 : decode cX7_copyFrom 96 = .ok (.aload_n 1, 1) := by decide +kernel
theorem dX7_copyFrom_97 : decode cX7_copyFrom 97 = .ok (.getfield 28, 3) := by decide +kernel
theorem dX7_copyFrom_100 : decode cX7_copyFrom 100 = .ok (.iconst 0, 1) := by decide +kernel
theorem dX7_copyFrom_101 : decode cX7_copyFrom 101 = .ok (.aload_n 0, 1) := by decide +kernel
theorem dX7_copyFrom_102 : decode cX7_copyFrom 102 = .ok (.getfield 28, 3) := by decide +kernel
theorem dX7_copyFrom_105 : decode cX7_copyFrom 105 = .ok (.iconst 0, 1) := by decide +kernel
theorem dX7_copyFrom_106 : decode cX7_copyFrom 106 = .ok (.aload_n 0, 1) := by decide +kernel
theorem dX7_copyFrom_107 : decode cX7_copyFrom 107 = .ok (.getfield 28, 3) := by decide +kernel
theorem dX7_copyFrom_110 : decode cX7_copyFrom 110 = .ok (.arraylength, 1) := by decide +kernel
theorem dX7_copyFrom_111 : decode cX7_copyFrom 111 = .ok (.invokestatic 41, 3) := by decide +kernel
theorem dX7_copyFrom_114 : decode cX7_copyFrom 114 = .ok (.return_, 1) := by decide +kernel
theorem dX7_isFull_0 : decode cX7_isFull 0 = .ok (.aload_n 0, 1) := by decide +kernel
theorem dX7_isFull_1 : decode cX7_isFull 1 = .ok (.getfield 31, 3) := by decide +kernel
theorem dX7_isFull_4 : decode cX7_isFull 4 = .ok (.bipush 60, 2) := by decide +kernel
theorem dX7_isFull_6 : decode cX7_isFull 6 = .ok (.if_icmp .lt 7, 3) := by decide +kernel
theorem dX7_isFull_9 : decode cX7_isFull 9 = .ok (.iconst 1, 1) := by decide +kernel
theorem dX7_isFull_10 : decode cX7_isFull 10 = .ok (.goto 4, 3) := by decide +kernel
theorem dX7_isFull_13 : decode cX7_isFull 13 = .ok (.iconst 0, 1) := by decide +kernel
theorem dX7_isFull_14 : decode cX7_isFull 14 = .ok (.ireturn, 1) := by decide +kernel
theorem dX7_toldBehind_0 : decode cX7_toldBehind 0 = .ok (.aload_n 0, 1) := by decide +kernel
theorem dX7_toldBehind_1 : decode cX7_toldBehind 1 = .ok (.getfield 28, 3) := by decide +kernel
theorem dX7_toldBehind_4 : decode cX7_toldBehind 4 = .ok (.iload_n 1, 1) := by decide +kernel
theorem dX7_toldBehind_5 : decode cX7_toldBehind 5 = .ok (.bipush 16, 2) := by decide +kernel
theorem dX7_toldBehind_7 : decode cX7_toldBehind 7 = .ok (.imul, 1) := by decide +kernel
theorem dX7_toldBehind_8 : decode cX7_toldBehind 8 = .ok (.iload_n 2, 1) := by decide +kernel
theorem dX7_toldBehind_9 : decode cX7_toldBehind 9 = .ok (.iadd, 1) := by decide +kernel
theorem dX7_toldBehind_10 : decode cX7_toldBehind 10 = .ok (.iaload, 1) := by decide +kernel
theorem dX7_toldBehind_11 : decode cX7_toldBehind 11 = .ok (.ireturn, 1) := by decide +kernel
theorem dX7_open_0 : decode cX7_open 0 = .ok (.aload_n 0, 1) := by decide +kernel
theorem dX7_open_1 : decode cX7_open 1 = .ok (.getfield 31, 3) := by decide +kernel
theorem dX7_open_4 : decode cX7_open 4 = .ok (.bipush 60, 2) := by decide +kernel
theorem dX7_open_6 : decode cX7_open 6 = .ok (.if_icmp .ge 43, 3) := by decide +kernel
theorem dX7_open_9 : decode cX7_open 9 = .ok (.aload_n 0, 1) := by decide +kernel
theorem dX7_open_10 : decode cX7_open 10 = .ok (.getfield 9, 3) := by decide +kernel
theorem dX7_open_13 : decode cX7_open 13 = .ok (.aload_n 0, 1) := by decide +kernel
theorem dX7_open_14 : decode cX7_open 14 = .ok (.getfield 31, 3) := by decide +kernel
theorem dX7_open_17 : decode cX7_open 17 = .ok (.iload_n 1, 1) := by decide +kernel
theorem dX7_open_18 : decode cX7_open 18 = .ok (.iastore, 1) := by decide +kernel
theorem dX7_open_19 : decode cX7_open 19 = .ok (.aload_n 0, 1) := by decide +kernel
theorem dX7_open_20 : decode cX7_open 20 = .ok (.getfield 15, 3) := by decide +kernel
theorem dX7_open_23 : decode cX7_open 23 = .ok (.aload_n 0, 1) := by decide +kernel
theorem dX7_open_24 : decode cX7_open 24 = .ok (.getfield 31, 3) := by decide +kernel
theorem dX7_open_27 : decode cX7_open 27 = .ok (.iload_n 2, 1) := by decide +kernel
theorem dX7_open_28 : decode cX7_open 28 = .ok (.iastore, 1) := by decide +kernel
theorem dX7_open_29 : decode cX7_open 29 = .ok (.aload_n 0, 1) := by decide +kernel
theorem dX7_open_30 : decode cX7_open 30 = .ok (.getfield 18, 3) := by decide +kernel
theorem dX7_open_33 : decode cX7_open 33 = .ok (.aload_n 0, 1) := by decide +kernel
theorem dX7_open_34 : decode cX7_open 34 = .ok (.getfield 31, 3) := by decide +kernel
theorem dX7_open_37 : decode cX7_open 37 = .ok (.iload_n 3, 1) := by decide +kernel
theorem dX7_open_38 : decode cX7_open 38 = .ok (.iastore, 1) := by decide +kernel
theorem dX7_open_39 : decode cX7_open 39 = .ok (.aload_n 0, 1) := by decide +kernel
theorem dX7_open_40 : decode cX7_open 40 = .ok (.getfield 21, 3) := by decide +kernel
theorem dX7_open_43 : decode cX7_open 43 = .ok (.aload_n 0, 1) := by decide +kernel
theorem dX7_open_44 : decode cX7_open 44 = .ok (.getfield 31, 3) := by decide +kernel
theorem dX7_open_47 : decode cX7_open 47 = .ok (.iconst 0, 1) := by decide +kernel
theorem dX7_open_48 : decode cX7_open 48 = .ok (.iastore, 1) := by decide +kernel
theorem dX7_open_49 : decode cX7_open 49 = .ok (.return_, 1) := by decide +kernel
theorem dX7_addNode_0 : decode cX7_addNode 0 = .ok (.aload_n 0, 1) := by decide +kernel
theorem dX7_addNode_1 : decode cX7_addNode 1 = .ok (.getfield 31, 3) := by decide +kernel
theorem dX7_addNode_4 : decode cX7_addNode 4 = .ok (.bipush 60, 2) := by decide +kernel
theorem dX7_addNode_6 : decode cX7_addNode 6 = .ok (.if_icmp .ge 54, 3) := by decide +kernel
theorem dX7_addNode_9 : decode cX7_addNode 9 = .ok (.aload_n 0, 1) := by decide +kernel
theorem dX7_addNode_10 : decode cX7_addNode 10 = .ok (.getfield 21, 3) := by decide +kernel
theorem dX7_addNode_13 : decode cX7_addNode 13 = .ok (.aload_n 0, 1) := by decide +kernel
theorem dX7_addNode_14 : decode cX7_addNode 14 = .ok (.getfield 31, 3) := by decide +kernel
theorem dX7_addNode_17 : decode cX7_addNode 17 = .ok (.iaload, 1) := by decide +kernel
theorem dX7_addNode_18 : decode cX7_addNode 18 = .ok (.bipush 17, 2) := by decide +kernel
theorem dX7_addNode_20 : decode cX7_addNode 20 = .ok (.if_icmp .ge 40, 3) := by decide +kernel
theorem dX7_addNode_23 : decode cX7_addNode 23 = .ok (.aload_n 0, 1) := by decide +kernel
theorem dX7_addNode_24 : decode cX7_addNode 24 = .ok (.getfield 24, 3) := by decide +kernel
theorem dX7_addNode_27 : decode cX7_addNode 27 = .ok (.aload_n 0, 1) := by decide +kernel
theorem dX7_addNode_28 : decode cX7_addNode 28 = .ok (.getfield 31, 3) := by decide +kernel
theorem dX7_addNode_31 : decode cX7_addNode 31 = .ok (.bipush 17, 2) := by decide +kernel
theorem dX7_addNode_33 : decode cX7_addNode 33 = .ok (.imul, 1) := by decide +kernel
theorem dX7_addNode_34 : decode cX7_addNode 34 = .ok (.aload_n 0, 1) := by decide +kernel
theorem dX7_addNode_35 : decode cX7_addNode 35 = .ok (.getfield 21, 3) := by decide +kernel
theorem dX7_addNode_38 : decode cX7_addNode 38 = .ok (.aload_n 0, 1) := by decide +kernel
theorem dX7_addNode_39 : decode cX7_addNode 39 = .ok (.getfield 31, 3) := by decide +kernel
theorem dX7_addNode_42 : decode cX7_addNode 42 = .ok (.iaload, 1) := by decide +kernel
theorem dX7_addNode_43 : decode cX7_addNode 43 = .ok (.iadd, 1) := by decide +kernel
theorem dX7_addNode_44 : decode cX7_addNode 44 = .ok (.iload_n 1, 1) := by decide +kernel
theorem dX7_addNode_45 : decode cX7_addNode 45 = .ok (.i2b, 1) := by decide +kernel
theorem dX7_addNode_46 : decode cX7_addNode 46 = .ok (.bastore, 1) := by decide +kernel
theorem dX7_addNode_47 : decode cX7_addNode 47 = .ok (.aload_n 0, 1) := by decide +kernel
theorem dX7_addNode_48 : decode cX7_addNode 48 = .ok (.getfield 21, 3) := by decide +kernel
theorem dX7_addNode_51 : decode cX7_addNode 51 = .ok (.aload_n 0, 1) := by decide +kernel
theorem dX7_addNode_52 : decode cX7_addNode 52 = .ok (.getfield 31, 3) := by decide +kernel
theorem dX7_addNode_55 : decode cX7_addNode 55 = .ok (.dup2, 1) := by decide +kernel
theorem dX7_addNode_56 : decode cX7_addNode 56 = .ok (.iaload, 1) := by decide +kernel
theorem dX7_addNode_57 : decode cX7_addNode 57 = .ok (.iconst 1, 1) := by decide +kernel
theorem dX7_addNode_58 : decode cX7_addNode 58 = .ok (.iadd, 1) := by decide +kernel
theorem dX7_addNode_59 : decode cX7_addNode 59 = .ok (.iastore, 1) := by decide +kernel
theorem dX7_addNode_60 : decode cX7_addNode 60 = .ok (.return_, 1) := by decide +kernel
theorem dX7_close_0 : decode cX7_close 0 = .ok (.aload_n 0, 1) := by decide +kernel
theorem dX7_close_1 : decode cX7_close 1 = .ok (.getfield 31, 3) := by decide +kernel
theorem dX7_close_4 : decode cX7_close 4 = .ok (.bipush 60, 2) := by decide +kernel
theorem dX7_close_6 : decode cX7_close 6 = .ok (.if_icmp .ge 88, 3) := by decide +kernel
theorem dX7_close_9 : decode cX7_close 9 = .ok (.aload_n 0, 1) := by decide +kernel
theorem dX7_close_10 : decode cX7_close 10 = .ok (.getfield 21, 3) := by decide +kernel
theorem dX7_close_13 : decode cX7_close 13 = .ok (.aload_n 0, 1) := by decide +kernel
theorem dX7_close_14 : decode cX7_close 14 = .ok (.getfield 31, 3) := by decide +kernel
theorem dX7_close_17 : decode cX7_close 17 = .ok (.iaload, 1) := by decide +kernel
theorem dX7_close_18 : decode cX7_close 18 = .ok (.ifCond .le 76, 3) := by decide +kernel
theorem dX7_close_21 : decode cX7_close 21 = .ok (.aload_n 0, 1) := by decide +kernel
theorem dX7_close_22 : decode cX7_close 22 = .ok (.getfield 24, 3) := by decide +kernel
theorem dX7_close_25 : decode cX7_close 25 = .ok (.aload_n 0, 1) := by decide +kernel
theorem dX7_close_26 : decode cX7_close 26 = .ok (.getfield 31, 3) := by decide +kernel
theorem dX7_close_29 : decode cX7_close 29 = .ok (.bipush 17, 2) := by decide +kernel
theorem dX7_close_31 : decode cX7_close 31 = .ok (.imul, 1) := by decide +kernel
theorem dX7_close_32 : decode cX7_close 32 = .ok (.baload, 1) := by decide +kernel
theorem dX7_close_33 : decode cX7_close 33 = .ok (.istore_n 1, 1) := by decide +kernel
theorem dX7_close_34 : decode cX7_close 34 = .ok (.aload_n 0, 1) := by decide +kernel
theorem dX7_close_35 : decode cX7_close 35 = .ok (.getfield 24, 3) := by decide +kernel
theorem dX7_close_38 : decode cX7_close 38 = .ok (.aload_n 0, 1) := by decide +kernel
theorem dX7_close_39 : decode cX7_close 39 = .ok (.getfield 31, 3) := by decide +kernel
theorem dX7_close_42 : decode cX7_close 42 = .ok (.bipush 17, 2) := by decide +kernel
theorem dX7_close_44 : decode cX7_close 44 = .ok (.imul, 1) := by decide +kernel
theorem dX7_close_45 : decode cX7_close 45 = .ok (.aload_n 0, 1) := by decide +kernel
theorem dX7_close_46 : decode cX7_close 46 = .ok (.getfield 21, 3) := by decide +kernel
theorem dX7_close_49 : decode cX7_close 49 = .ok (.aload_n 0, 1) := by decide +kernel
theorem dX7_close_50 : decode cX7_close 50 = .ok (.getfield 31, 3) := by decide +kernel
theorem dX7_close_53 : decode cX7_close 53 = .ok (.iaload, 1) := by decide +kernel
theorem dX7_close_54 : decode cX7_close 54 = .ok (.iadd, 1) := by decide +kernel
theorem dX7_close_55 : decode cX7_close 55 = .ok (.iconst 1, 1) := by decide +kernel
theorem dX7_close_56 : decode cX7_close 56 = .ok (.isub, 1) := by decide +kernel
theorem dX7_close_57 : decode cX7_close 57 = .ok (.baload, 1) := by decide +kernel
theorem dX7_close_58 : decode cX7_close 58 = .ok (.istore_n 2, 1) := by decide +kernel
theorem dX7_close_59 : decode cX7_close 59 = .ok (.aload_n 0, 1) := by decide +kernel
theorem dX7_close_60 : decode cX7_close 60 = .ok (.getfield 28, 3) := by decide +kernel
theorem dX7_close_63 : decode cX7_close 63 = .ok (.aload_n 0, 1) := by decide +kernel
theorem dX7_close_64 : decode cX7_close 64 = .ok (.getfield 9, 3) := by decide +kernel
theorem dX7_close_67 : decode cX7_close 67 = .ok (.aload_n 0, 1) := by decide +kernel
theorem dX7_close_68 : decode cX7_close 68 = .ok (.getfield 31, 3) := by decide +kernel
theorem dX7_close_71 : decode cX7_close 71 = .ok (.iaload, 1) := by decide +kernel
theorem dX7_close_72 : decode cX7_close 72 = .ok (.bipush 16, 2) := by decide +kernel
theorem dX7_close_74 : decode cX7_close 74 = .ok (.imul, 1) := by decide +kernel
theorem dX7_close_75 : decode cX7_close 75 = .ok (.iload_n 1, 1) := by decide +kernel
theorem dX7_close_76 : decode cX7_close 76 = .ok (.iadd, 1) := by decide +kernel
theorem dX7_close_77 : decode cX7_close 77 = .ok (.dup2, 1) := by decide +kernel
theorem dX7_close_78 : decode cX7_close 78 = .ok (.iaload, 1) := by decide +kernel
theorem dX7_close_79 : decode cX7_close 79 = .ok (.iconst 1, 1) := by decide +kernel
theorem dX7_close_80 : decode cX7_close 80 = .ok (.iload_n 2, 1) := by decide +kernel
theorem dX7_close_81 : decode cX7_close 81 = .ok (.ishl, 1) := by decide +kernel
theorem dX7_close_82 : decode cX7_close 82 = .ok (.ior, 1) := by decide +kernel
theorem dX7_close_83 : decode cX7_close 83 = .ok (.iastore, 1) := by decide +kernel
theorem dX7_close_84 : decode cX7_close 84 = .ok (.aload_n 0, 1) := by decide +kernel
theorem dX7_close_85 : decode cX7_close 85 = .ok (.dup, 1) := by decide +kernel
theorem dX7_close_86 : decode cX7_close 86 = .ok (.getfield 31, 3) := by decide +kernel
theorem dX7_close_89 : decode cX7_close 89 = .ok (.iconst 1, 1) := by decide +kernel
theorem dX7_close_90 : decode cX7_close 90 = .ok (.iadd, 1) := by decide +kernel
theorem dX7_close_91 : decode cX7_close 91 = .ok (.putfield 31, 3) := by decide +kernel
theorem dX7_close_94 : decode cX7_close 94 = .ok (.return_, 1) := by decide +kernel
theorem dX7_nodeAt_0 : decode cX7_nodeAt 0 = .ok (.iload_n 1, 1) := by decide +kernel
theorem dX7_nodeAt_1 : decode cX7_nodeAt 1 = .ok (.ifCond .lt 25, 3) := by decide +kernel
theorem dX7_nodeAt_4 : decode cX7_nodeAt 4 = .ok (.iload_n 1, 1) := by decide +kernel
theorem dX7_nodeAt_5 : decode cX7_nodeAt 5 = .ok (.aload_n 0, 1) := by decide +kernel
theorem dX7_nodeAt_6 : decode cX7_nodeAt 6 = .ok (.getfield 31, 3) := by decide +kernel
theorem dX7_nodeAt_9 : decode cX7_nodeAt 9 = .ok (.if_icmp .ge 17, 3) := by decide +kernel
theorem dX7_nodeAt_12 : decode cX7_nodeAt 12 = .ok (.iload_n 2, 1) := by decide +kernel
theorem dX7_nodeAt_13 : decode cX7_nodeAt 13 = .ok (.ifCond .lt 13, 3) := by decide +kernel
theorem dX7_nodeAt_16 : decode cX7_nodeAt 16 = .ok (.iload_n 2, 1) := by decide +kernel
theorem dX7_nodeAt_17 : decode cX7_nodeAt 17 = .ok (.aload_n 0, 1) := by decide +kernel
theorem dX7_nodeAt_18 : decode cX7_nodeAt 18 = .ok (.getfield 21, 3) := by decide +kernel
theorem dX7_nodeAt_21 : decode cX7_nodeAt 21 = .ok (.iload_n 1, 1) := by decide +kernel
theorem dX7_nodeAt_22 : decode cX7_nodeAt 22 = .ok (.iaload, 1) := by decide +kernel
theorem dX7_nodeAt_23 : decode cX7_nodeAt 23 = .ok (.if_icmp .lt 5, 3) := by decide +kernel
theorem dX7_nodeAt_26 : decode cX7_nodeAt 26 = .ok (.iconst (-1), 1) := by decide +kernel
theorem dX7_nodeAt_27 : decode cX7_nodeAt 27 = .ok (.ireturn, 1) := by decide +kernel
theorem dX7_nodeAt_28 : decode cX7_nodeAt 28 = .ok (.aload_n 0, 1) := by decide +kernel
theorem dX7_nodeAt_29 : decode cX7_nodeAt 29 = .ok (.getfield 24, 3) := by decide +kernel
theorem dX7_nodeAt_32 : decode cX7_nodeAt 32 = .ok (.iload_n 1, 1) := by decide +kernel
theorem dX7_nodeAt_33 : decode cX7_nodeAt 33 = .ok (.bipush 17, 2) := by decide +kernel
theorem dX7_nodeAt_35 : decode cX7_nodeAt 35 = .ok (.imul, 1) := by decide +kernel
theorem dX7_nodeAt_36 : decode cX7_nodeAt 36 = .ok (.iload_n 2, 1) := by decide +kernel
theorem dX7_nodeAt_37 : decode cX7_nodeAt 37 = .ok (.iadd, 1) := by decide +kernel
theorem dX7_nodeAt_38 : decode cX7_nodeAt 38 = .ok (.baload, 1) := by decide +kernel
theorem dX7_nodeAt_39 : decode cX7_nodeAt 39 = .ok (.ireturn, 1) := by decide +kernel
theorem dX7_countOf_0 : decode cX7_countOf 0 = .ok (.iconst 0, 1) := by decide +kernel
theorem dX7_countOf_1 : decode cX7_countOf 1 = .ok (.istore_n 2, 1) := by decide +kernel
theorem dX7_countOf_2 : decode cX7_countOf 2 = .ok (.iconst 0, 1) := by decide +kernel
theorem dX7_countOf_3 : decode cX7_countOf 3 = .ok (.istore_n 3, 1) := by decide +kernel
theorem dX7_countOf_4 : decode cX7_countOf 4 = .ok (.iload_n 3, 1) := by decide +kernel
theorem dX7_countOf_5 : decode cX7_countOf 5 = .ok (.aload_n 0, 1) := by decide +kernel
theorem dX7_countOf_6 : decode cX7_countOf 6 = .ok (.getfield 31, 3) := by decide +kernel
theorem dX7_countOf_9 : decode cX7_countOf 9 = .ok (.if_icmp .ge 22, 3) := by decide +kernel
theorem dX7_countOf_12 : decode cX7_countOf 12 = .ok (.aload_n 0, 1) := by decide +kernel
theorem dX7_countOf_13 : decode cX7_countOf 13 = .ok (.getfield 9, 3) := by decide +kernel
theorem dX7_countOf_16 : decode cX7_countOf 16 = .ok (.iload_n 3, 1) := by decide +kernel
theorem dX7_countOf_17 : decode cX7_countOf 17 = .ok (.iaload, 1) := by decide +kernel
theorem dX7_countOf_18 : decode cX7_countOf 18 = .ok (.iload_n 1, 1) := by decide +kernel
theorem dX7_countOf_19 : decode cX7_countOf 19 = .ok (.if_icmp .ne 6, 3) := by decide +kernel
theorem dX7_countOf_22 : decode cX7_countOf 22 = .ok (.iinc 2 1, 3) := by decide +kernel
theorem dX7_countOf_25 : decode cX7_countOf 25 = .ok (.iinc 3 1, 3) := by decide +kernel
theorem dX7_countOf_28 : decode cX7_countOf 28 = .ok (.goto (-24), 3) := by decide +kernel
theorem dX7_countOf_31 : decode cX7_countOf 31 = .ok (.iload_n 2, 1) := by decide +kernel
theorem dX7_countOf_32 : decode cX7_countOf 32 = .ok (.ireturn, 1) := by decide +kernel
theorem dX7_kindsOf_0 : decode cX7_kindsOf 0 = .ok (.iconst 0, 1) := by decide +kernel
theorem dX7_kindsOf_1 : decode cX7_kindsOf 1 = .ok (.istore_n 2, 1) := by decide +kernel
theorem dX7_kindsOf_2 : decode cX7_kindsOf 2 = .ok (.iconst 0, 1) := by decide +kernel
theorem dX7_kindsOf_3 : decode cX7_kindsOf 3 = .ok (.istore_n 3, 1) := by decide +kernel
theorem dX7_kindsOf_4 : decode cX7_kindsOf 4 = .ok (.iload_n 3, 1) := by decide +kernel
theorem dX7_kindsOf_5 : decode cX7_kindsOf 5 = .ok (.aload_n 0, 1) := by decide +kernel
theorem dX7_kindsOf_6 : decode cX7_kindsOf 6 = .ok (.getfield 21, 3) := by decide +kernel
theorem dX7_kindsOf_9 : decode cX7_kindsOf 9 = .ok (.iload_n 1, 1) := by decide +kernel
theorem dX7_kindsOf_10 : decode cX7_kindsOf 10 = .ok (.iaload, 1) := by decide +kernel
theorem dX7_kindsOf_11 : decode cX7_kindsOf 11 = .ok (.if_icmp .ge 27, 3) := by decide +kernel
theorem dX7_kindsOf_14 : decode cX7_kindsOf 14 = .ok (.iload_n 2, 1) := by decide +kernel
theorem dX7_kindsOf_15 : decode cX7_kindsOf 15 = .ok (.iconst 1, 1) := by decide +kernel
theorem dX7_kindsOf_16 : decode cX7_kindsOf 16 = .ok (.aload_n 0, 1) := by decide +kernel
theorem dX7_kindsOf_17 : decode cX7_kindsOf 17 = .ok (.getfield 24, 3) := by decide +kernel
theorem dX7_kindsOf_20 : decode cX7_kindsOf 20 = .ok (.iload_n 1, 1) := by decide +kernel
theorem dX7_kindsOf_21 : decode cX7_kindsOf 21 = .ok (.bipush 17, 2) := by decide +kernel
theorem dX7_kindsOf_23 : decode cX7_kindsOf 23 = .ok (.imul, 1) := by decide +kernel
theorem dX7_kindsOf_24 : decode cX7_kindsOf 24 = .ok (.iload_n 3, 1) := by decide +kernel
theorem dX7_kindsOf_25 : decode cX7_kindsOf 25 = .ok (.iadd, 1) := by decide +kernel
theorem dX7_kindsOf_26 : decode cX7_kindsOf 26 = .ok (.baload, 1) := by decide +kernel
theorem dX7_kindsOf_27 : decode cX7_kindsOf 27 = .ok (.iconst 1, 1) := by decide +kernel
theorem dX7_kindsOf_28 : decode cX7_kindsOf 28 = .ok (.ishr, 1) := by decide +kernel
theorem dX7_kindsOf_29 : decode cX7_kindsOf 29 = .ok (.ishl, 1) := by decide +kernel
theorem dX7_kindsOf_30 : decode cX7_kindsOf 30 = .ok (.ior, 1) := by decide +kernel
theorem dX7_kindsOf_31 : decode cX7_kindsOf 31 = .ok (.istore_n 2, 1) := by decide +kernel
theorem dX7_kindsOf_32 : decode cX7_kindsOf 32 = .ok (.iinc 3 1, 3) := by decide +kernel
theorem dX7_kindsOf_35 : decode cX7_kindsOf 35 = .ok (.goto (-31), 3) := by decide +kernel
theorem dX7_kindsOf_38 : decode cX7_kindsOf 38 = .ok (.iload_n 2, 1) := by decide +kernel
theorem dX7_kindsOf_39 : decode cX7_kindsOf 39 = .ok (.ireturn, 1) := by decide +kernel
theorem dX7_kindsOfWaiting_0 : decode cX7_kindsOfWaiting 0 = .ok (.iconst 0, 1) := by decide +kernel
theorem dX7_kindsOfWaiting_1 : decode cX7_kindsOfWaiting 1 = .ok (.istore_n 1, 1) := by decide +kernel
theorem dX7_kindsOfWaiting_2 : decode cX7_kindsOfWaiting 2 = .ok (.iconst 0, 1) := by decide +kernel
theorem dX7_kindsOfWaiting_3 : decode cX7_kindsOfWaiting 3 = .ok (.istore_n 2, 1) := by decide +kernel
theorem dX7_kindsOfWaiting_4 : decode cX7_kindsOfWaiting 4 = .ok (.iload_n 2, 1) := by decide +kernel
theorem dX7_kindsOfWaiting_5 : decode cX7_kindsOfWaiting 5 = .ok (.aload_n 0, 1) := by decide +kernel
theorem dX7_kindsOfWaiting_6 : decode cX7_kindsOfWaiting 6 = .ok (.getfield 31, 3) := by decide +kernel
theorem dX7_kindsOfWaiting_9 : decode cX7_kindsOfWaiting 9 = .ok (.if_icmp .ge 28, 3) := by decide +kernel
theorem dX7_kindsOfWaiting_12 : decode cX7_kindsOfWaiting 12 = .ok (.aload_n 0, 1) := by decide +kernel
theorem dX7_kindsOfWaiting_13 : decode cX7_kindsOfWaiting 13 = .ok (.getfield 9, 3) := by decide +kernel
theorem dX7_kindsOfWaiting_16 : decode cX7_kindsOfWaiting 16 = .ok (.iload_n 2, 1) := by decide +kernel
theorem dX7_kindsOfWaiting_17 : decode cX7_kindsOfWaiting 17 = .ok (.iaload, 1) := by decide +kernel
theorem dX7_kindsOfWaiting_18 : decode cX7_kindsOfWaiting 18 = .ok (.bipush 7, 2) := by decide +kernel
theorem dX7_kindsOfWaiting_20 : decode cX7_kindsOfWaiting 20 = .ok (.if_icmp .gt 11, 3) := by decide +kernel
theorem dX7_kindsOfWaiting_23 : decode cX7_kindsOfWaiting 23 = .ok (.iload_n 1, 1) := by decide +kernel
theorem dX7_kindsOfWaiting_24 : decode cX7_kindsOfWaiting 24 = .ok (.aload_n 0, 1) := by decide +kernel
theorem dX7_kindsOfWaiting_25 : decode cX7_kindsOfWaiting 25 = .ok (.iload_n 2, 1) := by decide +kernel
theorem dX7_kindsOfWaiting_26 : decode cX7_kindsOfWaiting 26 = .ok (.invokevirtual 47, 3) := by decide +kernel
theorem dX7_kindsOfWaiting_29 : decode cX7_kindsOfWaiting 29 = .ok (.ior, 1) := by decide +kernel
theorem dX7_kindsOfWaiting_30 : decode cX7_kindsOfWaiting 30 = .ok (.istore_n 1, 1) := by decide +kernel
theorem dX7_kindsOfWaiting_31 : decode cX7_kindsOfWaiting 31 = .ok (.iinc 2 1, 3) := by decide +kernel
theorem dX7_kindsOfWaiting_34 : decode cX7_kindsOfWaiting 34 = .ok (.goto (-30), 3) := by decide +kernel
theorem dX7_kindsOfWaiting_37 : decode cX7_kindsOfWaiting 37 = .ok (.iload_n 1, 1) := by decide +kernel
theorem dX7_kindsOfWaiting_38 : decode cX7_kindsOfWaiting 38 = .ok (.ireturn, 1) := by decide +kernel
theorem dX8_init_0 : decode cX8_init 0 = .ok (.aload_n 0, 1) := by decide +kernel
theorem dX8_init_1 : decode cX8_init 1 = .ok (.invokespecial 5, 3) := by decide +kernel
theorem dX8_init_4 : decode cX8_init 4 = .ok (.aload_n 0, 1) := by decide +kernel
theorem dX8_init_5 : decode cX8_init 5 = .ok (.bipush 78, 2) := by decide +kernel
theorem dX8_init_7 : decode cX8_init 7 = .ok (.newarray .int, 2) := by decide +kernel
theorem dX8_init_9 : decode cX8_init 9 = .ok (.putfield 11, 3) := by decide +kernel
theorem dX8_init_12 : decode cX8_init 12 = .ok (.aload_n 0, 1) := by decide +kernel
theorem dX8_init_13 : decode cX8_init 13 = .ok (.sipush 4000, 3) := by decide +kernel
theorem dX8_init_16 : decode cX8_init 16 = .ok (.newarray .long, 2) := by decide +kernel
theorem dX8_init_18 : decode cX8_init 18 = .ok (.putfield 15, 3) := by decide +kernel
theorem dX8_init_21 : decode cX8_init 21 = .ok (.aload_n 0, 1) := by decide +kernel
theorem dX8_init_22 : decode cX8_init 22 = .ok (.sipush 4000, 3) := by decide +kernel
theorem dX8_init_25 : decode cX8_init 25 = .ok (.newarray .long, 2) := by decide +kernel
theorem dX8_init_27 : decode cX8_init 27 = .ok (.putfield 19, 3) := by decide +kernel
theorem dX8_init_30 : decode cX8_init 30 = .ok (.aload_n 0, 1) := by decide +kernel
theorem dX8_init_31 : decode cX8_init 31 = .ok (.sipush 4000, 3) := by decide +kernel
theorem dX8_init_34 : decode cX8_init 34 = .ok (.newarray .int, 2) := by decide +kernel
theorem dX8_init_36 : decode cX8_init 36 = .ok (.putfield 22, 3) := by decide +kernel
theorem dX8_init_39 : decode cX8_init 39 = .ok (.aload_n 0, 1) := by decide +kernel
theorem dX8_init_40 : decode cX8_init 40 = .ok (.sipush 8192, 3) := by decide +kernel
theorem dX8_init_43 : decode cX8_init 43 = .ok (.newarray .int, 2) := by decide +kernel
theorem dX8_init_45 : decode cX8_init 45 = .ok (.putfield 25, 3) := by decide +kernel
theorem dX8_init_48 : decode cX8_init 48 = .ok (.aload_n 0, 1) := by decide +kernel
theorem dX8_init_49 : decode cX8_init 49 = .ok (.bipush 72, 2) := by decide +kernel
theorem dX8_init_51 : decode cX8_init 51 = .ok (.newarray .int, 2) := by decide +kernel
theorem dX8_init_53 : decode cX8_init 53 = .ok (.putfield 28, 3) := by decide +kernel
theorem dX8_init_56 : decode cX8_init 56 = .ok (.aload_n 0, 1) := by decide +kernel
theorem dX8_init_57 : decode cX8_init 57 = .ok (.bipush 6, 2) := by decide +kernel
theorem dX8_init_59 : decode cX8_init 59 = .ok (.newarray .int, 2) := by decide +kernel
theorem dX8_init_61 : decode cX8_init 61 = .ok (.putfield 31, 3) := by decide +kernel
theorem dX8_init_64 : decode cX8_init 64 = .ok (.aload_n 0, 1) := by decide +kernel
theorem dX8_init_65 : decode cX8_init 65 = .ok (.bipush 6, 2) := by decide +kernel
theorem dX8_init_67 : decode cX8_init 67 = .ok (.newarray .int, 2) := by decide +kernel
theorem dX8_init_69 : decode cX8_init 69 = .ok (.putfield 34, 3) := by decide +kernel
theorem dX8_init_72 : decode cX8_init 72 = .ok (.aload_n 0, 1) := by decide +kernel
theorem dX8_init_73 : decode cX8_init 73 = .ok (.new 37, 3) := by decide +kernel
theorem dX8_init_76 : decode cX8_init 76 = .ok (.dup, 1) := by decide +kernel
theorem dX8_init_77 : decode cX8_init 77 = .ok (.invokespecial 39, 3) := by decide +kernel
theorem dX8_init_80 : decode cX8_init 80 = .ok (.putfield 40, 3) := by decide +kernel
theorem dX8_init_83 : decode cX8_init 83 = .ok (.return_, 1) := by decide +kernel
theorem dX8_search_0 : decode cX8_search 0 = .ok (.aload_n 0, 1) := by decide +kernel
theorem dX8_search_1 : decode cX8_search 1 = .ok (.aload_n 1, 1) := by decide +kernel
theorem dX8_search_2 : decode cX8_search 2 = .ok (.putfield 44, 3) := by decide +kernel
theorem dX8_search_5 : decode cX8_search 5 = .ok (.aload_n 0, 1) := by decide +kernel
theorem dX8_search_6 : decode cX8_search 6 = .ok (.aload_n 2, 1) := by decide +kernel
theorem dX8_search_7 : decode cX8_search 7 = .ok (.putfield 48, 3) := by decide +kernel
theorem dX8_search_10 : decode cX8_search 10 = .ok (.aload_n 0, 1) := by decide +kernel
theorem dX8_search_11 : decode cX8_search 11 = .ok (.iload_n 3, 1) := by decide +kernel
theorem dX8_search_12 : decode cX8_search 12 = .ok (.aload_n 0, 1) := by decide +kernel
theorem dX8_search_13 : decode cX8_search 13 = .ok (.getfield 44, 3) := by decide +kernel
theorem dX8_search_16 : decode cX8_search 16 = .ok (.invokevirtual 51, 3) := by decide +kernel
theorem dX8_search_19 : decode cX8_search 19 = .ok (.iand, 1) := by decide +kernel
theorem dX8_search_20 : decode cX8_search 20 = .ok (.putfield 57, 3) := by decide +kernel
theorem dX8_search_23 : decode cX8_search 23 = .ok (.aload_n 0, 1) := by decide +kernel
theorem dX8_search_24 : decode cX8_search 24 = .ok (.iload_n 3, 1) := by decide +kernel
theorem dX8_search_25 : decode cX8_search 25 = .ok (.aload_n 0, 1) := by decide +kernel
theorem dX8_search_26 : decode cX8_search 26 = .ok (.getfield 57, 3) := by decide +kernel
theorem dX8_search_29 : decode cX8_search 29 = .ok (.iconst (-1), 1) := by decide +kernel
theorem dX8_search_30 : decode cX8_search 30 = .ok (.ixor, 1) := by decide +kernel
theorem dX8_search_31 : decode cX8_search 31 = .ok (.iand, 1) := by decide +kernel
theorem dX8_search_32 : decode cX8_search 32 = .ok (.putfield 60, 3) := by decide +kernel
theorem dX8_search_35 : decode cX8_search 35 = .ok (.aload_n 0, 1) := by decide +kernel
theorem dX8_search_36 : decode cX8_search 36 = .ok (.iconst 3, 1) := by decide +kernel
theorem dX8_search_37 : decode cX8_search 37 = .ok (.putfield 63, 3) := by decide +kernel
theorem dX8_search_40 : decode cX8_search 40 = .ok (.aload_n 0, 1) := by decide +kernel
theorem dX8_search_41 : decode cX8_search 41 = .ok (.iconst 0, 1) := by decide +kernel
theorem dX8_search_42 : decode cX8_search 42 = .ok (.putfield 66, 3) := by decide +kernel
theorem dX8_search_45 : decode cX8_search 45 = .ok (.aload_n 0, 1) := by decide +kernel
theorem dX8_search_46 : decode cX8_search 46 = .ok (.iconst 0, 1) := by decide +kernel
theorem dX8_search_47 : decode cX8_search 47 = .ok (.putfield 69, 3) := by decide +kernel
theorem dX8_search_50 : decode cX8_search 50 = .ok (.aload_n 0, 1) := by decide +kernel
theorem dX8_search_51 : decode cX8_search 51 = .ok (.iconst 0, 1) := by decide +kernel
theorem dX8_search_52 : decode cX8_search 52 = .ok (.putfield 72, 3) := by decide +kernel
theorem dX8_search_55 : decode cX8_search 55 = .ok (.aload_n 0, 1) := by decide +kernel
theorem dX8_search_56 : decode cX8_search 56 = .ok (.iconst 0, 1) := by decide +kernel
theorem dX8_search_57 : decode cX8_search 57 = .ok (.putfield 75, 3) := by decide +kernel
theorem dX8_search_60 : decode cX8_search 60 = .ok (.aload_n 0, 1) := by decide +kernel
theorem dX8_search_61 : decode cX8_search 61 = .ok (.invokevirtual 78, 3) := by decide +kernel
theorem dX8_search_64 : decode cX8_search 64 = .ok (.aload_n 0, 1) := by decide +kernel
theorem dX8_search_65 : decode cX8_search 65 = .ok (.invokevirtual 81, 3) := by decide +kernel
theorem dX8_search_68 : decode cX8_search 68 = .ok (.aload_n 0, 1) := by decide +kernel
theorem dX8_search_69 : decode cX8_search 69 = .ok (.lconst 0, 1) := by decide +kernel
theorem dX8_search_70 : decode cX8_search 70 = .ok (.lconst 0, 1) := by decide +kernel
theorem dX8_search_71 : decode cX8_search 71 = .ok (.iconst 0, 1) := by decide +kernel
theorem dX8_search_72 : decode cX8_search 72 = .ok (.invokevirtual 84, 3) := by decide +kernel
theorem dX8_search_75 : decode cX8_search 75 = .ok (.pop, 1) := by decide +kernel
theorem dX8_search_76 : decode cX8_search 76 = .ok (.iconst 0, 1) := by decide +kernel
theorem dX8_search_77 : decode cX8_search 77 = .ok (.istore 4, 2) := by decide +kernel
theorem dX8_search_79 : decode cX8_search 79 = .ok (.iload 4, 2) := by decide +kernel
theorem dX8_search_81 : decode cX8_search 81 = .ok (.aload_n 0, 1) := by decide +kernel
theorem dX8_search_82 : decode cX8_search 82 = .ok (.getfield 66, 3) := by decide +kernel
theorem dX8_search_85 : decode cX8_search 85 = .ok (.if_icmp .ge 23, 3) := by decide +kernel
theorem dX8_search_88 : decode cX8_search 88 = .ok (.aload_n 0, 1) := by decide +kernel
theorem dX8_search_89 : decode cX8_search 89 = .ok (.getfield 63, 3) := by decide +kernel
theorem dX8_search_92 : decode cX8_search 92 = .ok (.iconst 3, 1) := by decide +kernel
theorem dX8_search_93 : decode cX8_search 93 = .ok (.if_icmp .ne 15, 3) := by decide +kernel
theorem dX8_search_96 : decode cX8_search 96 = .ok (.aload_n 0, 1) := by decide +kernel
theorem dX8_search_97 : decode cX8_search 97 = .ok (.iload 4, 2) := by decide +kernel
theorem dX8_search_99 : decode cX8_search 99 = .ok (.invokevirtual 88, 3) := by decide +kernel
theorem dX8_search_102 : decode cX8_search 102 = .ok (.iinc 4 1, 3) := by decide +kernel
theorem dX8_search_105 : decode cX8_search 105 = .ok (.goto (-26), 3) := by decide +kernel
theorem dX8_search_108 : decode cX8_search 108 = .ok (.aload_n 0, 1) := by decide +kernel
theorem dX8_search_109 : decode cX8_search 109 = .ok (.getfield 63, 3) := by decide +kernel
theorem dX8_search_112 : decode cX8_search 112 = .ok (.iconst 3, 1) := by decide +kernel
theorem dX8_search_113 : decode cX8_search 113 = .ok (.if_icmp .ne 8, 3) := by decide +kernel
theorem dX8_search_116 : decode cX8_search 116 = .ok (.aload_n 0, 1) := by decide +kernel
theorem dX8_search_117 : decode cX8_search 117 = .ok (.iconst 0, 1) := by decide +kernel
theorem dX8_search_118 : decode cX8_search 118 = .ok (.putfield 63, 3) := by decide +kernel
theorem dX8_search_121 : decode cX8_search 121 = .ok (.return_, 1) := by decide +kernel
theorem dX8_beginTurn_0 : decode cX8_beginTurn 0 = .ok (.aload_n 0, 1) := by decide +kernel
theorem dX8_beginTurn_1 : decode cX8_beginTurn 1 = .ok (.dup, 1) := by decide +kernel
theorem dX8_beginTurn_2 : decode cX8_beginTurn 2 = .ok (.getfield 92, 3) := by decide +kernel
theorem dX8_beginTurn_5 : decode cX8_beginTurn 5 = .ok (.iconst 1, 1) := by decide +kernel
theorem dX8_beginTurn_6 : decode cX8_beginTurn 6 = .ok (.iadd, 1) := by decide +kernel
theorem dX8_beginTurn_7 : decode cX8_beginTurn 7 = .ok (.putfield 92, 3) := by decide +kernel
theorem dX8_beginTurn_10 : decode cX8_beginTurn 10 = .ok (.aload_n 0, 1) := by decide +kernel
theorem dX8_beginTurn_11 : decode cX8_beginTurn 11 = .ok (.getfield 92, 3) := by decide +kernel
theorem dX8_beginTurn_14 : decode cX8_beginTurn 14 = .ok (.ldc 95, 2) := by decide +kernel
theorem dX8_beginTurn_16 : decode cX8_beginTurn 16 = .ok (.if_icmp .lt 16, 3) := by decide +kernel
theorem dX8_beginTurn_19 : decode cX8_beginTurn 19 = .ok (.aload_n 0, 1) := by decide +kernel
theorem dX8_beginTurn_20 : decode cX8_beginTurn 20 = .ok (.getfield 25, 3) := by decide +kernel
theorem dX8_beginTurn_23 : decode cX8_beginTurn 23 = .ok (.iconst 0, 1) := by decide +kernel
theorem dX8_beginTurn_24 : decode cX8_beginTurn 24 = .ok (.invokestatic 96, 3) := by decide +kernel
theorem dX8_beginTurn_27 : decode cX8_beginTurn 27 = .ok (.aload_n 0, 1) := by decide +kernel
theorem dX8_beginTurn_28 : decode cX8_beginTurn 28 = .ok (.iconst 1, 1) := by decide +kernel
theorem dX8_beginTurn_29 : decode cX8_beginTurn 29 = .ok (.putfield 92, 3) := by decide +kernel
theorem dX8_beginTurn_32 : decode cX8_beginTurn 32 = .ok (.return_, 1) := by decide +kernel
theorem dX8_seeWhatCanCome_0 : decode cX8_seeWhatCanCome 0 = .ok (.iconst 0, 1) := by decide +kernel
theorem dX8_seeWhatCanCome_1 : decode cX8_seeWhatCanCome 1 = .ok (.istore_n 1, 1) := by decide +kernel
theorem dX8_seeWhatCanCome_2 : decode cX8_seeWhatCanCome 2 = .ok (.iload_n 1, 1) := by decide +kernel
theorem dX8_seeWhatCanCome_3 : decode cX8_seeWhatCanCome 3 = .ok (.aload_n 0, 1) := by decide +kernel
theorem dX8_seeWhatCanCome_4 : decode cX8_seeWhatCanCome 4 = .ok (.getfield 44, 3) := by decide +kernel
theorem dX8_seeWhatCanCome_7 : decode cX8_seeWhatCanCome 7 = .ok (.getfield 102, 3) := by decide +kernel
theorem dX8_seeWhatCanCome_10 : decode cX8_seeWhatCanCome 10 = .ok (.if_icmp .ge 90, 3) := by decide +kernel
theorem dX8_seeWhatCanCome_13 : decode cX8_seeWhatCanCome 13 = .ok (.aload_n 0, 1) := by decide +kernel
theorem dX8_seeWhatCanCome_14 : decode cX8_seeWhatCanCome 14 = .ok (.getfield 44, 3) := by decide +kernel
theorem dX8_seeWhatCanCome_17 : decode cX8_seeWhatCanCome 17 = .ok (.getfield 105, 3) := by decide +kernel
theorem dX8_seeWhatCanCome_20 : decode cX8_seeWhatCanCome 20 = .ok (.iload_n 1, 1) := by decide +kernel
theorem dX8_seeWhatCanCome_21 : decode cX8_seeWhatCanCome 21 = .ok (.iaload, 1) := by decide +kernel
theorem dX8_seeWhatCanCome_22 : decode cX8_seeWhatCanCome 22 = .ok (.invokestatic 108, 3) := by decide +kernel
theorem dX8_seeWhatCanCome_25 : decode cX8_seeWhatCanCome 25 = .ok (.istore_n 2, 1) := by decide +kernel
theorem dX8_seeWhatCanCome_26 : decode cX8_seeWhatCanCome 26 = .ok (.iconst 0, 1) := by decide +kernel
theorem dX8_seeWhatCanCome_27 : decode cX8_seeWhatCanCome 27 = .ok (.istore_n 3, 1) := by decide +kernel
theorem dX8_seeWhatCanCome_28 : decode cX8_seeWhatCanCome 28 = .ok (.iload_n 3, 1) := by decide +kernel
theorem dX8_seeWhatCanCome_29 : decode cX8_seeWhatCanCome 29 = .ok (.aload_n 0, 1) := by decide +kernel
theorem dX8_seeWhatCanCome_30 : decode cX8_seeWhatCanCome 30 = .ok (.getfield 44, 3) := by decide +kernel
theorem dX8_seeWhatCanCome_33 : decode cX8_seeWhatCanCome 33 = .ok (.getfield 112, 3) := by decide +kernel
theorem dX8_seeWhatCanCome_36 : decode cX8_seeWhatCanCome 36 = .ok (.iload_n 1, 1) := by decide +kernel
theorem dX8_seeWhatCanCome_37 : decode cX8_seeWhatCanCome 37 = .ok (.iaload, 1) := by decide +kernel
theorem dX8_seeWhatCanCome_38 : decode cX8_seeWhatCanCome 38 = .ok (.if_icmp .ge 56, 3) := by decide +kernel
theorem dX8_seeWhatCanCome_41 : decode cX8_seeWhatCanCome 41 = .ok (.aload_n 0, 1) := by decide +kernel
theorem dX8_seeWhatCanCome_42 : decode cX8_seeWhatCanCome 42 = .ok (.getfield 28, 3) := by decide +kernel
theorem dX8_seeWhatCanCome_45 : decode cX8_seeWhatCanCome 45 = .ok (.iload_n 1, 1) := by decide +kernel
theorem dX8_seeWhatCanCome_46 : decode cX8_seeWhatCanCome 46 = .ok (.bipush 12, 2) := by decide +kernel
theorem dX8_seeWhatCanCome_48 : decode cX8_seeWhatCanCome 48 = .ok (.imul, 1) := by decide +kernel
theorem dX8_seeWhatCanCome_49 : decode cX8_seeWhatCanCome 49 = .ok (.iload_n 3, 1) := by decide +kernel
theorem dX8_seeWhatCanCome_50 : decode cX8_seeWhatCanCome 50 = .ok (.iadd, 1) := by decide +kernel
theorem dX8_seeWhatCanCome_51 : decode cX8_seeWhatCanCome 51 = .ok (.iload_n 2, 1) := by decide +kernel
theorem dX8_seeWhatCanCome_52 : decode cX8_seeWhatCanCome 52 = .ok (.invokestatic 115, 3) := by decide +kernel
theorem dX8_seeWhatCanCome_55 : decode cX8_seeWhatCanCome 55 = .ok (.iastore, 1) := by decide +kernel
theorem dX8_seeWhatCanCome_56 : decode cX8_seeWhatCanCome 56 = .ok (.aload_n 0, 1) := by decide +kernel
theorem dX8_seeWhatCanCome_57 : decode cX8_seeWhatCanCome 57 = .ok (.getfield 48, 3) := by decide +kernel
theorem dX8_seeWhatCanCome_60 : decode cX8_seeWhatCanCome 60 = .ok (.iload_n 1, 1) := by decide +kernel
theorem dX8_seeWhatCanCome_61 : decode cX8_seeWhatCanCome 61 = .ok (.bipush 12, 2) := by decide +kernel
theorem dX8_seeWhatCanCome_63 : decode cX8_seeWhatCanCome 63 = .ok (.imul, 1) := by decide +kernel
theorem dX8_seeWhatCanCome_64 : decode cX8_seeWhatCanCome 64 = .ok (.iload_n 3, 1) := by decide +kernel
theorem dX8_seeWhatCanCome_65 : decode cX8_seeWhatCanCome 65 = .ok (.iadd, 1) := by decide +kernel
theorem dX8_seeWhatCanCome_66 : decode cX8_seeWhatCanCome 66 = .ok (.iaload, 1) := by decide +kernel
theorem dX8_seeWhatCanCome_67 : decode cX8_seeWhatCanCome 67 = .ok (.invokestatic 118, 3) := by decide +kernel
theorem dX8_seeWhatCanCome_70 : decode cX8_seeWhatCanCome 70 = .ok (.istore 4, 2) := by decide +kernel
theorem dX8_seeWhatCanCome_72 : decode cX8_seeWhatCanCome 72 = .ok (.iload_n 2, 1) := by decide +kernel
theorem dX8_seeWhatCanCome_73 : decode cX8_seeWhatCanCome 73 = .ok (.aload_n 0, 1) := by decide +kernel
theorem dX8_seeWhatCanCome_74 : decode cX8_seeWhatCanCome 74 = .ok (.getfield 44, 3) := by decide +kernel
theorem dX8_seeWhatCanCome_77 : decode cX8_seeWhatCanCome 77 = .ok (.getfield 105, 3) := by decide +kernel
theorem dX8_seeWhatCanCome_80 : decode cX8_seeWhatCanCome 80 = .ok (.iload_n 1, 1) := by decide +kernel
theorem dX8_seeWhatCanCome_81 : decode cX8_seeWhatCanCome 81 = .ok (.iaload, 1) := by decide +kernel
theorem dX8_seeWhatCanCome_82 : decode cX8_seeWhatCanCome 82 = .ok (.iload 4, 2) := by decide +kernel
theorem dX8_seeWhatCanCome_84 : decode cX8_seeWhatCanCome 84 = .ok (.invokestatic 121, 3) := by decide +kernel
theorem dX8_seeWhatCanCome_87 : decode cX8_seeWhatCanCome 87 = .ok (.istore_n 2, 1) := by decide +kernel
theorem dX8_seeWhatCanCome_88 : decode cX8_seeWhatCanCome 88 = .ok (.iinc 3 1, 3) := by decide +kernel
theorem dX8_seeWhatCanCome_91 : decode cX8_seeWhatCanCome 91 = .ok (.goto (-63), 3) := by decide +kernel
theorem dX8_seeWhatCanCome_94 : decode cX8_seeWhatCanCome 94 = .ok (.iinc 1 1, 3) := by decide +kernel
theorem dX8_seeWhatCanCome_97 : decode cX8_seeWhatCanCome 97 = .ok (.goto (-95), 3) := by decide +kernel
theorem dX8_seeWhatCanCome_100 : decode cX8_seeWhatCanCome 100 = .ok (.return_, 1) := by decide +kernel
theorem dX8_goOnFrom_0 : decode cX8_goOnFrom 0 = .ok (.aload_n 0, 1) := by decide +kernel
theorem dX8_goOnFrom_1 : decode cX8_goOnFrom 1 = .ok (.getfield 15, 3) := by decide +kernel
theorem dX8_goOnFrom_4 : decode cX8_goOnFrom 4 = .ok (.iload_n 1, 1) := by decide +kernel
theorem dX8_goOnFrom_5 : decode cX8_goOnFrom 5 = .ok (.laload, 1) := by decide +kernel
theorem dX8_goOnFrom_6 : decode cX8_goOnFrom 6 = .ok (.lstore_n 2, 1) := by decide +kernel
theorem dX8_goOnFrom_7 : decode cX8_goOnFrom 7 = .ok (.iconst 0, 1) := by decide +kernel
theorem dX8_goOnFrom_8 : decode cX8_goOnFrom 8 = .ok (.istore 4, 2) := by decide +kernel
theorem dX8_goOnFrom_10 : decode cX8_goOnFrom 10 = .ok (.iload 4, 2) := by decide +kernel
theorem dX8_goOnFrom_12 : decode cX8_goOnFrom 12 = .ok (.aload_n 0, 1) := by decide +kernel
theorem dX8_goOnFrom_13 : decode cX8_goOnFrom 13 = .ok (.getfield 44, 3) := by decide +kernel
theorem dX8_goOnFrom_16 : decode cX8_goOnFrom 16 = .ok (.getfield 102, 3) := by decide +kernel
theorem dX8_goOnFrom_19 : decode cX8_goOnFrom 19 = .ok (.if_icmp .ge 182, 3) := by decide +kernel
theorem dX8_goOnFrom_22 : decode cX8_goOnFrom 22 = .ok (.aload_n 0, 1) := by decide +kernel
theorem dX8_goOnFrom_23 : decode cX8_goOnFrom 23 = .ok (.getfield 63, 3) := by decide +kernel
theorem dX8_goOnFrom_26 : decode cX8_goOnFrom 26 = .ok (.iconst 3, 1) := by decide +kernel
theorem dX8_goOnFrom_27 : decode cX8_goOnFrom 27 = .ok (.if_icmp .ne 174, 3) := by decide +kernel
theorem dX8_goOnFrom_30 : decode cX8_goOnFrom 30 = .ok (.aload_n 0, 1) := by decide +kernel
theorem dX8_goOnFrom_31 : decode cX8_goOnFrom 31 = .ok (.getfield 57, 3) := by decide +kernel
theorem dX8_goOnFrom_34 : decode cX8_goOnFrom 34 = .ok (.iload 4, 2) := by decide +kernel
theorem dX8_goOnFrom_36 : decode cX8_goOnFrom 36 = .ok (.invokestatic 125, 3) := by decide +kernel
theorem dX8_goOnFrom_39 : decode cX8_goOnFrom 39 = .ok (.ifCond .eq 13, 3) := by decide +kernel
theorem dX8_goOnFrom_42 : decode cX8_goOnFrom 42 = .ok (.aload_n 0, 1) := by decide +kernel
theorem dX8_goOnFrom_43 : decode cX8_goOnFrom 43 = .ok (.lload_n 2, 1) := by decide +kernel
theorem dX8_goOnFrom_44 : decode cX8_goOnFrom 44 = .ok (.iload 4, 2) := by decide +kernel
theorem dX8_goOnFrom_46 : decode cX8_goOnFrom 46 = .ok (.invokevirtual 129, 3) := by decide +kernel
theorem dX8_goOnFrom_49 : decode cX8_goOnFrom 49 = .ok (.goto 4, 3) := by decide +kernel
theorem dX8_goOnFrom_52 : decode cX8_goOnFrom 52 = .ok (.iconst (-1), 1) := by decide +kernel
theorem dX8_goOnFrom_53 : decode cX8_goOnFrom 53 = .ok (.istore 5, 2) := by decide +kernel
theorem dX8_goOnFrom_55 : decode cX8_goOnFrom 55 = .ok (.iload 5, 2) := by decide +kernel
theorem dX8_goOnFrom_57 : decode cX8_goOnFrom 57 = .ok (.iconst (-1), 1) := by decide +kernel
theorem dX8_goOnFrom_58 : decode cX8_goOnFrom 58 = .ok (.if_icmp .ne 6, 3) := by decide +kernel
theorem dX8_goOnFrom_61 : decode cX8_goOnFrom 61 = .ok (.goto 134, 3) := by decide +kernel
theorem dX8_goOnFrom_64 : decode cX8_goOnFrom 64 = .ok (.aload_n 0, 1) := by decide +kernel
theorem dX8_goOnFrom_65 : decode cX8_goOnFrom 65 = .ok (.lload_n 2, 1) := by decide +kernel
theorem dX8_goOnFrom_66 : decode cX8_goOnFrom 66 = .ok (.aload_n 0, 1) := by decide +kernel
theorem dX8_goOnFrom_67 : decode cX8_goOnFrom 67 = .ok (.getfield 19, 3) := by decide +kernel
theorem dX8_goOnFrom_70 : decode cX8_goOnFrom 70 = .ok (.iload_n 1, 1) := by decide +kernel
theorem dX8_goOnFrom_71 : decode cX8_goOnFrom 71 = .ok (.laload, 1) := by decide +kernel
theorem dX8_goOnFrom_72 : decode cX8_goOnFrom 72 = .ok (.iload 4, 2) := by decide +kernel
theorem dX8_goOnFrom_74 : decode cX8_goOnFrom 74 = .ok (.invokevirtual 133, 3) := by decide +kernel
theorem dX8_goOnFrom_77 : decode cX8_goOnFrom 77 = .ok (.iconst (-1), 1) := by decide +kernel
theorem dX8_goOnFrom_78 : decode cX8_goOnFrom 78 = .ok (.if_icmp .ne 21, 3) := by decide +kernel
theorem dX8_goOnFrom_81 : decode cX8_goOnFrom 81 = .ok (.aload_n 0, 1) := by decide +kernel
theorem dX8_goOnFrom_82 : decode cX8_goOnFrom 82 = .ok (.iload_n 1, 1) := by decide +kernel
theorem dX8_goOnFrom_83 : decode cX8_goOnFrom 83 = .ok (.iload 4, 2) := by decide +kernel
theorem dX8_goOnFrom_85 : decode cX8_goOnFrom 85 = .ok (.iload 5, 2) := by decide +kernel
theorem dX8_goOnFrom_87 : decode cX8_goOnFrom 87 = .ok (.invokevirtual 137, 3) := by decide +kernel
theorem dX8_goOnFrom_90 : decode cX8_goOnFrom 90 = .ok (.ifCond .eq 9, 3) := by decide +kernel
theorem dX8_goOnFrom_93 : decode cX8_goOnFrom 93 = .ok (.aload_n 0, 1) := by decide +kernel
theorem dX8_goOnFrom_94 : decode cX8_goOnFrom 94 = .ok (.iload 4, 2) := by decide +kernel
theorem dX8_goOnFrom_96 : decode cX8_goOnFrom 96 = .ok (.invokevirtual 141, 3) := by decide +kernel
theorem dX8_goOnFrom_99 : decode cX8_goOnFrom 99 = .ok (.aload_n 0, 1) := by decide +kernel
theorem dX8_goOnFrom_100 : decode cX8_goOnFrom 100 = .ok (.getfield 28, 3) := by decide +kernel
theorem dX8_goOnFrom_103 : decode cX8_goOnFrom 103 = .ok (.iload 5, 2) := by decide +kernel
theorem dX8_goOnFrom_105 : decode cX8_goOnFrom 105 = .ok (.bipush 12, 2) := by decide +kernel
theorem dX8_goOnFrom_107 : decode cX8_goOnFrom 107 = .ok (.imul, 1) := by decide +kernel
theorem dX8_goOnFrom_108 : decode cX8_goOnFrom 108 = .ok (.lload_n 2, 1) := by decide +kernel
theorem dX8_goOnFrom_109 : decode cX8_goOnFrom 109 = .ok (.iload 5, 2) := by decide +kernel
theorem dX8_goOnFrom_111 : decode cX8_goOnFrom 111 = .ok (.invokestatic 144, 3) := by decide +kernel
theorem dX8_goOnFrom_114 : decode cX8_goOnFrom 114 = .ok (.iadd, 1) := by decide +kernel
theorem dX8_goOnFrom_115 : decode cX8_goOnFrom 115 = .ok (.iaload, 1) := by decide +kernel
theorem dX8_goOnFrom_116 : decode cX8_goOnFrom 116 = .ok (.istore 6, 2) := by decide +kernel
theorem dX8_goOnFrom_118 : decode cX8_goOnFrom 118 = .ok (.iconst 0, 1) := by decide +kernel
theorem dX8_goOnFrom_119 : decode cX8_goOnFrom 119 = .ok (.istore 7, 2) := by decide +kernel
theorem dX8_goOnFrom_121 : decode cX8_goOnFrom 121 = .ok (.iload 7, 2) := by decide +kernel
theorem dX8_goOnFrom_123 : decode cX8_goOnFrom 123 = .ok (.aload_n 0, 1) := by decide +kernel
theorem dX8_goOnFrom_124 : decode cX8_goOnFrom 124 = .ok (.getfield 44, 3) := by decide +kernel
theorem dX8_goOnFrom_127 : decode cX8_goOnFrom 127 = .ok (.getfield 102, 3) := by decide +kernel
theorem dX8_goOnFrom_130 : decode cX8_goOnFrom 130 = .ok (.if_icmp .ge 65, 3) := by decide +kernel
theorem dX8_goOnFrom_133 : decode cX8_goOnFrom 133 = .ok (.aload_n 0, 1) := by decide +kernel
theorem dX8_goOnFrom_134 : decode cX8_goOnFrom 134 = .ok (.getfield 63, 3) := by decide +kernel
theorem dX8_goOnFrom_137 : decode cX8_goOnFrom 137 = .ok (.iconst 3, 1) := by decide +kernel
theorem dX8_goOnFrom_138 : decode cX8_goOnFrom 138 = .ok (.if_icmp .ne 57, 3) := by decide +kernel
theorem dX8_goOnFrom_141 : decode cX8_goOnFrom 141 = .ok (.aload_n 0, 1) := by decide +kernel
theorem dX8_goOnFrom_142 : decode cX8_goOnFrom 142 = .ok (.getfield 60, 3) := by decide +kernel
theorem dX8_goOnFrom_145 : decode cX8_goOnFrom 145 = .ok (.iload 7, 2) := by decide +kernel
theorem dX8_goOnFrom_147 : decode cX8_goOnFrom 147 = .ok (.invokestatic 125, 3) := by decide +kernel
theorem dX8_goOnFrom_150 : decode cX8_goOnFrom 150 = .ok (.ifCond .eq 39, 3) := by decide +kernel
theorem dX8_goOnFrom_153 : decode cX8_goOnFrom 153 = .ok (.iload 6, 2) := by decide +kernel
theorem dX8_goOnFrom_155 : decode cX8_goOnFrom 155 = .ok (.aload_n 0, 1) := by decide +kernel
theorem dX8_goOnFrom_156 : decode cX8_goOnFrom 156 = .ok (.getfield 44, 3) := by decide +kernel
theorem dX8_goOnFrom_159 : decode cX8_goOnFrom 159 = .ok (.getfield 105, 3) := by decide +kernel
theorem dX8_goOnFrom_162 : decode cX8_goOnFrom 162 = .ok (.iload 7, 2) := by decide +kernel
theorem dX8_goOnFrom_164 : decode cX8_goOnFrom 164 = .ok (.iaload, 1) := by decide +kernel
theorem dX8_goOnFrom_165 : decode cX8_goOnFrom 165 = .ok (.invokestatic 125, 3) := by decide +kernel
theorem dX8_goOnFrom_168 : decode cX8_goOnFrom 168 = .ok (.ifCond .eq 21, 3) := by decide +kernel
theorem dX8_goOnFrom_171 : decode cX8_goOnFrom 171 = .ok (.aload_n 0, 1) := by decide +kernel
theorem dX8_goOnFrom_172 : decode cX8_goOnFrom 172 = .ok (.iload_n 1, 1) := by decide +kernel
theorem dX8_goOnFrom_173 : decode cX8_goOnFrom 173 = .ok (.iload 4, 2) := by decide +kernel
theorem dX8_goOnFrom_175 : decode cX8_goOnFrom 175 = .ok (.iload 7, 2) := by decide +kernel
theorem dX8_goOnFrom_177 : decode cX8_goOnFrom 177 = .ok (.invokevirtual 147, 3) := by decide +kernel
theorem dX8_goOnFrom_180 : decode cX8_goOnFrom 180 = .ok (.ifCond .eq 9, 3) := by decide +kernel
theorem dX8_goOnFrom_183 : decode cX8_goOnFrom 183 = .ok (.aload_n 0, 1) := by decide +kernel
theorem dX8_goOnFrom_184 : decode cX8_goOnFrom 184 = .ok (.iload 4, 2) := by decide +kernel
theorem dX8_goOnFrom_186 : decode cX8_goOnFrom 186 = .ok (.invokevirtual 141, 3) := by decide +kernel
theorem dX8_goOnFrom_189 : decode cX8_goOnFrom 189 = .ok (.iinc 7 1, 3) := by decide +kernel
theorem dX8_goOnFrom_192 : decode cX8_goOnFrom 192 = .ok (.goto (-71), 3) := by decide +kernel
theorem dX8_goOnFrom_195 : decode cX8_goOnFrom 195 = .ok (.iinc 4 1, 3) := by decide +kernel
theorem dX8_goOnFrom_198 : decode cX8_goOnFrom 198 = .ok (.goto (-188), 3) := by decide +kernel
theorem dX8_goOnFrom_201 : decode cX8_goOnFrom 201 = .ok (.return_, 1) := by decide +kernel
theorem dX8_letCome_0 : decode cX8_letCome 0 = .ok (.bipush 24, 2) := by decide +kernel
theorem dX8_letCome_2 : decode cX8_letCome 2 = .ok (.iconst 3, 1) := by decide +kernel
theorem dX8_letCome_3 : decode cX8_letCome 3 = .ok (.iload_n 3, 1) := by decide +kernel
theorem dX8_letCome_4 : decode cX8_letCome 4 = .ok (.imul, 1) := by decide +kernel
theorem dX8_letCome_5 : decode cX8_letCome 5 = .ok (.iadd, 1) := by decide +kernel
theorem dX8_letCome_6 : decode cX8_letCome 6 = .ok (.istore 4, 2) := by decide +kernel
theorem dX8_letCome_8 : decode cX8_letCome 8 = .ok (.aload_n 0, 1) := by decide +kernel
theorem dX8_letCome_9 : decode cX8_letCome 9 = .ok (.getfield 15, 3) := by decide +kernel
theorem dX8_letCome_12 : decode cX8_letCome 12 = .ok (.iload_n 1, 1) := by decide +kernel
theorem dX8_letCome_13 : decode cX8_letCome 13 = .ok (.laload, 1) := by decide +kernel
theorem dX8_letCome_14 : decode cX8_letCome 14 = .ok (.lstore 5, 2) := by decide +kernel
theorem dX8_letCome_16 : decode cX8_letCome 16 = .ok (.lload 5, 2) := by decide +kernel
theorem dX8_letCome_18 : decode cX8_letCome 18 = .ok (.iload 4, 2) := by decide +kernel
theorem dX8_letCome_20 : decode cX8_letCome 20 = .ok (.lushr, 1) := by decide +kernel
theorem dX8_letCome_21 : decode cX8_letCome 21 = .ok (.ldc2_w 150, 3) := by decide +kernel
theorem dX8_letCome_24 : decode cX8_letCome 24 = .ok (.land, 1) := by decide +kernel
theorem dX8_letCome_25 : decode cX8_letCome 25 = .ok (.lconst 0, 1) := by decide +kernel
theorem dX8_letCome_26 : decode cX8_letCome 26 = .ok (.lcmp, 1) := by decide +kernel
theorem dX8_letCome_27 : decode cX8_letCome 27 = .ok (.ifCond .eq 5, 3) := by decide +kernel
theorem dX8_letCome_30 : decode cX8_letCome 30 = .ok (.iconst 0, 1) := by decide +kernel
theorem dX8_letCome_31 : decode cX8_letCome 31 = .ok (.ireturn, 1) := by decide +kernel
theorem dX8_letCome_32 : decode cX8_letCome 32 = .ok (.aload_n 0, 1) := by decide +kernel
theorem dX8_letCome_33 : decode cX8_letCome 33 = .ok (.lload 5, 2) := by decide +kernel
theorem dX8_letCome_35 : decode cX8_letCome 35 = .ok (.iload_n 2, 1) := by decide +kernel
theorem dX8_letCome_36 : decode cX8_letCome 36 = .ok (.i2l, 1) := by decide +kernel
theorem dX8_letCome_37 : decode cX8_letCome 37 = .ok (.lconst 1, 1) := by decide +kernel
theorem dX8_letCome_38 : decode cX8_letCome 38 = .ok (.ladd, 1) := by decide +kernel
theorem dX8_letCome_39 : decode cX8_letCome 39 = .ok (.iload 4, 2) := by decide +kernel
theorem dX8_letCome_41 : decode cX8_letCome 41 = .ok (.lshl, 1) := by decide +kernel
theorem dX8_letCome_42 : decode cX8_letCome 42 = .ok (.lor, 1) := by decide +kernel
theorem dX8_letCome_43 : decode cX8_letCome 43 = .ok (.aload_n 0, 1) := by decide +kernel
theorem dX8_letCome_44 : decode cX8_letCome 44 = .ok (.getfield 19, 3) := by decide +kernel
theorem dX8_letCome_47 : decode cX8_letCome 47 = .ok (.iload_n 1, 1) := by decide +kernel
theorem dX8_letCome_48 : decode cX8_letCome 48 = .ok (.laload, 1) := by decide +kernel
theorem dX8_letCome_49 : decode cX8_letCome 49 = .ok (.iload_n 1, 1) := by decide +kernel
theorem dX8_letCome_50 : decode cX8_letCome 50 = .ok (.bipush 6, 2) := by decide +kernel
theorem dX8_letCome_52 : decode cX8_letCome 52 = .ok (.ishl, 1) := by decide +kernel
theorem dX8_letCome_53 : decode cX8_letCome 53 = .ok (.iload_n 2, 1) := by decide +kernel
theorem dX8_letCome_54 : decode cX8_letCome 54 = .ok (.iconst 3, 1) := by decide +kernel
theorem dX8_letCome_55 : decode cX8_letCome 55 = .ok (.ishl, 1) := by decide +kernel
theorem dX8_letCome_56 : decode cX8_letCome 56 = .ok (.ior, 1) := by decide +kernel
theorem dX8_letCome_57 : decode cX8_letCome 57 = .ok (.iload_n 3, 1) := by decide +kernel
theorem dX8_letCome_58 : decode cX8_letCome 58 = .ok (.iconst 1, 1) := by decide +kernel
theorem dX8_letCome_59 : decode cX8_letCome 59 = .ok (.iadd, 1) := by decide +kernel
theorem dX8_letCome_60 : decode cX8_letCome 60 = .ok (.ior, 1) := by decide +kernel
theorem dX8_letCome_61 : decode cX8_letCome 61 = .ok (.invokevirtual 84, 3) := by decide +kernel
theorem dX8_letCome_64 : decode cX8_letCome 64 = .ok (.ireturn, 1) := by decide +kernel
theorem dX8_doStep_0 : decode cX8_doStep 0 = .ok (.aload_n 0, 1) := by decide +kernel
theorem dX8_doStep_1 : decode cX8_doStep 1 = .ok (.getfield 15, 3) := by decide +kernel
theorem dX8_doStep_4 : decode cX8_doStep 4 = .ok (.iload_n 1, 1) := by decide +kernel
theorem dX8_doStep_5 : decode cX8_doStep 5 = .ok (.laload, 1) := by decide +kernel
theorem dX8_doStep_6 : decode cX8_doStep 6 = .ok (.lstore 4, 2) := by decide +kernel
theorem dX8_doStep_8 : decode cX8_doStep 8 = .ok (.aload_n 0, 1) := by decide +kernel
theorem dX8_doStep_9 : decode cX8_doStep 9 = .ok (.getfield 19, 3) := by decide +kernel
theorem dX8_doStep_12 : decode cX8_doStep 12 = .ok (.iload_n 1, 1) := by decide +kernel
theorem dX8_doStep_13 : decode cX8_doStep 13 = .ok (.laload, 1) := by decide +kernel
theorem dX8_doStep_14 : decode cX8_doStep 14 = .ok (.lstore 6, 2) := by decide +kernel
theorem dX8_doStep_16 : decode cX8_doStep 16 = .ok (.aload_n 0, 1) := by decide +kernel
theorem dX8_doStep_17 : decode cX8_doStep 17 = .ok (.getfield 48, 3) := by decide +kernel
theorem dX8_doStep_20 : decode cX8_doStep 20 = .ok (.iload_n 3, 1) := by decide +kernel
theorem dX8_doStep_21 : decode cX8_doStep 21 = .ok (.bipush 12, 2) := by decide +kernel
theorem dX8_doStep_23 : decode cX8_doStep 23 = .ok (.imul, 1) := by decide +kernel
theorem dX8_doStep_24 : decode cX8_doStep 24 = .ok (.lload 4, 2) := by decide +kernel
theorem dX8_doStep_26 : decode cX8_doStep 26 = .ok (.iload_n 3, 1) := by decide +kernel
theorem dX8_doStep_27 : decode cX8_doStep 27 = .ok (.invokestatic 144, 3) := by decide +kernel
theorem dX8_doStep_30 : decode cX8_doStep 30 = .ok (.iadd, 1) := by decide +kernel
theorem dX8_doStep_31 : decode cX8_doStep 31 = .ok (.iaload, 1) := by decide +kernel
theorem dX8_doStep_32 : decode cX8_doStep 32 = .ok (.istore 8, 2) := by decide +kernel
theorem dX8_doStep_34 : decode cX8_doStep 34 = .ok (.iload 8, 2) := by decide +kernel
theorem dX8_doStep_36 : decode cX8_doStep 36 = .ok (.invokestatic 152, 3) := by decide +kernel
theorem dX8_doStep_39 : decode cX8_doStep 39 = .ok (.istore 9, 2) := by decide +kernel
theorem dX8_doStep_41 : decode cX8_doStep 41 = .ok (.lconst 1, 1) := by decide +kernel
theorem dX8_doStep_42 : decode cX8_doStep 42 = .ok (.bipush 6, 2) := by decide +kernel
theorem dX8_doStep_44 : decode cX8_doStep 44 = .ok (.iload 9, 2) := by decide +kernel
theorem dX8_doStep_46 : decode cX8_doStep 46 = .ok (.imul, 1) := by decide +kernel
theorem dX8_doStep_47 : decode cX8_doStep 47 = .ok (.iload_n 3, 1) := by decide +kernel
theorem dX8_doStep_48 : decode cX8_doStep 48 = .ok (.iadd, 1) := by decide +kernel
theorem dX8_doStep_49 : decode cX8_doStep 49 = .ok (.lshl, 1) := by decide +kernel
theorem dX8_doStep_50 : decode cX8_doStep 50 = .ok (.lstore 10, 2) := by decide +kernel
theorem dX8_doStep_52 : decode cX8_doStep 52 = .ok (.lconst 1, 1) := by decide +kernel
theorem dX8_doStep_53 : decode cX8_doStep 53 = .ok (.bipush 42, 2) := by decide +kernel
theorem dX8_doStep_55 : decode cX8_doStep 55 = .ok (.iload 9, 2) := by decide +kernel
theorem dX8_doStep_57 : decode cX8_doStep 57 = .ok (.iadd, 1) := by decide +kernel
theorem dX8_doStep_58 : decode cX8_doStep 58 = .ok (.lshl, 1) := by decide +kernel
theorem dX8_doStep_59 : decode cX8_doStep 59 = .ok (.lstore 12, 2) := by decide +kernel
theorem dX8_doStep_61 : decode cX8_doStep 61 = .ok (.iload 8, 2) := by decide +kernel
theorem dX8_doStep_63 : decode cX8_doStep 63 = .ok (.invokestatic 118, 3) := by decide +kernel
theorem dX8_doStep_66 : decode cX8_doStep 66 = .ok (.tableswitch 106 0 4 #[34, 34, 61, 34, 71], 34) := by decide +kernel
theorem dX8_doStep_100 : decode cX8_doStep 100 = .ok (.lload 6, 2) := by decide +kernel
theorem dX8_doStep_102 : decode cX8_doStep 102 = .ok (.iload 9, 2) := by decide +kernel
theorem dX8_doStep_104 : decode cX8_doStep 104 = .ok (.invokestatic 155, 3) := by decide +kernel
theorem dX8_doStep_107 : decode cX8_doStep 107 = .ok (.ifCond .ne 65, 3) := by decide +kernel
theorem dX8_doStep_110 : decode cX8_doStep 110 = .ok (.lload 6, 2) := by decide +kernel
theorem dX8_doStep_112 : decode cX8_doStep 112 = .ok (.lload 10, 2) := by decide +kernel
theorem dX8_doStep_114 : decode cX8_doStep 114 = .ok (.lor, 1) := by decide +kernel
theorem dX8_doStep_115 : decode cX8_doStep 115 = .ok (.lstore 6, 2) := by decide +kernel
theorem dX8_doStep_117 : decode cX8_doStep 117 = .ok (.lload 4, 2) := by decide +kernel
theorem dX8_doStep_119 : decode cX8_doStep 119 = .ok (.lload 12, 2) := by decide +kernel
theorem dX8_doStep_121 : decode cX8_doStep 121 = .ok (.lor, 1) := by decide +kernel
theorem dX8_doStep_122 : decode cX8_doStep 122 = .ok (.lstore 4, 2) := by decide +kernel
theorem dX8_doStep_124 : decode cX8_doStep 124 = .ok (.goto 48, 3) := by decide +kernel
theorem dX8_doStep_127 : decode cX8_doStep 127 = .ok (.lload 6, 2) := by decide +kernel
theorem dX8_doStep_129 : decode cX8_doStep 129 = .ok (.lload 10, 2) := by decide +kernel
theorem dX8_doStep_131 : decode cX8_doStep 131 = .ok (.lor, 1) := by decide +kernel
theorem dX8_doStep_132 : decode cX8_doStep 132 = .ok (.lstore 6, 2) := by decide +kernel
theorem dX8_doStep_134 : decode cX8_doStep 134 = .ok (.goto 38, 3) := by decide +kernel
theorem dX8_doStep_137 : decode cX8_doStep 137 = .ok (.lload 6, 2) := by decide +kernel
theorem dX8_doStep_139 : decode cX8_doStep 139 = .ok (.lload 10, 2) := by decide +kernel
theorem dX8_doStep_141 : decode cX8_doStep 141 = .ok (.land, 1) := by decide +kernel
theorem dX8_doStep_142 : decode cX8_doStep 142 = .ok (.lconst 0, 1) := by decide +kernel
theorem dX8_doStep_143 : decode cX8_doStep 143 = .ok (.lcmp, 1) := by decide +kernel
theorem dX8_doStep_144 : decode cX8_doStep 144 = .ok (.ifCond .eq 28, 3) := by decide +kernel
theorem dX8_doStep_147 : decode cX8_doStep 147 = .ok (.lload 6, 2) := by decide +kernel
theorem dX8_doStep_149 : decode cX8_doStep 149 = .ok (.lload 10, 2) := by decide +kernel
theorem dX8_doStep_151 : decode cX8_doStep 151 = .ok (.ldc2_w 158, 3) := by decide +kernel
theorem dX8_doStep_154 : decode cX8_doStep 154 = .ok (.lxor, 1) := by decide +kernel
theorem dX8_doStep_155 : decode cX8_doStep 155 = .ok (.land, 1) := by decide +kernel
theorem dX8_doStep_156 : decode cX8_doStep 156 = .ok (.lstore 6, 2) := by decide +kernel
theorem dX8_doStep_158 : decode cX8_doStep 158 = .ok (.lload 4, 2) := by decide +kernel
theorem dX8_doStep_160 : decode cX8_doStep 160 = .ok (.lload 12, 2) := by decide +kernel
theorem dX8_doStep_162 : decode cX8_doStep 162 = .ok (.ldc2_w 158, 3) := by decide +kernel
theorem dX8_doStep_165 : decode cX8_doStep 165 = .ok (.lxor, 1) := by decide +kernel
theorem dX8_doStep_166 : decode cX8_doStep 166 = .ok (.land, 1) := by decide +kernel
theorem dX8_doStep_167 : decode cX8_doStep 167 = .ok (.lstore 4, 2) := by decide +kernel
theorem dX8_doStep_169 : decode cX8_doStep 169 = .ok (.goto 3, 3) := by decide +kernel
theorem dX8_doStep_172 : decode cX8_doStep 172 = .ok (.aload_n 0, 1) := by decide +kernel
theorem dX8_doStep_173 : decode cX8_doStep 173 = .ok (.lload 4, 2) := by decide +kernel
theorem dX8_doStep_175 : decode cX8_doStep 175 = .ok (.lconst 1, 1) := by decide +kernel
theorem dX8_doStep_176 : decode cX8_doStep 176 = .ok (.iconst 4, 1) := by decide +kernel
theorem dX8_doStep_177 : decode cX8_doStep 177 = .ok (.iload_n 3, 1) := by decide +kernel
theorem dX8_doStep_178 : decode cX8_doStep 178 = .ok (.imul, 1) := by decide +kernel
theorem dX8_doStep_179 : decode cX8_doStep 179 = .ok (.lshl, 1) := by decide +kernel
theorem dX8_doStep_180 : decode cX8_doStep 180 = .ok (.ladd, 1) := by decide +kernel
theorem dX8_doStep_181 : decode cX8_doStep 181 = .ok (.lload 6, 2) := by decide +kernel
theorem dX8_doStep_183 : decode cX8_doStep 183 = .ok (.iload_n 1, 1) := by decide +kernel
theorem dX8_doStep_184 : decode cX8_doStep 184 = .ok (.bipush 6, 2) := by decide +kernel
theorem dX8_doStep_186 : decode cX8_doStep 186 = .ok (.ishl, 1) := by decide +kernel
theorem dX8_doStep_187 : decode cX8_doStep 187 = .ok (.iload_n 2, 1) := by decide +kernel
theorem dX8_doStep_188 : decode cX8_doStep 188 = .ok (.iconst 3, 1) := by decide +kernel
theorem dX8_doStep_189 : decode cX8_doStep 189 = .ok (.ishl, 1) := by decide +kernel
theorem dX8_doStep_190 : decode cX8_doStep 190 = .ok (.ior, 1) := by decide +kernel
theorem dX8_doStep_191 : decode cX8_doStep 191 = .ok (.invokevirtual 84, 3) := by decide +kernel
theorem dX8_doStep_194 : decode cX8_doStep 194 = .ok (.ireturn, 1) := by decide +kernel
theorem dX8_keep_0 : decode cX8_keep 0 = .ok (.aload_n 0, 1) := by decide +kernel
theorem dX8_keep_1 : decode cX8_keep 1 = .ok (.lload_n 1, 1) := by decide +kernel
theorem dX8_keep_2 : decode cX8_keep 2 = .ok (.lload_n 3, 1) := by decide +kernel
theorem dX8_keep_3 : decode cX8_keep 3 = .ok (.invokevirtual 160, 3) := by decide +kernel
theorem dX8_keep_6 : decode cX8_keep 6 = .ok (.istore 6, 2) := by decide +kernel
theorem dX8_keep_8 : decode cX8_keep 8 = .ok (.iload 6, 2) := by decide +kernel
theorem dX8_keep_10 : decode cX8_keep 10 = .ok (.iconst (-1), 1) := by decide +kernel
theorem dX8_keep_11 : decode cX8_keep 11 = .ok (.if_icmp .ne 5, 3) := by decide +kernel
theorem dX8_keep_14 : decode cX8_keep 14 = .ok (.iconst 0, 1) := by decide +kernel
theorem dX8_keep_15 : decode cX8_keep 15 = .ok (.ireturn, 1) := by decide +kernel
theorem dX8_keep_16 : decode cX8_keep 16 = .ok (.aload_n 0, 1) := by decide +kernel
theorem dX8_keep_17 : decode cX8_keep 17 = .ok (.getfield 66, 3) := by decide +kernel
theorem dX8_keep_20 : decode cX8_keep 20 = .ok (.sipush 4000, 3) := by decide +kernel
theorem dX8_keep_23 : decode cX8_keep 23 = .ok (.if_icmp .ne 10, 3) := by decide +kernel
theorem dX8_keep_26 : decode cX8_keep 26 = .ok (.aload_n 0, 1) := by decide +kernel
theorem dX8_keep_27 : decode cX8_keep 27 = .ok (.iconst 2, 1) := by decide +kernel
theorem dX8_keep_28 : decode cX8_keep 28 = .ok (.putfield 63, 3) := by decide +kernel
theorem dX8_keep_31 : decode cX8_keep 31 = .ok (.iconst 0, 1) := by decide +kernel
theorem dX8_keep_32 : decode cX8_keep 32 = .ok (.ireturn, 1) := by decide +kernel
theorem dX8_keep_33 : decode cX8_keep 33 = .ok (.aload_n 0, 1) := by decide +kernel
theorem dX8_keep_34 : decode cX8_keep 34 = .ok (.getfield 15, 3) := by decide +kernel
theorem dX8_keep_37 : decode cX8_keep 37 = .ok (.aload_n 0, 1) := by decide +kernel
theorem dX8_keep_38 : decode cX8_keep 38 = .ok (.getfield 66, 3) := by decide +kernel
theorem dX8_keep_41 : decode cX8_keep 41 = .ok (.lload_n 1, 1) := by decide +kernel
theorem dX8_keep_42 : decode cX8_keep 42 = .ok (.lastore, 1) := by decide +kernel
theorem dX8_keep_43 : decode cX8_keep 43 = .ok (.aload_n 0, 1) := by decide +kernel
theorem dX8_keep_44 : decode cX8_keep 44 = .ok (.getfield 19, 3) := by decide +kernel
theorem dX8_keep_47 : decode cX8_keep 47 = .ok (.aload_n 0, 1) := by decide +kernel
theorem dX8_keep_48 : decode cX8_keep 48 = .ok (.getfield 66, 3) := by decide +kernel
theorem dX8_keep_51 : decode cX8_keep 51 = .ok (.lload_n 3, 1) := by decide +kernel
theorem dX8_keep_52 : decode cX8_keep 52 = .ok (.lastore, 1) := by decide +kernel
theorem dX8_keep_53 : decode cX8_keep 53 = .ok (.aload_n 0, 1) := by decide +kernel
theorem dX8_keep_54 : decode cX8_keep 54 = .ok (.getfield 22, 3) := by decide +kernel
theorem dX8_keep_57 : decode cX8_keep 57 = .ok (.aload_n 0, 1) := by decide +kernel
theorem dX8_keep_58 : decode cX8_keep 58 = .ok (.getfield 66, 3) := by decide +kernel
theorem dX8_keep_61 : decode cX8_keep 61 = .ok (.iload 5, 2) := by decide +kernel
theorem dX8_keep_63 : decode cX8_keep 63 = .ok (.iastore, 1) := by decide +kernel
theorem dX8_keep_64 : decode cX8_keep 64 = .ok (.aload_n 0, 1) := by decide +kernel
theorem dX8_keep_65 : decode cX8_keep 65 = .ok (.getfield 25, 3) := by decide +kernel
theorem dX8_keep_68 : decode cX8_keep 68 = .ok (.iload 6, 2) := by decide +kernel
theorem dX8_keep_70 : decode cX8_keep 70 = .ok (.aload_n 0, 1) := by decide +kernel
theorem dX8_keep_71 : decode cX8_keep 71 = .ok (.getfield 92, 3) := by decide +kernel
theorem dX8_keep_74 : decode cX8_keep 74 = .ok (.bipush 13, 2) := by decide +kernel
theorem dX8_keep_76 : decode cX8_keep 76 = .ok (.ishl, 1) := by decide +kernel
theorem dX8_keep_77 : decode cX8_keep 77 = .ok (.aload_n 0, 1) := by decide +kernel
theorem dX8_keep_78 : decode cX8_keep 78 = .ok (.getfield 66, 3) := by decide +kernel
theorem dX8_keep_81 : decode cX8_keep 81 = .ok (.ior, 1) := by decide +kernel
theorem dX8_keep_82 : decode cX8_keep 82 = .ok (.iastore, 1) := by decide +kernel
theorem dX8_keep_83 : decode cX8_keep 83 = .ok (.aload_n 0, 1) := by decide +kernel
theorem dX8_keep_84 : decode cX8_keep 84 = .ok (.dup, 1) := by decide +kernel
theorem dX8_keep_85 : decode cX8_keep 85 = .ok (.getfield 66, 3) := by decide +kernel
theorem dX8_keep_88 : decode cX8_keep 88 = .ok (.iconst 1, 1) := by decide +kernel
theorem dX8_keep_89 : decode cX8_keep 89 = .ok (.iadd, 1) := by decide +kernel
theorem dX8_keep_90 : decode cX8_keep 90 = .ok (.putfield 66, 3) := by decide +kernel
theorem dX8_keep_93 : decode cX8_keep 93 = .ok (.iconst 1, 1) := by decide +kernel
theorem dX8_keep_94 : decode cX8_keep 94 = .ok (.ireturn, 1) := by decide +kernel
theorem dX8_slotOf_0 : decode cX8_slotOf 0 = .ok (.lload_n 1, 1) := by decide +kernel
theorem dX8_slotOf_1 : decode cX8_slotOf 1 = .ok (.ldc2_w 164, 3) := by decide +kernel
theorem dX8_slotOf_4 : decode cX8_slotOf 4 = .ok (.lmul, 1) := by decide +kernel
theorem dX8_slotOf_5 : decode cX8_slotOf 5 = .ok (.lload_n 3, 1) := by decide +kernel
theorem dX8_slotOf_6 : decode cX8_slotOf 6 = .ok (.lxor, 1) := by decide +kernel
theorem dX8_slotOf_7 : decode cX8_slotOf 7 = .ok (.ldc2_w 166, 3) := by decide +kernel
theorem dX8_slotOf_10 : decode cX8_slotOf 10 = .ok (.lmul, 1) := by decide +kernel
theorem dX8_slotOf_11 : decode cX8_slotOf 11 = .ok (.lstore 5, 2) := by decide +kernel
theorem dX8_slotOf_13 : decode cX8_slotOf 13 = .ok (.lload 5, 2) := by decide +kernel
theorem dX8_slotOf_15 : decode cX8_slotOf 15 = .ok (.bipush 51, 2) := by decide +kernel
theorem dX8_slotOf_17 : decode cX8_slotOf 17 = .ok (.lushr, 1) := by decide +kernel
theorem dX8_slotOf_18 : decode cX8_slotOf 18 = .ok (.l2i, 1) := by decide +kernel
theorem dX8_slotOf_19 : decode cX8_slotOf 19 = .ok (.istore 7, 2) := by decide +kernel
theorem dX8_slotOf_21 : decode cX8_slotOf 21 = .ok (.iconst 0, 1) := by decide +kernel
theorem dX8_slotOf_22 : decode cX8_slotOf 22 = .ok (.istore 8, 2) := by decide +kernel
theorem dX8_slotOf_24 : decode cX8_slotOf 24 = .ok (.iload 8, 2) := by decide +kernel
