theorem dX8_slotOf_26 : decode cX8_slotOf 26 = .ok (.sipush 8192, 3) := by decide +kernel
theorem dX8_slotOf_29 : decode cX8_slotOf 29 = .ok (.if_icmp .ge 78, 3) := by decide +kernel
theorem dX8_slotOf_32 : decode cX8_slotOf 32 = .ok (.aload_n 0, 1) := by decide +kernel
theorem dX8_slotOf_33 : decode cX8_slotOf 33 = .ok (.getfield 25, 3) := by decide +kernel
theorem dX8_slotOf_36 : decode cX8_slotOf 36 = .ok (.iload 7, 2) := by decide +kernel
theorem dX8_slotOf_38 : decode cX8_slotOf 38 = .ok (.iaload, 1) := by decide +kernel
theorem dX8_slotOf_39 : decode cX8_slotOf 39 = .ok (.bipush 13, 2) := by decide +kernel
theorem dX8_slotOf_41 : decode cX8_slotOf 41 = .ok (.iushr, 1) := by decide +kernel
theorem dX8_slotOf_42 : decode cX8_slotOf 42 = .ok (.aload_n 0, 1) := by decide +kernel
theorem dX8_slotOf_43 : decode cX8_slotOf 43 = .ok (.getfield 92, 3) := by decide +kernel
theorem dX8_slotOf_46 : decode cX8_slotOf 46 = .ok (.if_icmp .eq 6, 3) := by decide +kernel
theorem dX8_slotOf_49 : decode cX8_slotOf 49 = .ok (.iload 7, 2) := by decide +kernel
theorem dX8_slotOf_51 : decode cX8_slotOf 51 = .ok (.ireturn, 1) := by decide +kernel
theorem dX8_slotOf_52 : decode cX8_slotOf 52 = .ok (.aload_n 0, 1) := by decide +kernel
theorem dX8_slotOf_53 : decode cX8_slotOf 53 = .ok (.getfield 25, 3) := by decide +kernel
theorem dX8_slotOf_56 : decode cX8_slotOf 56 = .ok (.iload 7, 2) := by decide +kernel
theorem dX8_slotOf_58 : decode cX8_slotOf 58 = .ok (.iaload, 1) := by decide +kernel
theorem dX8_slotOf_59 : decode cX8_slotOf 59 = .ok (.sipush 8191, 3) := by decide +kernel
theorem dX8_slotOf_62 : decode cX8_slotOf 62 = .ok (.iand, 1) := by decide +kernel
theorem dX8_slotOf_63 : decode cX8_slotOf 63 = .ok (.istore 9, 2) := by decide +kernel
theorem dX8_slotOf_65 : decode cX8_slotOf 65 = .ok (.aload_n 0, 1) := by decide +kernel
theorem dX8_slotOf_66 : decode cX8_slotOf 66 = .ok (.getfield 15, 3) := by decide +kernel
theorem dX8_slotOf_69 : decode cX8_slotOf 69 = .ok (.iload 9, 2) := by decide +kernel
theorem dX8_slotOf_71 : decode cX8_slotOf 71 = .ok (.laload, 1) := by decide +kernel
theorem dX8_slotOf_72 : decode cX8_slotOf 72 = .ok (.lload_n 1, 1) := by decide +kernel
theorem dX8_slotOf_73 : decode cX8_slotOf 73 = .ok (.lcmp, 1) := by decide +kernel
theorem dX8_slotOf_74 : decode cX8_slotOf 74 = .ok (.ifCond .ne 17, 3) := by decide +kernel
theorem dX8_slotOf_77 : decode cX8_slotOf 77 = .ok (.aload_n 0, 1) := by decide +kernel
theorem dX8_slotOf_78 : decode cX8_slotOf 78 = .ok (.getfield 19, 3) := by decide +kernel
theorem dX8_slotOf_81 : decode cX8_slotOf 81 = .ok (.iload 9, 2) := by decide +kernel
theorem dX8_slotOf_83 : decode cX8_slotOf 83 = .ok (.laload, 1) := by decide +kernel
theorem dX8_slotOf_84 : decode cX8_slotOf 84 = .ok (.lload_n 3, 1) := by decide +kernel
theorem dX8_slotOf_85 : decode cX8_slotOf 85 = .ok (.lcmp, 1) := by decide +kernel
theorem dX8_slotOf_86 : decode cX8_slotOf 86 = .ok (.ifCond .ne 5, 3) := by decide +kernel
theorem dX8_slotOf_89 : decode cX8_slotOf 89 = .ok (.iconst (-1), 1) := by decide +kernel
theorem dX8_slotOf_90 : decode cX8_slotOf 90 = .ok (.ireturn, 1) := by decide +kernel
theorem dX8_slotOf_91 : decode cX8_slotOf 91 = .ok (.iload 7, 2) := by decide +kernel
theorem dX8_slotOf_93 : decode cX8_slotOf 93 = .ok (.iconst 1, 1) := by decide +kernel
theorem dX8_slotOf_94 : decode cX8_slotOf 94 = .ok (.iadd, 1) := by decide +kernel
theorem dX8_slotOf_95 : decode cX8_slotOf 95 = .ok (.sipush 8191, 3) := by decide +kernel
theorem dX8_slotOf_98 : decode cX8_slotOf 98 = .ok (.iand, 1) := by decide +kernel
theorem dX8_slotOf_99 : decode cX8_slotOf 99 = .ok (.istore 7, 2) := by decide +kernel
theorem dX8_slotOf_101 : decode cX8_slotOf 101 = .ok (.iinc 8 1, 3) := by decide +kernel
theorem dX8_slotOf_104 : decode cX8_slotOf 104 = .ok (.goto (-80), 3) := by decide +kernel
theorem dX8_slotOf_107 : decode cX8_slotOf 107 = .ok (.iconst (-1), 1) := by decide +kernel
theorem dX8_slotOf_108 : decode cX8_slotOf 108 = .ok (.ireturn, 1) := by decide +kernel
theorem dX8_findRing_0 : decode cX8_findRing 0 = .ok (.aload_n 0, 1) := by decide +kernel
theorem dX8_findRing_1 : decode cX8_findRing 1 = .ok (.getfield 15, 3) := by decide +kernel
theorem dX8_findRing_4 : decode cX8_findRing 4 = .ok (.aload_n 0, 1) := by decide +kernel
theorem dX8_findRing_5 : decode cX8_findRing 5 = .ok (.getfield 66, 3) := by decide +kernel
theorem dX8_findRing_8 : decode cX8_findRing 8 = .ok (.iconst 1, 1) := by decide +kernel
theorem dX8_findRing_9 : decode cX8_findRing 9 = .ok (.isub, 1) := by decide +kernel
theorem dX8_findRing_10 : decode cX8_findRing 10 = .ok (.laload, 1) := by decide +kernel
theorem dX8_findRing_11 : decode cX8_findRing 11 = .ok (.lstore_n 2, 1) := by decide +kernel
theorem dX8_findRing_12 : decode cX8_findRing 12 = .ok (.aload_n 0, 1) := by decide +kernel
theorem dX8_findRing_13 : decode cX8_findRing 13 = .ok (.getfield 19, 3) := by decide +kernel
theorem dX8_findRing_16 : decode cX8_findRing 16 = .ok (.aload_n 0, 1) := by decide +kernel
theorem dX8_findRing_17 : decode cX8_findRing 17 = .ok (.getfield 66, 3) := by decide +kernel
theorem dX8_findRing_20 : decode cX8_findRing 20 = .ok (.iconst 1, 1) := by decide +kernel
theorem dX8_findRing_21 : decode cX8_findRing 21 = .ok (.isub, 1) := by decide +kernel
theorem dX8_findRing_22 : decode cX8_findRing 22 = .ok (.laload, 1) := by decide +kernel
theorem dX8_findRing_23 : decode cX8_findRing 23 = .ok (.lstore 4, 2) := by decide +kernel
theorem dX8_findRing_25 : decode cX8_findRing 25 = .ok (.aload_n 0, 1) := by decide +kernel
theorem dX8_findRing_26 : decode cX8_findRing 26 = .ok (.lload_n 2, 1) := by decide +kernel
theorem dX8_findRing_27 : decode cX8_findRing 27 = .ok (.lload 4, 2) := by decide +kernel
theorem dX8_findRing_29 : decode cX8_findRing 29 = .ok (.iload_n 1, 1) := by decide +kernel
theorem dX8_findRing_30 : decode cX8_findRing 30 = .ok (.invokevirtual 133, 3) := by decide +kernel
theorem dX8_findRing_33 : decode cX8_findRing 33 = .ok (.iconst (-1), 1) := by decide +kernel
theorem dX8_findRing_34 : decode cX8_findRing 34 = .ok (.if_icmp .ne 4, 3) := by decide +kernel
theorem dX8_findRing_37 : decode cX8_findRing 37 = .ok (.return_, 1) := by decide +kernel
theorem dX8_findRing_38 : decode cX8_findRing 38 = .ok (.iconst 0, 1) := by decide +kernel
theorem dX8_findRing_39 : decode cX8_findRing 39 = .ok (.istore 6, 2) := by decide +kernel
theorem dX8_findRing_41 : decode cX8_findRing 41 = .ok (.iload 6, 2) := by decide +kernel
theorem dX8_findRing_43 : decode cX8_findRing 43 = .ok (.bipush 6, 2) := by decide +kernel
theorem dX8_findRing_45 : decode cX8_findRing 45 = .ok (.if_icmp .ge 80, 3) := by decide +kernel
theorem dX8_findRing_48 : decode cX8_findRing 48 = .ok (.aload_n 0, 1) := by decide +kernel
theorem dX8_findRing_49 : decode cX8_findRing 49 = .ok (.getfield 31, 3) := by decide +kernel
theorem dX8_findRing_52 : decode cX8_findRing 52 = .ok (.iload 6, 2) := by decide +kernel
theorem dX8_findRing_54 : decode cX8_findRing 54 = .ok (.aload_n 0, 1) := by decide +kernel
theorem dX8_findRing_55 : decode cX8_findRing 55 = .ok (.getfield 57, 3) := by decide +kernel
theorem dX8_findRing_58 : decode cX8_findRing 58 = .ok (.iload 6, 2) := by decide +kernel
theorem dX8_findRing_60 : decode cX8_findRing 60 = .ok (.invokestatic 125, 3) := by decide +kernel
theorem dX8_findRing_63 : decode cX8_findRing 63 = .ok (.ifCond .eq 15, 3) := by decide +kernel
theorem dX8_findRing_66 : decode cX8_findRing 66 = .ok (.aload_n 0, 1) := by decide +kernel
theorem dX8_findRing_67 : decode cX8_findRing 67 = .ok (.lload_n 2, 1) := by decide +kernel
theorem dX8_findRing_68 : decode cX8_findRing 68 = .ok (.lload 4, 2) := by decide +kernel
theorem dX8_findRing_70 : decode cX8_findRing 70 = .ok (.iload 6, 2) := by decide +kernel
theorem dX8_findRing_72 : decode cX8_findRing 72 = .ok (.invokevirtual 133, 3) := by decide +kernel
theorem dX8_findRing_75 : decode cX8_findRing 75 = .ok (.goto 4, 3) := by decide +kernel
theorem dX8_findRing_78 : decode cX8_findRing 78 = .ok (.iconst (-1), 1) := by decide +kernel
theorem dX8_findRing_79 : decode cX8_findRing 79 = .ok (.iastore, 1) := by decide +kernel
theorem dX8_findRing_80 : decode cX8_findRing 80 = .ok (.aload_n 0, 1) := by decide +kernel
theorem dX8_findRing_81 : decode cX8_findRing 81 = .ok (.getfield 34, 3) := by decide +kernel
theorem dX8_findRing_84 : decode cX8_findRing 84 = .ok (.iload 6, 2) := by decide +kernel
theorem dX8_findRing_86 : decode cX8_findRing 86 = .ok (.aload_n 0, 1) := by decide +kernel
theorem dX8_findRing_87 : decode cX8_findRing 87 = .ok (.getfield 31, 3) := by decide +kernel
theorem dX8_findRing_90 : decode cX8_findRing 90 = .ok (.iload 6, 2) := by decide +kernel
theorem dX8_findRing_92 : decode cX8_findRing 92 = .ok (.iaload, 1) := by decide +kernel
theorem dX8_findRing_93 : decode cX8_findRing 93 = .ok (.iconst (-1), 1) := by decide +kernel
theorem dX8_findRing_94 : decode cX8_findRing 94 = .ok (.if_icmp .ne 7, 3) := by decide +kernel
theorem dX8_findRing_97 : decode cX8_findRing 97 = .ok (.iconst 0, 1) := by decide +kernel
theorem dX8_findRing_98 : decode cX8_findRing 98 = .ok (.goto 20, 3) := by decide +kernel
theorem dX8_findRing_101 : decode cX8_findRing 101 = .ok (.aload_n 0, 1) := by decide +kernel
theorem dX8_findRing_102 : decode cX8_findRing 102 = .ok (.lload_n 2, 1) := by decide +kernel
theorem dX8_findRing_103 : decode cX8_findRing 103 = .ok (.lload 4, 2) := by decide +kernel
theorem dX8_findRing_105 : decode cX8_findRing 105 = .ok (.aload_n 0, 1) := by decide +kernel
theorem dX8_findRing_106 : decode cX8_findRing 106 = .ok (.getfield 31, 3) := by decide +kernel
theorem dX8_findRing_109 : decode cX8_findRing 109 = .ok (.iload 6, 2) := by decide +kernel
theorem dX8_findRing_111 : decode cX8_findRing 111 = .ok (.iaload, 1) := by decide +kernel
theorem dX8_findRing_112 : decode cX8_findRing 112 = .ok (.invokestatic 155, 3) := by decide +kernel
theorem dX8_findRing_115 : decode cX8_findRing 115 = .ok (.invokevirtual 168, 3) := by decide +kernel
theorem dX8_findRing_118 : decode cX8_findRing 118 = .ok (.iastore, 1) := by decide +kernel
theorem dX8_findRing_119 : decode cX8_findRing 119 = .ok (.iinc 6 1, 3) := by decide +kernel
theorem dX8_findRing_122 : decode cX8_findRing 122 = .ok (.goto (-81), 3) := by decide +kernel
theorem dX8_findRing_125 : decode cX8_findRing 125 = .ok (.iconst 0, 1) := by decide +kernel
theorem dX8_findRing_126 : decode cX8_findRing 126 = .ok (.istore 6, 2) := by decide +kernel
theorem dX8_findRing_128 : decode cX8_findRing 128 = .ok (.iload 6, 2) := by decide +kernel
theorem dX8_findRing_130 : decode cX8_findRing 130 = .ok (.bipush 6, 2) := by decide +kernel
theorem dX8_findRing_132 : decode cX8_findRing 132 = .ok (.if_icmp .ge 58, 3) := by decide +kernel
theorem dX8_findRing_135 : decode cX8_findRing 135 = .ok (.aload_n 0, 1) := by decide +kernel
theorem dX8_findRing_136 : decode cX8_findRing 136 = .ok (.getfield 63, 3) := by decide +kernel
theorem dX8_findRing_139 : decode cX8_findRing 139 = .ok (.iconst 3, 1) := by decide +kernel
theorem dX8_findRing_140 : decode cX8_findRing 140 = .ok (.if_icmp .ne 50, 3) := by decide +kernel
theorem dX8_findRing_143 : decode cX8_findRing 143 = .ok (.aload_n 0, 1) := by decide +kernel
theorem dX8_findRing_144 : decode cX8_findRing 144 = .ok (.getfield 34, 3) := by decide +kernel
theorem dX8_findRing_147 : decode cX8_findRing 147 = .ok (.iload 6, 2) := by decide +kernel
theorem dX8_findRing_149 : decode cX8_findRing 149 = .ok (.iaload, 1) := by decide +kernel
theorem dX8_findRing_150 : decode cX8_findRing 150 = .ok (.ifCond .eq 34, 3) := by decide +kernel
theorem dX8_findRing_153 : decode cX8_findRing 153 = .ok (.aload_n 0, 1) := by decide +kernel
theorem dX8_findRing_154 : decode cX8_findRing 154 = .ok (.getfield 40, 3) := by decide +kernel
theorem dX8_findRing_157 : decode cX8_findRing 157 = .ok (.aload_n 0, 1) := by decide +kernel
theorem dX8_findRing_158 : decode cX8_findRing 158 = .ok (.getfield 34, 3) := by decide +kernel
theorem dX8_findRing_161 : decode cX8_findRing 161 = .ok (.iload 6, 2) := by decide +kernel
theorem dX8_findRing_163 : decode cX8_findRing 163 = .ok (.iload 6, 2) := by decide +kernel
theorem dX8_findRing_165 : decode cX8_findRing 165 = .ok (.invokevirtual 171, 3) := by decide +kernel
theorem dX8_findRing_168 : decode cX8_findRing 168 = .ok (.ifCond .eq 16, 3) := by decide +kernel
theorem dX8_findRing_171 : decode cX8_findRing 171 = .ok (.aload_n 0, 1) := by decide +kernel
theorem dX8_findRing_172 : decode cX8_findRing 172 = .ok (.iconst 1, 1) := by decide +kernel
theorem dX8_findRing_173 : decode cX8_findRing 173 = .ok (.putfield 63, 3) := by decide +kernel
theorem dX8_findRing_176 : decode cX8_findRing 176 = .ok (.aload_n 0, 1) := by decide +kernel
theorem dX8_findRing_177 : decode cX8_findRing 177 = .ok (.invokevirtual 175, 3) := by decide +kernel
theorem dX8_findRing_180 : decode cX8_findRing 180 = .ok (.aload_n 0, 1) := by decide +kernel
theorem dX8_findRing_181 : decode cX8_findRing 181 = .ok (.invokevirtual 178, 3) := by decide +kernel
theorem dX8_findRing_184 : decode cX8_findRing 184 = .ok (.iinc 6 1, 3) := by decide +kernel
theorem dX8_findRing_187 : decode cX8_findRing 187 = .ok (.goto (-59), 3) := by decide +kernel
theorem dX8_findRing_190 : decode cX8_findRing 190 = .ok (.return_, 1) := by decide +kernel
theorem dX8_tellRing_0 : decode cX8_tellRing 0 = .ok (.iconst 0, 1) := by decide +kernel
theorem dX8_tellRing_1 : decode cX8_tellRing 1 = .ok (.istore_n 1, 1) := by decide +kernel
theorem dX8_tellRing_2 : decode cX8_tellRing 2 = .ok (.iload_n 1, 1) := by decide +kernel
theorem dX8_tellRing_3 : decode cX8_tellRing 3 = .ok (.aload_n 0, 1) := by decide +kernel
theorem dX8_tellRing_4 : decode cX8_tellRing 4 = .ok (.getfield 40, 3) := by decide +kernel
theorem dX8_tellRing_7 : decode cX8_tellRing 7 = .ok (.getfield 181, 3) := by decide +kernel
theorem dX8_tellRing_10 : decode cX8_tellRing 10 = .ok (.if_icmp .ge 54, 3) := by decide +kernel
theorem dX8_tellRing_13 : decode cX8_tellRing 13 = .ok (.aload_n 0, 1) := by decide +kernel
theorem dX8_tellRing_14 : decode cX8_tellRing 14 = .ok (.dup, 1) := by decide +kernel
theorem dX8_tellRing_15 : decode cX8_tellRing 15 = .ok (.getfield 72, 3) := by decide +kernel
theorem dX8_tellRing_18 : decode cX8_tellRing 18 = .ok (.iconst 1, 1) := by decide +kernel
theorem dX8_tellRing_19 : decode cX8_tellRing 19 = .ok (.aload_n 0, 1) := by decide +kernel
theorem dX8_tellRing_20 : decode cX8_tellRing 20 = .ok (.getfield 40, 3) := by decide +kernel
theorem dX8_tellRing_23 : decode cX8_tellRing 23 = .ok (.getfield 184, 3) := by decide +kernel
theorem dX8_tellRing_26 : decode cX8_tellRing 26 = .ok (.iload_n 1, 1) := by decide +kernel
theorem dX8_tellRing_27 : decode cX8_tellRing 27 = .ok (.iaload, 1) := by decide +kernel
theorem dX8_tellRing_28 : decode cX8_tellRing 28 = .ok (.ishl, 1) := by decide +kernel
theorem dX8_tellRing_29 : decode cX8_tellRing 29 = .ok (.ior, 1) := by decide +kernel
theorem dX8_tellRing_30 : decode cX8_tellRing 30 = .ok (.putfield 72, 3) := by decide +kernel
theorem dX8_tellRing_33 : decode cX8_tellRing 33 = .ok (.aload_n 0, 1) := by decide +kernel
theorem dX8_tellRing_34 : decode cX8_tellRing 34 = .ok (.dup, 1) := by decide +kernel
theorem dX8_tellRing_35 : decode cX8_tellRing 35 = .ok (.getfield 75, 3) := by decide +kernel
theorem dX8_tellRing_38 : decode cX8_tellRing 38 = .ok (.iconst 1, 1) := by decide +kernel
theorem dX8_tellRing_39 : decode cX8_tellRing 39 = .ok (.aload_n 0, 1) := by decide +kernel
theorem dX8_tellRing_40 : decode cX8_tellRing 40 = .ok (.getfield 31, 3) := by decide +kernel
theorem dX8_tellRing_43 : decode cX8_tellRing 43 = .ok (.aload_n 0, 1) := by decide +kernel
theorem dX8_tellRing_44 : decode cX8_tellRing 44 = .ok (.getfield 40, 3) := by decide +kernel
theorem dX8_tellRing_47 : decode cX8_tellRing 47 = .ok (.getfield 184, 3) := by decide +kernel
theorem dX8_tellRing_50 : decode cX8_tellRing 50 = .ok (.iload_n 1, 1) := by decide +kernel
theorem dX8_tellRing_51 : decode cX8_tellRing 51 = .ok (.iaload, 1) := by decide +kernel
theorem dX8_tellRing_52 : decode cX8_tellRing 52 = .ok (.iaload, 1) := by decide +kernel
theorem dX8_tellRing_53 : decode cX8_tellRing 53 = .ok (.ishl, 1) := by decide +kernel
theorem dX8_tellRing_54 : decode cX8_tellRing 54 = .ok (.ior, 1) := by decide +kernel
theorem dX8_tellRing_55 : decode cX8_tellRing 55 = .ok (.putfield 75, 3) := by decide +kernel
theorem dX8_tellRing_58 : decode cX8_tellRing 58 = .ok (.iinc 1 1, 3) := by decide +kernel
theorem dX8_tellRing_61 : decode cX8_tellRing 61 = .ok (.goto (-59), 3) := by decide +kernel
theorem dX8_tellRing_64 : decode cX8_tellRing 64 = .ok (.return_, 1) := by decide +kernel
theorem dX8_tellRoute_0 : decode cX8_tellRoute 0 = .ok (.aload_n 0, 1) := by decide +kernel
theorem dX8_tellRoute_1 : decode cX8_tellRoute 1 = .ok (.getfield 66, 3) := by decide +kernel
theorem dX8_tellRoute_4 : decode cX8_tellRoute 4 = .ok (.iconst 1, 1) := by decide +kernel
theorem dX8_tellRoute_5 : decode cX8_tellRoute 5 = .ok (.isub, 1) := by decide +kernel
theorem dX8_tellRoute_6 : decode cX8_tellRoute 6 = .ok (.istore_n 1, 1) := by decide +kernel
theorem dX8_tellRoute_7 : decode cX8_tellRoute 7 = .ok (.iload_n 1, 1) := by decide +kernel
theorem dX8_tellRoute_8 : decode cX8_tellRoute 8 = .ok (.ifCond .le 35, 3) := by decide +kernel
theorem dX8_tellRoute_11 : decode cX8_tellRoute 11 = .ok (.aload_n 0, 1) := by decide +kernel
theorem dX8_tellRoute_12 : decode cX8_tellRoute 12 = .ok (.getfield 69, 3) := by decide +kernel
theorem dX8_tellRoute_15 : decode cX8_tellRoute 15 = .ok (.bipush 78, 2) := by decide +kernel
theorem dX8_tellRoute_17 : decode cX8_tellRoute 17 = .ok (.if_icmp .ge 26, 3) := by decide +kernel
theorem dX8_tellRoute_20 : decode cX8_tellRoute 20 = .ok (.aload_n 0, 1) := by decide +kernel
theorem dX8_tellRoute_21 : decode cX8_tellRoute 21 = .ok (.dup, 1) := by decide +kernel
theorem dX8_tellRoute_22 : decode cX8_tellRoute 22 = .ok (.getfield 69, 3) := by decide +kernel
theorem dX8_tellRoute_25 : decode cX8_tellRoute 25 = .ok (.iconst 1, 1) := by decide +kernel
theorem dX8_tellRoute_26 : decode cX8_tellRoute 26 = .ok (.iadd, 1) := by decide +kernel
theorem dX8_tellRoute_27 : decode cX8_tellRoute 27 = .ok (.putfield 69, 3) := by decide +kernel
theorem dX8_tellRoute_30 : decode cX8_tellRoute 30 = .ok (.aload_n 0, 1) := by decide +kernel
theorem dX8_tellRoute_31 : decode cX8_tellRoute 31 = .ok (.getfield 22, 3) := by decide +kernel
theorem dX8_tellRoute_34 : decode cX8_tellRoute 34 = .ok (.iload_n 1, 1) := by decide +kernel
theorem dX8_tellRoute_35 : decode cX8_tellRoute 35 = .ok (.iaload, 1) := by decide +kernel
theorem dX8_tellRoute_36 : decode cX8_tellRoute 36 = .ok (.bipush 6, 2) := by decide +kernel
theorem dX8_tellRoute_38 : decode cX8_tellRoute 38 = .ok (.ishr, 1) := by decide +kernel
theorem dX8_tellRoute_39 : decode cX8_tellRoute 39 = .ok (.istore_n 1, 1) := by decide +kernel
theorem dX8_tellRoute_40 : decode cX8_tellRoute 40 = .ok (.goto (-33), 3) := by decide +kernel
theorem dX8_tellRoute_43 : decode cX8_tellRoute 43 = .ok (.aload_n 0, 1) := by decide +kernel
theorem dX8_tellRoute_44 : decode cX8_tellRoute 44 = .ok (.getfield 66, 3) := by decide +kernel
theorem dX8_tellRoute_47 : decode cX8_tellRoute 47 = .ok (.iconst 1, 1) := by decide +kernel
theorem dX8_tellRoute_48 : decode cX8_tellRoute 48 = .ok (.isub, 1) := by decide +kernel
theorem dX8_tellRoute_49 : decode cX8_tellRoute 49 = .ok (.istore_n 1, 1) := by decide +kernel
theorem dX8_tellRoute_50 : decode cX8_tellRoute 50 = .ok (.aload_n 0, 1) := by decide +kernel
theorem dX8_tellRoute_51 : decode cX8_tellRoute 51 = .ok (.getfield 69, 3) := by decide +kernel
theorem dX8_tellRoute_54 : decode cX8_tellRoute 54 = .ok (.iconst 1, 1) := by decide +kernel
theorem dX8_tellRoute_55 : decode cX8_tellRoute 55 = .ok (.isub, 1) := by decide +kernel
theorem dX8_tellRoute_56 : decode cX8_tellRoute 56 = .ok (.istore_n 2, 1) := by decide +kernel
theorem dX8_tellRoute_57 : decode cX8_tellRoute 57 = .ok (.iload_n 2, 1) := by decide +kernel
theorem dX8_tellRoute_58 : decode cX8_tellRoute 58 = .ok (.ifCond .lt 34, 3) := by decide +kernel
theorem dX8_tellRoute_61 : decode cX8_tellRoute 61 = .ok (.aload_n 0, 1) := by decide +kernel
theorem dX8_tellRoute_62 : decode cX8_tellRoute 62 = .ok (.getfield 11, 3) := by decide +kernel
theorem dX8_tellRoute_65 : decode cX8_tellRoute 65 = .ok (.iload_n 2, 1) := by decide +kernel
theorem dX8_tellRoute_66 : decode cX8_tellRoute 66 = .ok (.aload_n 0, 1) := by decide +kernel
theorem dX8_tellRoute_67 : decode cX8_tellRoute 67 = .ok (.getfield 22, 3) := by decide +kernel
theorem dX8_tellRoute_70 : decode cX8_tellRoute 70 = .ok (.iload_n 1, 1) := by decide +kernel
theorem dX8_tellRoute_71 : decode cX8_tellRoute 71 = .ok (.iaload, 1) := by decide +kernel
theorem dX8_tellRoute_72 : decode cX8_tellRoute 72 = .ok (.bipush 63, 2) := by decide +kernel
theorem dX8_tellRoute_74 : decode cX8_tellRoute 74 = .ok (.iand, 1) := by decide +kernel
theorem dX8_tellRoute_75 : decode cX8_tellRoute 75 = .ok (.iastore, 1) := by decide +kernel
theorem dX8_tellRoute_76 : decode cX8_tellRoute 76 = .ok (.aload_n 0, 1) := by decide +kernel
theorem dX8_tellRoute_77 : decode cX8_tellRoute 77 = .ok (.getfield 22, 3) := by decide +kernel
theorem dX8_tellRoute_80 : decode cX8_tellRoute 80 = .ok (.iload_n 1, 1) := by decide +kernel
theorem dX8_tellRoute_81 : decode cX8_tellRoute 81 = .ok (.iaload, 1) := by decide +kernel
theorem dX8_tellRoute_82 : decode cX8_tellRoute 82 = .ok (.bipush 6, 2) := by decide +kernel
theorem dX8_tellRoute_84 : decode cX8_tellRoute 84 = .ok (.ishr, 1) := by decide +kernel
theorem dX8_tellRoute_85 : decode cX8_tellRoute 85 = .ok (.istore_n 1, 1) := by decide +kernel
theorem dX8_tellRoute_86 : decode cX8_tellRoute 86 = .ok (.iinc 2 (-1), 3) := by decide +kernel
theorem dX8_tellRoute_89 : decode cX8_tellRoute 89 = .ok (.goto (-32), 3) := by decide +kernel
theorem dX8_tellRoute_92 : decode cX8_tellRoute 92 = .ok (.return_, 1) := by decide +kernel
theorem dX8_waitsFor_0 : decode cX8_waitsFor 0 = .ok (.aload_n 0, 1) := by decide +kernel
theorem dX8_waitsFor_1 : decode cX8_waitsFor 1 = .ok (.lload_n 1, 1) := by decide +kernel
theorem dX8_waitsFor_2 : decode cX8_waitsFor 2 = .ok (.iload 5, 2) := by decide +kernel
theorem dX8_waitsFor_4 : decode cX8_waitsFor 4 = .ok (.invokevirtual 129, 3) := by decide +kernel
theorem dX8_waitsFor_7 : decode cX8_waitsFor 7 = .ok (.istore 6, 2) := by decide +kernel
theorem dX8_waitsFor_9 : decode cX8_waitsFor 9 = .ok (.iload 6, 2) := by decide +kernel
theorem dX8_waitsFor_11 : decode cX8_waitsFor 11 = .ok (.iconst (-1), 1) := by decide +kernel
theorem dX8_waitsFor_12 : decode cX8_waitsFor 12 = .ok (.if_icmp .ne 5, 3) := by decide +kernel
theorem dX8_waitsFor_15 : decode cX8_waitsFor 15 = .ok (.iconst (-1), 1) := by decide +kernel
theorem dX8_waitsFor_16 : decode cX8_waitsFor 16 = .ok (.ireturn, 1) := by decide +kernel
theorem dX8_waitsFor_17 : decode cX8_waitsFor 17 = .ok (.aload_n 0, 1) := by decide +kernel
theorem dX8_waitsFor_18 : decode cX8_waitsFor 18 = .ok (.getfield 48, 3) := by decide +kernel
theorem dX8_waitsFor_21 : decode cX8_waitsFor 21 = .ok (.iload 6, 2) := by decide +kernel
theorem dX8_waitsFor_23 : decode cX8_waitsFor 23 = .ok (.bipush 12, 2) := by decide +kernel
theorem dX8_waitsFor_25 : decode cX8_waitsFor 25 = .ok (.imul, 1) := by decide +kernel
theorem dX8_waitsFor_26 : decode cX8_waitsFor 26 = .ok (.lload_n 1, 1) := by decide +kernel
theorem dX8_waitsFor_27 : decode cX8_waitsFor 27 = .ok (.iload 6, 2) := by decide +kernel
theorem dX8_waitsFor_29 : decode cX8_waitsFor 29 = .ok (.invokestatic 144, 3) := by decide +kernel
theorem dX8_waitsFor_32 : decode cX8_waitsFor 32 = .ok (.iadd, 1) := by decide +kernel
theorem dX8_waitsFor_33 : decode cX8_waitsFor 33 = .ok (.iaload, 1) := by decide +kernel
theorem dX8_waitsFor_34 : decode cX8_waitsFor 34 = .ok (.istore 7, 2) := by decide +kernel
theorem dX8_waitsFor_36 : decode cX8_waitsFor 36 = .ok (.iload 7, 2) := by decide +kernel
theorem dX8_waitsFor_38 : decode cX8_waitsFor 38 = .ok (.invokestatic 152, 3) := by decide +kernel
theorem dX8_waitsFor_41 : decode cX8_waitsFor 41 = .ok (.istore 8, 2) := by decide +kernel
theorem dX8_waitsFor_43 : decode cX8_waitsFor 43 = .ok (.iload 7, 2) := by decide +kernel
theorem dX8_waitsFor_45 : decode cX8_waitsFor 45 = .ok (.invokestatic 118, 3) := by decide +kernel
theorem dX8_waitsFor_48 : decode cX8_waitsFor 48 = .ok (.tableswitch 65 0 2 #[28, 28, 44], 28) := by decide +kernel
theorem dX8_waitsFor_76 : decode cX8_waitsFor 76 = .ok (.lload_n 3, 1) := by decide +kernel
theorem dX8_waitsFor_77 : decode cX8_waitsFor 77 = .ok (.iload 8, 2) := by decide +kernel
theorem dX8_waitsFor_79 : decode cX8_waitsFor 79 = .ok (.invokestatic 155, 3) := by decide +kernel
theorem dX8_waitsFor_82 : decode cX8_waitsFor 82 = .ok (.ifCond .eq 8, 3) := by decide +kernel
theorem dX8_waitsFor_85 : decode cX8_waitsFor 85 = .ok (.iload 8, 2) := by decide +kernel
theorem dX8_waitsFor_87 : decode cX8_waitsFor 87 = .ok (.goto 4, 3) := by decide +kernel
theorem dX8_waitsFor_90 : decode cX8_waitsFor 90 = .ok (.iconst (-1), 1) := by decide +kernel
theorem dX8_waitsFor_91 : decode cX8_waitsFor 91 = .ok (.ireturn, 1) := by decide +kernel
theorem dX8_waitsFor_92 : decode cX8_waitsFor 92 = .ok (.lload_n 1, 1) := by decide +kernel
theorem dX8_waitsFor_93 : decode cX8_waitsFor 93 = .ok (.bipush 42, 2) := by decide +kernel
theorem dX8_waitsFor_95 : decode cX8_waitsFor 95 = .ok (.iload 8, 2) := by decide +kernel
theorem dX8_waitsFor_97 : decode cX8_waitsFor 97 = .ok (.iadd, 1) := by decide +kernel
theorem dX8_waitsFor_98 : decode cX8_waitsFor 98 = .ok (.lushr, 1) := by decide +kernel
theorem dX8_waitsFor_99 : decode cX8_waitsFor 99 = .ok (.lconst 1, 1) := by decide +kernel
theorem dX8_waitsFor_100 : decode cX8_waitsFor 100 = .ok (.land, 1) := by decide +kernel
theorem dX8_waitsFor_101 : decode cX8_waitsFor 101 = .ok (.lconst 0, 1) := by decide +kernel
theorem dX8_waitsFor_102 : decode cX8_waitsFor 102 = .ok (.lcmp, 1) := by decide +kernel
theorem dX8_waitsFor_103 : decode cX8_waitsFor 103 = .ok (.ifCond .eq 8, 3) := by decide +kernel
theorem dX8_waitsFor_106 : decode cX8_waitsFor 106 = .ok (.iload 8, 2) := by decide +kernel
theorem dX8_waitsFor_108 : decode cX8_waitsFor 108 = .ok (.goto 4, 3) := by decide +kernel
theorem dX8_waitsFor_111 : decode cX8_waitsFor 111 = .ok (.iconst (-1), 1) := by decide +kernel
theorem dX8_waitsFor_112 : decode cX8_waitsFor 112 = .ok (.ireturn, 1) := by decide +kernel
theorem dX8_waitsFor_113 : decode cX8_waitsFor 113 = .ok (.iconst (-1), 1) := by decide +kernel
theorem dX8_waitsFor_114 : decode cX8_waitsFor 114 = .ok (.ireturn, 1) := by decide +kernel
theorem dX8_onTop_0 : decode cX8_onTop 0 = .ok (.lload_n 1, 1) := by decide +kernel
theorem dX8_onTop_1 : decode cX8_onTop 1 = .ok (.iconst 4, 1) := by decide +kernel
theorem dX8_onTop_2 : decode cX8_onTop 2 = .ok (.iload_n 3, 1) := by decide +kernel
theorem dX8_onTop_3 : decode cX8_onTop 3 = .ok (.imul, 1) := by decide +kernel
theorem dX8_onTop_4 : decode cX8_onTop 4 = .ok (.lushr, 1) := by decide +kernel
theorem dX8_onTop_5 : decode cX8_onTop 5 = .ok (.ldc2_w 187, 3) := by decide +kernel
theorem dX8_onTop_8 : decode cX8_onTop 8 = .ok (.land, 1) := by decide +kernel
theorem dX8_onTop_9 : decode cX8_onTop 9 = .ok (.l2i, 1) := by decide +kernel
theorem dX8_onTop_10 : decode cX8_onTop 10 = .ok (.aload_n 0, 1) := by decide +kernel
theorem dX8_onTop_11 : decode cX8_onTop 11 = .ok (.getfield 44, 3) := by decide +kernel
theorem dX8_onTop_14 : decode cX8_onTop 14 = .ok (.getfield 112, 3) := by decide +kernel
theorem dX8_onTop_17 : decode cX8_onTop 17 = .ok (.iload_n 3, 1) := by decide +kernel
theorem dX8_onTop_18 : decode cX8_onTop 18 = .ok (.iaload, 1) := by decide +kernel
theorem dX8_onTop_19 : decode cX8_onTop 19 = .ok (.if_icmp .ge 7, 3) := by decide +kernel
theorem dX8_onTop_22 : decode cX8_onTop 22 = .ok (.iload_n 3, 1) := by decide +kernel
theorem dX8_onTop_23 : decode cX8_onTop 23 = .ok (.goto 4, 3) := by decide +kernel
theorem dX8_onTop_26 : decode cX8_onTop 26 = .ok (.iconst (-1), 1) := by decide +kernel
theorem dX8_onTop_27 : decode cX8_onTop 27 = .ok (.istore 4, 2) := by decide +kernel
theorem dX8_onTop_29 : decode cX8_onTop 29 = .ok (.aload_n 0, 1) := by decide +kernel
theorem dX8_onTop_30 : decode cX8_onTop 30 = .ok (.getfield 60, 3) := by decide +kernel
theorem dX8_onTop_33 : decode cX8_onTop 33 = .ok (.ifCond .eq 9, 3) := by decide +kernel
theorem dX8_onTop_36 : decode cX8_onTop 36 = .ok (.iload 4, 2) := by decide +kernel
theorem dX8_onTop_38 : decode cX8_onTop 38 = .ok (.iconst (-1), 1) := by decide +kernel
theorem dX8_onTop_39 : decode cX8_onTop 39 = .ok (.if_icmp .ne 6, 3) := by decide +kernel
theorem dX8_onTop_42 : decode cX8_onTop 42 = .ok (.iload 4, 2) := by decide +kernel
theorem dX8_onTop_44 : decode cX8_onTop 44 = .ok (.ireturn, 1) := by decide +kernel
theorem dX8_onTop_45 : decode cX8_onTop 45 = .ok (.iconst 0, 1) := by decide +kernel
theorem dX8_onTop_46 : decode cX8_onTop 46 = .ok (.istore 5, 2) := by decide +kernel
theorem dX8_onTop_48 : decode cX8_onTop 48 = .ok (.iload 5, 2) := by decide +kernel
theorem dX8_onTop_50 : decode cX8_onTop 50 = .ok (.aload_n 0, 1) := by decide +kernel
theorem dX8_onTop_51 : decode cX8_onTop 51 = .ok (.getfield 44, 3) := by decide +kernel
theorem dX8_onTop_54 : decode cX8_onTop 54 = .ok (.getfield 102, 3) := by decide +kernel
theorem dX8_onTop_57 : decode cX8_onTop 57 = .ok (.if_icmp .ge 93, 3) := by decide +kernel
theorem dX8_onTop_60 : decode cX8_onTop 60 = .ok (.aload_n 0, 1) := by decide +kernel
theorem dX8_onTop_61 : decode cX8_onTop 61 = .ok (.getfield 60, 3) := by decide +kernel
theorem dX8_onTop_64 : decode cX8_onTop 64 = .ok (.iload 5, 2) := by decide +kernel
theorem dX8_onTop_66 : decode cX8_onTop 66 = .ok (.ishr, 1) := by decide +kernel
theorem dX8_onTop_67 : decode cX8_onTop 67 = .ok (.iconst 1, 1) := by decide +kernel
theorem dX8_onTop_68 : decode cX8_onTop 68 = .ok (.iand, 1) := by decide +kernel
theorem dX8_onTop_69 : decode cX8_onTop 69 = .ok (.ifCond .eq 75, 3) := by decide +kernel
theorem dX8_onTop_72 : decode cX8_onTop 72 = .ok (.lload_n 1, 1) := by decide +kernel
theorem dX8_onTop_73 : decode cX8_onTop 73 = .ok (.bipush 24, 2) := by decide +kernel
theorem dX8_onTop_75 : decode cX8_onTop 75 = .ok (.iconst 3, 1) := by decide +kernel
theorem dX8_onTop_76 : decode cX8_onTop 76 = .ok (.iload 5, 2) := by decide +kernel
theorem dX8_onTop_78 : decode cX8_onTop 78 = .ok (.imul, 1) := by decide +kernel
theorem dX8_onTop_79 : decode cX8_onTop 79 = .ok (.iadd, 1) := by decide +kernel
theorem dX8_onTop_80 : decode cX8_onTop 80 = .ok (.lushr, 1) := by decide +kernel
theorem dX8_onTop_81 : decode cX8_onTop 81 = .ok (.ldc2_w 150, 3) := by decide +kernel
theorem dX8_onTop_84 : decode cX8_onTop 84 = .ok (.land, 1) := by decide +kernel
theorem dX8_onTop_85 : decode cX8_onTop 85 = .ok (.iload_n 3, 1) := by decide +kernel
theorem dX8_onTop_86 : decode cX8_onTop 86 = .ok (.iconst 1, 1) := by decide +kernel
theorem dX8_onTop_87 : decode cX8_onTop 87 = .ok (.iadd, 1) := by decide +kernel
theorem dX8_onTop_88 : decode cX8_onTop 88 = .ok (.i2l, 1) := by decide +kernel
theorem dX8_onTop_89 : decode cX8_onTop 89 = .ok (.lcmp, 1) := by decide +kernel
theorem dX8_onTop_90 : decode cX8_onTop 90 = .ok (.ifCond .ne 54, 3) := by decide +kernel
theorem dX8_onTop_93 : decode cX8_onTop 93 = .ok (.lload_n 1, 1) := by decide +kernel
theorem dX8_onTop_94 : decode cX8_onTop 94 = .ok (.iconst 4, 1) := by decide +kernel
theorem dX8_onTop_95 : decode cX8_onTop 95 = .ok (.iload 5, 2) := by decide +kernel
theorem dX8_onTop_97 : decode cX8_onTop 97 = .ok (.imul, 1) := by decide +kernel
theorem dX8_onTop_98 : decode cX8_onTop 98 = .ok (.lushr, 1) := by decide +kernel
theorem dX8_onTop_99 : decode cX8_onTop 99 = .ok (.ldc2_w 187, 3) := by decide +kernel
theorem dX8_onTop_102 : decode cX8_onTop 102 = .ok (.land, 1) := by decide +kernel
theorem dX8_onTop_103 : decode cX8_onTop 103 = .ok (.l2i, 1) := by decide +kernel
theorem dX8_onTop_104 : decode cX8_onTop 104 = .ok (.aload_n 0, 1) := by decide +kernel
theorem dX8_onTop_105 : decode cX8_onTop 105 = .ok (.getfield 44, 3) := by decide +kernel
theorem dX8_onTop_108 : decode cX8_onTop 108 = .ok (.getfield 112, 3) := by decide +kernel
theorem dX8_onTop_111 : decode cX8_onTop 111 = .ok (.iload 5, 2) := by decide +kernel
theorem dX8_onTop_113 : decode cX8_onTop 113 = .ok (.iaload, 1) := by decide +kernel
theorem dX8_onTop_114 : decode cX8_onTop 114 = .ok (.if_icmp .ge 30, 3) := by decide +kernel
theorem dX8_onTop_117 : decode cX8_onTop 117 = .ok (.aload_n 0, 1) := by decide +kernel
theorem dX8_onTop_118 : decode cX8_onTop 118 = .ok (.getfield 44, 3) := by decide +kernel
theorem dX8_onTop_121 : decode cX8_onTop 121 = .ok (.getfield 105, 3) := by decide +kernel
theorem dX8_onTop_124 : decode cX8_onTop 124 = .ok (.iload 5, 2) := by decide +kernel
theorem dX8_onTop_126 : decode cX8_onTop 126 = .ok (.iaload, 1) := by decide +kernel
theorem dX8_onTop_127 : decode cX8_onTop 127 = .ok (.aload_n 0, 1) := by decide +kernel
theorem dX8_onTop_128 : decode cX8_onTop 128 = .ok (.getfield 44, 3) := by decide +kernel
theorem dX8_onTop_131 : decode cX8_onTop 131 = .ok (.getfield 105, 3) := by decide +kernel
theorem dX8_onTop_134 : decode cX8_onTop 134 = .ok (.iload 4, 2) := by decide +kernel
theorem dX8_onTop_136 : decode cX8_onTop 136 = .ok (.iaload, 1) := by decide +kernel
theorem dX8_onTop_137 : decode cX8_onTop 137 = .ok (.if_icmp .le 7, 3) := by decide +kernel
theorem dX8_onTop_140 : decode cX8_onTop 140 = .ok (.iload 5, 2) := by decide +kernel
theorem dX8_onTop_142 : decode cX8_onTop 142 = .ok (.istore 4, 2) := by decide +kernel
theorem dX8_onTop_144 : decode cX8_onTop 144 = .ok (.iinc 5 1, 3) := by decide +kernel
theorem dX8_onTop_147 : decode cX8_onTop 147 = .ok (.goto (-99), 3) := by decide +kernel
theorem dX8_onTop_150 : decode cX8_onTop 150 = .ok (.iload 4, 2) := by decide +kernel
theorem dX8_onTop_152 : decode cX8_onTop 152 = .ok (.ireturn, 1) := by decide +kernel
theorem dX8_processorsOf_0 : decode cX8_processorsOf 0 = .ok (.iconst 0, 1) := by decide +kernel
theorem dX8_processorsOf_1 : decode cX8_processorsOf 1 = .ok (.istore 4, 2) := by decide +kernel
theorem dX8_processorsOf_3 : decode cX8_processorsOf 3 = .ok (.iconst 0, 1) := by decide +kernel
theorem dX8_processorsOf_4 : decode cX8_processorsOf 4 = .ok (.istore 5, 2) := by decide +kernel
theorem dX8_processorsOf_6 : decode cX8_processorsOf 6 = .ok (.iload 5, 2) := by decide +kernel
theorem dX8_processorsOf_8 : decode cX8_processorsOf 8 = .ok (.aload_n 0, 1) := by decide +kernel
theorem dX8_processorsOf_9 : decode cX8_processorsOf 9 = .ok (.getfield 44, 3) := by decide +kernel
theorem dX8_processorsOf_12 : decode cX8_processorsOf 12 = .ok (.getfield 102, 3) := by decide +kernel
theorem dX8_processorsOf_15 : decode cX8_processorsOf 15 = .ok (.if_icmp .ge 55, 3) := by decide +kernel
theorem dX8_processorsOf_18 : decode cX8_processorsOf 18 = .ok (.iload_n 3, 1) := by decide +kernel
theorem dX8_processorsOf_19 : decode cX8_processorsOf 19 = .ok (.iload 5, 2) := by decide +kernel
theorem dX8_processorsOf_21 : decode cX8_processorsOf 21 = .ok (.invokestatic 125, 3) := by decide +kernel
theorem dX8_processorsOf_24 : decode cX8_processorsOf 24 = .ok (.ifCond .eq 40, 3) := by decide +kernel
theorem dX8_processorsOf_27 : decode cX8_processorsOf 27 = .ok (.lload_n 1, 1) := by decide +kernel
theorem dX8_processorsOf_28 : decode cX8_processorsOf 28 = .ok (.bipush 24, 2) := by decide +kernel
theorem dX8_processorsOf_30 : decode cX8_processorsOf 30 = .ok (.iconst 3, 1) := by decide +kernel
theorem dX8_processorsOf_31 : decode cX8_processorsOf 31 = .ok (.iload 5, 2) := by decide +kernel
theorem dX8_processorsOf_33 : decode cX8_processorsOf 33 = .ok (.imul, 1) := by decide +kernel
theorem dX8_processorsOf_34 : decode cX8_processorsOf 34 = .ok (.iadd, 1) := by decide +kernel
theorem dX8_processorsOf_35 : decode cX8_processorsOf 35 = .ok (.lushr, 1) := by decide +kernel
theorem dX8_processorsOf_36 : decode cX8_processorsOf 36 = .ok (.ldc2_w 150, 3) := by decide +kernel
theorem dX8_processorsOf_39 : decode cX8_processorsOf 39 = .ok (.land, 1) := by decide +kernel
theorem dX8_processorsOf_40 : decode cX8_processorsOf 40 = .ok (.l2i, 1) := by decide +kernel
theorem dX8_processorsOf_41 : decode cX8_processorsOf 41 = .ok (.istore 6, 2) := by decide +kernel
theorem dX8_processorsOf_43 : decode cX8_processorsOf 43 = .ok (.iload 4, 2) := by decide +kernel
theorem dX8_processorsOf_45 : decode cX8_processorsOf 45 = .ok (.iconst 1, 1) := by decide +kernel
theorem dX8_processorsOf_46 : decode cX8_processorsOf 46 = .ok (.iload 6, 2) := by decide +kernel
theorem dX8_processorsOf_48 : decode cX8_processorsOf 48 = .ok (.ifCond .ne 8, 3) := by decide +kernel
theorem dX8_processorsOf_51 : decode cX8_processorsOf 51 = .ok (.iload 5, 2) := by decide +kernel
theorem dX8_processorsOf_53 : decode cX8_processorsOf 53 = .ok (.goto 7, 3) := by decide +kernel
theorem dX8_processorsOf_56 : decode cX8_processorsOf 56 = .ok (.iload 6, 2) := by decide +kernel
theorem dX8_processorsOf_58 : decode cX8_processorsOf 58 = .ok (.iconst 1, 1) := by decide +kernel
theorem dX8_processorsOf_59 : decode cX8_processorsOf 59 = .ok (.isub, 1) := by decide +kernel
theorem dX8_processorsOf_60 : decode cX8_processorsOf 60 = .ok (.ishl, 1) := by decide +kernel
theorem dX8_processorsOf_61 : decode cX8_processorsOf 61 = .ok (.ior, 1) := by decide +kernel
theorem dX8_processorsOf_62 : decode cX8_processorsOf 62 = .ok (.istore 4, 2) := by decide +kernel
theorem dX8_processorsOf_64 : decode cX8_processorsOf 64 = .ok (.iinc 5 1, 3) := by decide +kernel
theorem dX8_processorsOf_67 : decode cX8_processorsOf 67 = .ok (.goto (-61), 3) := by decide +kernel
theorem dX8_processorsOf_70 : decode cX8_processorsOf 70 = .ok (.iload 4, 2) := by decide +kernel
theorem dX8_processorsOf_72 : decode cX8_processorsOf 72 = .ok (.ireturn, 1) := by decide +kernel
theorem dX8_doneBy_0 : decode cX8_doneBy 0 = .ok (.lload_n 0, 1) := by decide +kernel
theorem dX8_doneBy_1 : decode cX8_doneBy 1 = .ok (.iconst 4, 1) := by decide +kernel
theorem dX8_doneBy_2 : decode cX8_doneBy 2 = .ok (.iload_n 2, 1) := by decide +kernel
theorem dX8_doneBy_3 : decode cX8_doneBy 3 = .ok (.imul, 1) := by decide +kernel
theorem dX8_doneBy_4 : decode cX8_doneBy 4 = .ok (.lushr, 1) := by decide +kernel
theorem dX8_doneBy_5 : decode cX8_doneBy 5 = .ok (.ldc2_w 187, 3) := by decide +kernel
theorem dX8_doneBy_8 : decode cX8_doneBy 8 = .ok (.land, 1) := by decide +kernel
theorem dX8_doneBy_9 : decode cX8_doneBy 9 = .ok (.l2i, 1) := by decide +kernel
theorem dX8_doneBy_10 : decode cX8_doneBy 10 = .ok (.ireturn, 1) := by decide +kernel
theorem dX8_ownersOf_0 : decode cX8_ownersOf 0 = .ok (.lload_n 0, 1) := by decide +kernel
theorem dX8_ownersOf_1 : decode cX8_ownersOf 1 = .ok (.bipush 6, 2) := by decide +kernel
theorem dX8_ownersOf_3 : decode cX8_ownersOf 3 = .ok (.iload_n 2, 1) := by decide +kernel
theorem dX8_ownersOf_4 : decode cX8_ownersOf 4 = .ok (.imul, 1) := by decide +kernel
theorem dX8_ownersOf_5 : decode cX8_ownersOf 5 = .ok (.lushr, 1) := by decide +kernel
theorem dX8_ownersOf_6 : decode cX8_ownersOf 6 = .ok (.l2i, 1) := by decide +kernel
theorem dX8_ownersOf_7 : decode cX8_ownersOf 7 = .ok (.bipush 63, 2) := by decide +kernel
theorem dX8_ownersOf_9 : decode cX8_ownersOf 9 = .ok (.iand, 1) := by decide +kernel
theorem dX8_ownersOf_10 : decode cX8_ownersOf 10 = .ok (.ireturn, 1) := by decide +kernel
theorem dX9_init_0 : decode cX9_init 0 = .ok (.aload_n 0, 1) := by decide +kernel
theorem dX9_init_1 : decode cX9_init 1 = .ok (.invokespecial 3, 3) := by decide +kernel
theorem dX9_init_4 : decode cX9_init 4 = .ok (.aload_n 0, 1) := by decide +kernel
theorem dX9_init_5 : decode cX9_init 5 = .ok (.new 9, 3) := by decide +kernel
theorem dX9_init_8 : decode cX9_init 8 = .ok (.dup, 1) := by decide +kernel
theorem dX9_init_9 : decode cX9_init 9 = .ok (.invokespecial 11, 3) := by decide +kernel
theorem dX9_init_12 : decode cX9_init 12 = .ok (.putfield 12, 3) := by decide +kernel
theorem dX9_init_15 : decode cX9_init 15 = .ok (.aload_n 0, 1) := by decide +kernel
theorem dX9_init_16 : decode cX9_init 16 = .ok (.bipush 10, 2) := by decide +kernel
theorem dX9_init_18 : decode cX9_init 18 = .ok (.newarray .int, 2) := by decide +kernel
theorem dX9_init_20 : decode cX9_init 20 = .ok (.putfield 18, 3) := by decide +kernel
theorem dX9_init_23 : decode cX9_init 23 = .ok (.aload_n 0, 1) := by decide +kernel
theorem dX9_init_24 : decode cX9_init 24 = .ok (.bipush 10, 2) := by decide +kernel
theorem dX9_init_26 : decode cX9_init 26 = .ok (.newarray .int, 2) := by decide +kernel
theorem dX9_init_28 : decode cX9_init 28 = .ok (.putfield 22, 3) := by decide +kernel
theorem dX9_init_31 : decode cX9_init 31 = .ok (.return_, 1) := by decide +kernel
theorem dX9_run_0 : decode cX9_run 0 = .ok (.aload_n 0, 1) := by decide +kernel
theorem dX9_run_1 : decode cX9_run 1 = .ok (.aload_n 2, 1) := by decide +kernel
theorem dX9_run_2 : decode cX9_run 2 = .ok (.putfield 25, 3) := by decide +kernel
theorem dX9_run_5 : decode cX9_run 5 = .ok (.aload_n 0, 1) := by decide +kernel
theorem dX9_run_6 : decode cX9_run 6 = .ok (.aload_n 1, 1) := by decide +kernel
theorem dX9_run_7 : decode cX9_run 7 = .ok (.iload_n 3, 1) := by decide +kernel
theorem dX9_run_8 : decode cX9_run 8 = .ok (.invokevirtual 29, 3) := by decide +kernel
theorem dX9_run_11 : decode cX9_run 11 = .ok (.aload_n 0, 1) := by decide +kernel
theorem dX9_run_12 : decode cX9_run 12 = .ok (.getfield 25, 3) := by decide +kernel
theorem dX9_run_15 : decode cX9_run 15 = .ok (.getfield 33, 3) := by decide +kernel
theorem dX9_run_18 : decode cX9_run 18 = .ok (.getfield 39, 3) := by decide +kernel
theorem dX9_run_21 : decode cX9_run 21 = .ok (.istore 4, 2) := by decide +kernel
theorem dX9_run_23 : decode cX9_run 23 = .ok (.aload_n 0, 1) := by decide +kernel
theorem dX9_run_24 : decode cX9_run 24 = .ok (.iconst 0, 1) := by decide +kernel
theorem dX9_run_25 : decode cX9_run 25 = .ok (.putfield 45, 3) := by decide +kernel
theorem dX9_run_28 : decode cX9_run 28 = .ok (.aload_n 0, 1) := by decide +kernel
theorem dX9_run_29 : decode cX9_run 29 = .ok (.getfield 45, 3) := by decide +kernel
theorem dX9_run_32 : decode cX9_run 32 = .ok (.aload_n 0, 1) := by decide +kernel
theorem dX9_run_33 : decode cX9_run 33 = .ok (.getfield 48, 3) := by decide +kernel
theorem dX9_run_36 : decode cX9_run 36 = .ok (.getfield 52, 3) := by decide +kernel
theorem dX9_run_39 : decode cX9_run 39 = .ok (.aload_n 0, 1) := by decide +kernel
theorem dX9_run_40 : decode cX9_run 40 = .ok (.getfield 57, 3) := by decide +kernel
theorem dX9_run_43 : decode cX9_run 43 = .ok (.iaload, 1) := by decide +kernel
theorem dX9_run_44 : decode cX9_run 44 = .ok (.if_icmp .ge 146, 3) := by decide +kernel
theorem dX9_run_47 : decode cX9_run 47 = .ok (.aload_n 0, 1) := by decide +kernel
theorem dX9_run_48 : decode cX9_run 48 = .ok (.getfield 25, 3) := by decide +kernel
theorem dX9_run_51 : decode cX9_run 51 = .ok (.getfield 60, 3) := by decide +kernel
theorem dX9_run_54 : decode cX9_run 54 = .ok (.aload_n 0, 1) := by decide +kernel
theorem dX9_run_55 : decode cX9_run 55 = .ok (.getfield 57, 3) := by decide +kernel
theorem dX9_run_58 : decode cX9_run 58 = .ok (.bipush 12, 2) := by decide +kernel
theorem dX9_run_60 : decode cX9_run 60 = .ok (.imul, 1) := by decide +kernel
theorem dX9_run_61 : decode cX9_run 61 = .ok (.aload_n 0, 1) := by decide +kernel
theorem dX9_run_62 : decode cX9_run 62 = .ok (.getfield 45, 3) := by decide +kernel
theorem dX9_run_65 : decode cX9_run 65 = .ok (.iadd, 1) := by decide +kernel
theorem dX9_run_66 : decode cX9_run 66 = .ok (.iaload, 1) := by decide +kernel
theorem dX9_run_67 : decode cX9_run 67 = .ok (.istore 5, 2) := by decide +kernel
theorem dX9_run_69 : decode cX9_run 69 = .ok (.iload 5, 2) := by decide +kernel
theorem dX9_run_71 : decode cX9_run 71 = .ok (.invokestatic 63, 3) := by decide +kernel
theorem dX9_run_74 : decode cX9_run 74 = .ok (.istore 6, 2) := by decide +kernel
theorem dX9_run_76 : decode cX9_run 76 = .ok (.iload 5, 2) := by decide +kernel
theorem dX9_run_78 : decode cX9_run 78 = .ok (.invokestatic 67, 3) := by decide +kernel
theorem dX9_run_81 : decode cX9_run 81 = .ok (.istore 7, 2) := by decide +kernel
theorem dX9_run_83 : decode cX9_run 83 = .ok (.iload 6, 2) := by decide +kernel
theorem dX9_run_85 : decode cX9_run 85 = .ok (.iconst 4, 1) := by decide +kernel
theorem dX9_run_86 : decode cX9_run 86 = .ok (.if_icmp .ge 29, 3) := by decide +kernel
theorem dX9_run_89 : decode cX9_run 89 = .ok (.aload_n 0, 1) := by decide +kernel
theorem dX9_run_90 : decode cX9_run 90 = .ok (.getfield 70, 3) := by decide +kernel
theorem dX9_run_93 : decode cX9_run 93 = .ok (.iload 7, 2) := by decide +kernel
theorem dX9_run_95 : decode cX9_run 95 = .ok (.invokestatic 73, 3) := by decide +kernel
theorem dX9_run_98 : decode cX9_run 98 = .ok (.ifCond .eq 17, 3) := by decide +kernel
theorem dX9_run_101 : decode cX9_run 101 = .ok (.aload_n 0, 1) := by decide +kernel
theorem dX9_run_102 : decode cX9_run 102 = .ok (.iconst 1, 1) := by decide +kernel
theorem dX9_run_103 : decode cX9_run 103 = .ok (.aload_n 0, 1) := by decide +kernel
theorem dX9_run_104 : decode cX9_run 104 = .ok (.iload 7, 2) := by decide +kernel
theorem dX9_run_106 : decode cX9_run 106 = .ok (.invokevirtual 77, 3) := by decide +kernel
theorem dX9_run_109 : decode cX9_run 109 = .ok (.invokevirtual 80, 3) := by decide +kernel
theorem dX9_run_112 : decode cX9_run 112 = .ok (.goto 65, 3) := by decide +kernel
theorem dX9_run_115 : decode cX9_run 115 = .ok (.iload 6, 2) := by decide +kernel
theorem dX9_run_117 : decode cX9_run 117 = .ok (.iconst 4, 1) := by decide +kernel
theorem dX9_run_118 : decode cX9_run 118 = .ok (.if_icmp .ge 14, 3) := by decide +kernel
theorem dX9_run_121 : decode cX9_run 121 = .ok (.aload_n 0, 1) := by decide +kernel
theorem dX9_run_122 : decode cX9_run 122 = .ok (.iload 7, 2) := by decide +kernel
theorem dX9_run_124 : decode cX9_run 124 = .ok (.iload 6, 2) := by decide +kernel
theorem dX9_run_126 : decode cX9_run 126 = .ok (.invokevirtual 84, 3) := by decide +kernel
theorem dX9_run_129 : decode cX9_run 129 = .ok (.goto 48, 3) := by decide +kernel
theorem dX9_run_132 : decode cX9_run 132 = .ok (.iload 6, 2) := by decide +kernel
theorem dX9_run_134 : decode cX9_run 134 = .ok (.iconst 4, 1) := by decide +kernel
theorem dX9_run_135 : decode cX9_run 135 = .ok (.if_icmp .ne 36, 3) := by decide +kernel
theorem dX9_run_138 : decode cX9_run 138 = .ok (.aload_n 0, 1) := by decide +kernel
theorem dX9_run_139 : decode cX9_run 139 = .ok (.getfield 70, 3) := by decide +kernel
theorem dX9_run_142 : decode cX9_run 142 = .ok (.iload 7, 2) := by decide +kernel
theorem dX9_run_144 : decode cX9_run 144 = .ok (.invokestatic 73, 3) := by decide +kernel
theorem dX9_run_147 : decode cX9_run 147 = .ok (.ifCond .ne 24, 3) := by decide +kernel
theorem dX9_run_150 : decode cX9_run 150 = .ok (.aload_n 0, 1) := by decide +kernel
theorem dX9_run_151 : decode cX9_run 151 = .ok (.bipush 8, 2) := by decide +kernel
theorem dX9_run_153 : decode cX9_run 153 = .ok (.iconst 2, 1) := by decide +kernel
theorem dX9_run_154 : decode cX9_run 154 = .ok (.aload_n 0, 1) := by decide +kernel
theorem dX9_run_155 : decode cX9_run 155 = .ok (.getfield 48, 3) := by decide +kernel
theorem dX9_run_158 : decode cX9_run 158 = .ok (.getfield 87, 3) := by decide +kernel
theorem dX9_run_161 : decode cX9_run 161 = .ok (.iload 7, 2) := by decide +kernel
theorem dX9_run_163 : decode cX9_run 163 = .ok (.iaload, 1) := by decide +kernel
theorem dX9_run_164 : decode cX9_run 164 = .ok (.imul, 1) := by decide +kernel
theorem dX9_run_165 : decode cX9_run 165 = .ok (.invokevirtual 80, 3) := by decide +kernel
theorem dX9_run_168 : decode cX9_run 168 = .ok (.goto 9, 3) := by decide +kernel
theorem dX9_run_171 : decode cX9_run 171 = .ok (.aload_n 0, 1) := by decide +kernel
theorem dX9_run_172 : decode cX9_run 172 = .ok (.iload 5, 2) := by decide +kernel
theorem dX9_run_174 : decode cX9_run 174 = .ok (.invokevirtual 90, 3) := by decide +kernel
theorem dX9_run_177 : decode cX9_run 177 = .ok (.aload_n 0, 1) := by decide +kernel
theorem dX9_run_178 : decode cX9_run 178 = .ok (.dup, 1) := by decide +kernel
theorem dX9_run_179 : decode cX9_run 179 = .ok (.getfield 45, 3) := by decide +kernel
theorem dX9_run_182 : decode cX9_run 182 = .ok (.iconst 1, 1) := by decide +kernel
theorem dX9_run_183 : decode cX9_run 183 = .ok (.iadd, 1) := by decide +kernel
theorem dX9_run_184 : decode cX9_run 184 = .ok (.putfield 45, 3) := by decide +kernel
theorem dX9_run_187 : decode cX9_run 187 = .ok (.goto (-159), 3) := by decide +kernel
theorem dX9_run_190 : decode cX9_run 190 = .ok (.iconst 0, 1) := by decide +kernel
theorem dX9_run_191 : decode cX9_run 191 = .ok (.istore 5, 2) := by decide +kernel
theorem dX9_run_193 : decode cX9_run 193 = .ok (.iload 5, 2) := by decide +kernel
theorem dX9_run_195 : decode cX9_run 195 = .ok (.aload_n 0, 1) := by decide +kernel
theorem dX9_run_196 : decode cX9_run 196 = .ok (.getfield 94, 3) := by decide +kernel
theorem dX9_run_199 : decode cX9_run 199 = .ok (.if_icmp .ge 22, 3) := by decide +kernel
theorem dX9_run_202 : decode cX9_run 202 = .ok (.aload_n 0, 1) := by decide +kernel
theorem dX9_run_203 : decode cX9_run 203 = .ok (.bipush 9, 2) := by decide +kernel
theorem dX9_run_205 : decode cX9_run 205 = .ok (.aload_n 0, 1) := by decide +kernel
theorem dX9_run_206 : decode cX9_run 206 = .ok (.getfield 22, 3) := by decide +kernel
theorem dX9_run_209 : decode cX9_run 209 = .ok (.iload 5, 2) := by decide +kernel
theorem dX9_run_211 : decode cX9_run 211 = .ok (.iaload, 1) := by decide +kernel
theorem dX9_run_212 : decode cX9_run 212 = .ok (.invokevirtual 80, 3) := by decide +kernel
theorem dX9_run_215 : decode cX9_run 215 = .ok (.iinc 5 1, 3) := by decide +kernel
theorem dX9_run_218 : decode cX9_run 218 = .ok (.goto (-25), 3) := by decide +kernel
theorem dX9_run_221 : decode cX9_run 221 = .ok (.aload_n 0, 1) := by decide +kernel
theorem dX9_run_222 : decode cX9_run 222 = .ok (.getfield 25, 3) := by decide +kernel
theorem dX9_run_225 : decode cX9_run 225 = .ok (.getfield 97, 3) := by decide +kernel
theorem dX9_run_228 : decode cX9_run 228 = .ok (.aload_n 0, 1) := by decide +kernel
theorem dX9_run_229 : decode cX9_run 229 = .ok (.getfield 57, 3) := by decide +kernel
theorem dX9_run_232 : decode cX9_run 232 = .ok (.dup2, 1) := by decide +kernel
theorem dX9_run_233 : decode cX9_run 233 = .ok (.iaload, 1) := by decide +kernel
theorem dX9_run_234 : decode cX9_run 234 = .ok (.iconst 1, 1) := by decide +kernel
theorem dX9_run_235 : decode cX9_run 235 = .ok (.iadd, 1) := by decide +kernel
theorem dX9_run_236 : decode cX9_run 236 = .ok (.iastore, 1) := by decide +kernel
theorem dX9_run_237 : decode cX9_run 237 = .ok (.aload_n 0, 1) := by decide +kernel
theorem dX9_run_238 : decode cX9_run 238 = .ok (.getfield 25, 3) := by decide +kernel
theorem dX9_run_241 : decode cX9_run 241 = .ok (.getfield 33, 3) := by decide +kernel
theorem dX9_run_244 : decode cX9_run 244 = .ok (.getfield 39, 3) := by decide +kernel
theorem dX9_run_247 : decode cX9_run 247 = .ok (.iload 4, 2) := by decide +kernel
theorem dX9_run_249 : decode cX9_run 249 = .ok (.isub, 1) := by decide +kernel
theorem dX9_run_250 : decode cX9_run 250 = .ok (.ireturn, 1) := by decide +kernel
theorem dX9_spellOf_0 : decode cX9_spellOf 0 = .ok (.iconst 0, 1) := by decide +kernel
theorem dX9_spellOf_1 : decode cX9_spellOf 1 = .ok (.istore 6, 2) := by decide +kernel
theorem dX9_spellOf_3 : decode cX9_spellOf 3 = .ok (.iconst 0, 1) := by decide +kernel
theorem dX9_spellOf_4 : decode cX9_spellOf 4 = .ok (.istore 7, 2) := by decide +kernel
theorem dX9_spellOf_6 : decode cX9_spellOf 6 = .ok (.iconst 0, 1) := by decide +kernel
theorem dX9_spellOf_7 : decode cX9_spellOf 7 = .ok (.istore 8, 2) := by decide +kernel
theorem dX9_spellOf_9 : decode cX9_spellOf 9 = .ok (.iconst 0, 1) := by decide +kernel
theorem dX9_spellOf_10 : decode cX9_spellOf 10 = .ok (.istore 9, 2) := by decide +kernel
theorem dX9_spellOf_12 : decode cX9_spellOf 12 = .ok (.aload_n 0, 1) := by decide +kernel
theorem dX9_spellOf_13 : decode cX9_spellOf 13 = .ok (.aload_n 1, 1) := by decide +kernel
theorem dX9_spellOf_14 : decode cX9_spellOf 14 = .ok (.iload_n 3, 1) := by decide +kernel
theorem dX9_spellOf_15 : decode cX9_spellOf 15 = .ok (.invokevirtual 29, 3) := by decide +kernel
theorem dX9_spellOf_18 : decode cX9_spellOf 18 = .ok (.iconst 0, 1) := by decide +kernel
theorem dX9_spellOf_19 : decode cX9_spellOf 19 = .ok (.istore 10, 2) := by decide +kernel
theorem dX9_spellOf_21 : decode cX9_spellOf 21 = .ok (.iload 10, 2) := by decide +kernel
theorem dX9_spellOf_23 : decode cX9_spellOf 23 = .ok (.aload_n 0, 1) := by decide +kernel
theorem dX9_spellOf_24 : decode cX9_spellOf 24 = .ok (.getfield 48, 3) := by decide +kernel
theorem dX9_spellOf_27 : decode cX9_spellOf 27 = .ok (.getfield 52, 3) := by decide +kernel
theorem dX9_spellOf_30 : decode cX9_spellOf 30 = .ok (.aload_n 0, 1) := by decide +kernel
theorem dX9_spellOf_31 : decode cX9_spellOf 31 = .ok (.getfield 57, 3) := by decide +kernel
theorem dX9_spellOf_34 : decode cX9_spellOf 34 = .ok (.iaload, 1) := by decide +kernel
theorem dX9_spellOf_35 : decode cX9_spellOf 35 = .ok (.if_icmp .ge 103, 3) := by decide +kernel
theorem dX9_spellOf_38 : decode cX9_spellOf 38 = .ok (.aload_n 0, 1) := by decide +kernel
theorem dX9_spellOf_39 : decode cX9_spellOf 39 = .ok (.getfield 70, 3) := by decide +kernel
theorem dX9_spellOf_42 : decode cX9_spellOf 42 = .ok (.istore 11, 2) := by decide +kernel
theorem dX9_spellOf_44 : decode cX9_spellOf 44 = .ok (.aload_n 0, 1) := by decide +kernel
theorem dX9_spellOf_45 : decode cX9_spellOf 45 = .ok (.aload_n 2, 1) := by decide +kernel
theorem dX9_spellOf_46 : decode cX9_spellOf 46 = .ok (.aload_n 0, 1) := by decide +kernel
theorem dX9_spellOf_47 : decode cX9_spellOf 47 = .ok (.getfield 57, 3) := by decide +kernel
theorem dX9_spellOf_50 : decode cX9_spellOf 50 = .ok (.bipush 12, 2) := by decide +kernel
theorem dX9_spellOf_52 : decode cX9_spellOf 52 = .ok (.imul, 1) := by decide +kernel
theorem dX9_spellOf_53 : decode cX9_spellOf 53 = .ok (.iload 10, 2) := by decide +kernel
theorem dX9_spellOf_55 : decode cX9_spellOf 55 = .ok (.iadd, 1) := by decide +kernel
theorem dX9_spellOf_56 : decode cX9_spellOf 56 = .ok (.iaload, 1) := by decide +kernel
theorem dX9_spellOf_57 : decode cX9_spellOf 57 = .ok (.invokevirtual 90, 3) := by decide +kernel
theorem dX9_spellOf_60 : decode cX9_spellOf 60 = .ok (.iload 11, 2) := by decide +kernel
theorem dX9_spellOf_62 : decode cX9_spellOf 62 = .ok (.iload 4, 2) := by decide +kernel
theorem dX9_spellOf_64 : decode cX9_spellOf 64 = .ok (.invokestatic 73, 3) := by decide +kernel
theorem dX9_spellOf_67 : decode cX9_spellOf 67 = .ok (.ifCond .ne 36, 3) := by decide +kernel
theorem dX9_spellOf_70 : decode cX9_spellOf 70 = .ok (.aload_n 0, 1) := by decide +kernel
theorem dX9_spellOf_71 : decode cX9_spellOf 71 = .ok (.getfield 70, 3) := by decide +kernel
theorem dX9_spellOf_74 : decode cX9_spellOf 74 = .ok (.iload 4, 2) := by decide +kernel
theorem dX9_spellOf_76 : decode cX9_spellOf 76 = .ok (.invokestatic 73, 3) := by decide +kernel
theorem dX9_spellOf_79 : decode cX9_spellOf 79 = .ok (.ifCond .eq 24, 3) := by decide +kernel
theorem dX9_spellOf_82 : decode cX9_spellOf 82 = .ok (.iload 6, 2) := by decide +kernel
theorem dX9_spellOf_84 : decode cX9_spellOf 84 = .ok (.ifCond .ne 8, 3) := by decide +kernel
theorem dX9_spellOf_87 : decode cX9_spellOf 87 = .ok (.iload 11, 2) := by decide +kernel
theorem dX9_spellOf_89 : decode cX9_spellOf 89 = .ok (.goto 5, 3) := by decide +kernel
theorem dX9_spellOf_92 : decode cX9_spellOf 92 = .ok (.iload 9, 2) := by decide +kernel
theorem dX9_spellOf_94 : decode cX9_spellOf 94 = .ok (.istore 9, 2) := by decide +kernel
theorem dX9_spellOf_96 : decode cX9_spellOf 96 = .ok (.iinc 6 1, 3) := by decide +kernel
theorem dX9_spellOf_99 : decode cX9_spellOf 99 = .ok (.iload 10, 2) := by decide +kernel
theorem dX9_spellOf_101 : decode cX9_spellOf 101 = .ok (.istore 7, 2) := by decide +kernel
theorem dX9_spellOf_103 : decode cX9_spellOf 103 = .ok (.iload 11, 2) := by decide +kernel
theorem dX9_spellOf_105 : decode cX9_spellOf 105 = .ok (.aload_n 0, 1) := by decide +kernel
theorem dX9_spellOf_106 : decode cX9_spellOf 106 = .ok (.getfield 70, 3) := by decide +kernel
theorem dX9_spellOf_109 : decode cX9_spellOf 109 = .ok (.ior, 1) := by decide +kernel
theorem dX9_spellOf_110 : decode cX9_spellOf 110 = .ok (.iload 4, 2) := by decide +kernel
theorem dX9_spellOf_112 : decode cX9_spellOf 112 = .ok (.invokestatic 73, 3) := by decide +kernel
theorem dX9_spellOf_115 : decode cX9_spellOf 115 = .ok (.ifCond .eq 17, 3) := by decide +kernel
theorem dX9_spellOf_118 : decode cX9_spellOf 118 = .ok (.iload 8, 2) := by decide +kernel
theorem dX9_spellOf_120 : decode cX9_spellOf 120 = .ok (.iload 10, 2) := by decide +kernel
theorem dX9_spellOf_122 : decode cX9_spellOf 122 = .ok (.iload 7, 2) := by decide +kernel
theorem dX9_spellOf_124 : decode cX9_spellOf 124 = .ok (.isub, 1) := by decide +kernel
theorem dX9_spellOf_125 : decode cX9_spellOf 125 = .ok (.iconst 1, 1) := by decide +kernel
theorem dX9_spellOf_126 : decode cX9_spellOf 126 = .ok (.iadd, 1) := by decide +kernel
theorem dX9_spellOf_127 : decode cX9_spellOf 127 = .ok (.invokestatic 100, 3) := by decide +kernel
theorem dX9_spellOf_130 : decode cX9_spellOf 130 = .ok (.istore 8, 2) := by decide +kernel
theorem dX9_spellOf_132 : decode cX9_spellOf 132 = .ok (.iinc 10 1, 3) := by decide +kernel
theorem dX9_spellOf_135 : decode cX9_spellOf 135 = .ok (.goto (-114), 3) := by decide +kernel
theorem dX9_spellOf_138 : decode cX9_spellOf 138 = .ok (.iload 5, 2) := by decide +kernel
theorem dX9_spellOf_140 : decode cX9_spellOf 140 = .ok (.tableswitch 37 0 2 #[28, 31, 34], 28) := by decide +kernel
theorem dX9_spellOf_168 : decode cX9_spellOf 168 = .ok (.iload 6, 2) := by decide +kernel
theorem dX9_spellOf_170 : decode cX9_spellOf 170 = .ok (.ireturn, 1) := by decide +kernel
theorem dX9_spellOf_171 : decode cX9_spellOf 171 = .ok (.iload 8, 2) := by decide +kernel
theorem dX9_spellOf_173 : decode cX9_spellOf 173 = .ok (.ireturn, 1) := by decide +kernel
theorem dX9_spellOf_174 : decode cX9_spellOf 174 = .ok (.iload 9, 2) := by decide +kernel
theorem dX9_spellOf_176 : decode cX9_spellOf 176 = .ok (.ireturn, 1) := by decide +kernel
theorem dX9_spellOf_177 : decode cX9_spellOf 177 = .ok (.iconst (-1), 1) := by decide +kernel
theorem dX9_spellOf_178 : decode cX9_spellOf 178 = .ok (.ireturn, 1) := by decide +kernel
theorem dX9_depthOf_0 : decode cX9_depthOf 0 = .ok (.iconst 0, 1) := by decide +kernel
theorem dX9_depthOf_1 : decode cX9_depthOf 1 = .ok (.istore 5, 2) := by decide +kernel
theorem dX9_depthOf_3 : decode cX9_depthOf 3 = .ok (.iconst (-1), 1) := by decide +kernel
theorem dX9_depthOf_4 : decode cX9_depthOf 4 = .ok (.istore 6, 2) := by decide +kernel
theorem dX9_depthOf_6 : decode cX9_depthOf 6 = .ok (.iconst 0, 1) := by decide +kernel
theorem dX9_depthOf_7 : decode cX9_depthOf 7 = .ok (.istore 7, 2) := by decide +kernel
theorem dX9_depthOf_9 : decode cX9_depthOf 9 = .ok (.aload_n 0, 1) := by decide +kernel
theorem dX9_depthOf_10 : decode cX9_depthOf 10 = .ok (.aload_n 1, 1) := by decide +kernel
theorem dX9_depthOf_11 : decode cX9_depthOf 11 = .ok (.iload_n 3, 1) := by decide +kernel
theorem dX9_depthOf_12 : decode cX9_depthOf 12 = .ok (.invokevirtual 29, 3) := by decide +kernel
theorem dX9_depthOf_15 : decode cX9_depthOf 15 = .ok (.iconst 0, 1) := by decide +kernel
theorem dX9_depthOf_16 : decode cX9_depthOf 16 = .ok (.istore 8, 2) := by decide +kernel
theorem dX9_depthOf_18 : decode cX9_depthOf 18 = .ok (.iload 8, 2) := by decide +kernel
theorem dX9_depthOf_20 : decode cX9_depthOf 20 = .ok (.aload_n 0, 1) := by decide +kernel
theorem dX9_depthOf_21 : decode cX9_depthOf 21 = .ok (.getfield 48, 3) := by decide +kernel
theorem dX9_depthOf_24 : decode cX9_depthOf 24 = .ok (.getfield 52, 3) := by decide +kernel
theorem dX9_depthOf_27 : decode cX9_depthOf 27 = .ok (.aload_n 0, 1) := by decide +kernel
theorem dX9_depthOf_28 : decode cX9_depthOf 28 = .ok (.getfield 57, 3) := by decide +kernel
theorem dX9_depthOf_31 : decode cX9_depthOf 31 = .ok (.iaload, 1) := by decide +kernel
theorem dX9_depthOf_32 : decode cX9_depthOf 32 = .ok (.if_icmp .ge 63, 3) := by decide +kernel
theorem dX9_depthOf_35 : decode cX9_depthOf 35 = .ok (.iload 7, 2) := by decide +kernel
theorem dX9_depthOf_37 : decode cX9_depthOf 37 = .ok (.aload_n 0, 1) := by decide +kernel
theorem dX9_depthOf_38 : decode cX9_depthOf 38 = .ok (.getfield 106, 3) := by decide +kernel
theorem dX9_depthOf_41 : decode cX9_depthOf 41 = .ok (.iconst 4, 1) := by decide +kernel
theorem dX9_depthOf_42 : decode cX9_depthOf 42 = .ok (.iand, 1) := by decide +kernel
theorem dX9_depthOf_43 : decode cX9_depthOf 43 = .ok (.ifCond .ne 7, 3) := by decide +kernel
theorem dX9_depthOf_46 : decode cX9_depthOf 46 = .ok (.iconst 1, 1) := by decide +kernel
theorem dX9_depthOf_47 : decode cX9_depthOf 47 = .ok (.goto 4, 3) := by decide +kernel
theorem dX9_depthOf_50 : decode cX9_depthOf 50 = .ok (.iconst 0, 1) := by decide +kernel
theorem dX9_depthOf_51 : decode cX9_depthOf 51 = .ok (.iadd, 1) := by decide +kernel
theorem dX9_depthOf_52 : decode cX9_depthOf 52 = .ok (.istore 7, 2) := by decide +kernel
theorem dX9_depthOf_54 : decode cX9_depthOf 54 = .ok (.aload_n 0, 1) := by decide +kernel
theorem dX9_depthOf_55 : decode cX9_depthOf 55 = .ok (.aload_n 2, 1) := by decide +kernel
theorem dX9_depthOf_56 : decode cX9_depthOf 56 = .ok (.aload_n 0, 1) := by decide +kernel
theorem dX9_depthOf_57 : decode cX9_depthOf 57 = .ok (.getfield 57, 3) := by decide +kernel
theorem dX9_depthOf_60 : decode cX9_depthOf 60 = .ok (.bipush 12, 2) := by decide +kernel
theorem dX9_depthOf_62 : decode cX9_depthOf 62 = .ok (.imul, 1) := by decide +kernel
theorem dX9_depthOf_63 : decode cX9_depthOf 63 = .ok (.iload 8, 2) := by decide +kernel
theorem dX9_depthOf_65 : decode cX9_depthOf 65 = .ok (.iadd, 1) := by decide +kernel
theorem dX9_depthOf_66 : decode cX9_depthOf 66 = .ok (.iaload, 1) := by decide +kernel
theorem dX9_depthOf_67 : decode cX9_depthOf 67 = .ok (.invokevirtual 90, 3) := by decide +kernel
theorem dX9_depthOf_70 : decode cX9_depthOf 70 = .ok (.aload_n 0, 1) := by decide +kernel
theorem dX9_depthOf_71 : decode cX9_depthOf 71 = .ok (.getfield 94, 3) := by decide +kernel
theorem dX9_depthOf_74 : decode cX9_depthOf 74 = .ok (.iload 5, 2) := by decide +kernel
theorem dX9_depthOf_76 : decode cX9_depthOf 76 = .ok (.if_icmp .le 13, 3) := by decide +kernel
theorem dX9_depthOf_79 : decode cX9_depthOf 79 = .ok (.aload_n 0, 1) := by decide +kernel
theorem dX9_depthOf_80 : decode cX9_depthOf 80 = .ok (.getfield 94, 3) := by decide +kernel
theorem dX9_depthOf_83 : decode cX9_depthOf 83 = .ok (.istore 5, 2) := by decide +kernel
theorem dX9_depthOf_85 : decode cX9_depthOf 85 = .ok (.iload 8, 2) := by decide +kernel
theorem dX9_depthOf_87 : decode cX9_depthOf 87 = .ok (.istore 6, 2) := by decide +kernel
theorem dX9_depthOf_89 : decode cX9_depthOf 89 = .ok (.iinc 8 1, 3) := by decide +kernel
theorem dX9_depthOf_92 : decode cX9_depthOf 92 = .ok (.goto (-74), 3) := by decide +kernel
theorem dX9_depthOf_95 : decode cX9_depthOf 95 = .ok (.iload 4, 2) := by decide +kernel
theorem dX9_depthOf_97 : decode cX9_depthOf 97 = .ok (.tableswitch 36 0 2 #[27, 30, 33], 27) := by decide +kernel
theorem dX9_depthOf_124 : decode cX9_depthOf 124 = .ok (.iload 5, 2) := by decide +kernel
theorem dX9_depthOf_126 : decode cX9_depthOf 126 = .ok (.ireturn, 1) := by decide +kernel
theorem dX9_depthOf_127 : decode cX9_depthOf 127 = .ok (.iload 6, 2) := by decide +kernel
theorem dX9_depthOf_129 : decode cX9_depthOf 129 = .ok (.ireturn, 1) := by decide +kernel
theorem dX9_depthOf_130 : decode cX9_depthOf 130 = .ok (.iload 7, 2) := by decide +kernel
theorem dX9_depthOf_132 : decode cX9_depthOf 132 = .ok (.ireturn, 1) := by decide +kernel
theorem dX9_depthOf_133 : decode cX9_depthOf 133 = .ok (.iconst (-1), 1) := by decide +kernel
theorem dX9_depthOf_134 : decode cX9_depthOf 134 = .ok (.ireturn, 1) := by decide +kernel
theorem dX9_begin_0 : decode cX9_begin 0 = .ok (.aload_n 0, 1) := by decide +kernel
theorem dX9_begin_1 : decode cX9_begin 1 = .ok (.aload_n 1, 1) := by decide +kernel
theorem dX9_begin_2 : decode cX9_begin 2 = .ok (.putfield 48, 3) := by decide +kernel
theorem dX9_begin_5 : decode cX9_begin 5 = .ok (.aload_n 0, 1) := by decide +kernel
theorem dX9_begin_6 : decode cX9_begin 6 = .ok (.iload_n 2, 1) := by decide +kernel
theorem dX9_begin_7 : decode cX9_begin 7 = .ok (.putfield 57, 3) := by decide +kernel
theorem dX9_begin_10 : decode cX9_begin 10 = .ok (.aload_n 0, 1) := by decide +kernel
theorem dX9_begin_11 : decode cX9_begin 11 = .ok (.aload_n 0, 1) := by decide +kernel
theorem dX9_begin_12 : decode cX9_begin 12 = .ok (.getfield 48, 3) := by decide +kernel
theorem dX9_begin_15 : decode cX9_begin 15 = .ok (.getfield 109, 3) := by decide +kernel
theorem dX9_begin_18 : decode cX9_begin 18 = .ok (.aload_n 0, 1) := by decide +kernel
theorem dX9_begin_19 : decode cX9_begin 19 = .ok (.getfield 57, 3) := by decide +kernel
theorem dX9_begin_22 : decode cX9_begin 22 = .ok (.iaload, 1) := by decide +kernel
theorem dX9_begin_23 : decode cX9_begin 23 = .ok (.invokestatic 112, 3) := by decide +kernel
theorem dX9_begin_26 : decode cX9_begin 26 = .ok (.putfield 106, 3) := by decide +kernel
theorem dX9_begin_29 : decode cX9_begin 29 = .ok (.aload_n 0, 1) := by decide +kernel
theorem dX9_begin_30 : decode cX9_begin 30 = .ok (.iconst 0, 1) := by decide +kernel
theorem dX9_begin_31 : decode cX9_begin 31 = .ok (.putfield 94, 3) := by decide +kernel
theorem dX9_begin_34 : decode cX9_begin 34 = .ok (.aload_n 0, 1) := by decide +kernel
theorem dX9_begin_35 : decode cX9_begin 35 = .ok (.iconst 0, 1) := by decide +kernel
theorem dX9_begin_36 : decode cX9_begin 36 = .ok (.putfield 70, 3) := by decide +kernel
theorem dX9_begin_39 : decode cX9_begin 39 = .ok (.return_, 1) := by decide +kernel
theorem dX9_follow_0 : decode cX9_follow 0 = .ok (.iload_n 1, 1) := by decide +kernel
theorem dX9_follow_1 : decode cX9_follow 1 = .ok (.invokestatic 63, 3) := by decide +kernel
theorem dX9_follow_4 : decode cX9_follow 4 = .ok (.istore_n 2, 1) := by decide +kernel
theorem dX9_follow_5 : decode cX9_follow 5 = .ok (.iload_n 1, 1) := by decide +kernel
theorem dX9_follow_6 : decode cX9_follow 6 = .ok (.invokestatic 67, 3) := by decide +kernel
theorem dX9_follow_9 : decode cX9_follow 9 = .ok (.istore_n 3, 1) := by decide +kernel
theorem dX9_follow_10 : decode cX9_follow 10 = .ok (.iload_n 2, 1) := by decide +kernel
theorem dX9_follow_11 : decode cX9_follow 11 = .ok (.iconst 4, 1) := by decide +kernel
theorem dX9_follow_12 : decode cX9_follow 12 = .ok (.if_icmp .ge 17, 3) := by decide +kernel
theorem dX9_follow_15 : decode cX9_follow 15 = .ok (.aload_n 0, 1) := by decide +kernel
theorem dX9_follow_16 : decode cX9_follow 16 = .ok (.iload_n 3, 1) := by decide +kernel
theorem dX9_follow_17 : decode cX9_follow 17 = .ok (.aload_n 0, 1) := by decide +kernel
theorem dX9_follow_18 : decode cX9_follow 18 = .ok (.iload_n 3, 1) := by decide +kernel
theorem dX9_follow_19 : decode cX9_follow 19 = .ok (.iload_n 2, 1) := by decide +kernel
theorem dX9_follow_20 : decode cX9_follow 20 = .ok (.invokevirtual 115, 3) := by decide +kernel
theorem dX9_follow_23 : decode cX9_follow 23 = .ok (.invokevirtual 118, 3) := by decide +kernel
theorem dX9_follow_26 : decode cX9_follow 26 = .ok (.goto 40, 3) := by decide +kernel
theorem dX9_follow_29 : decode cX9_follow 29 = .ok (.iload_n 2, 1) := by decide +kernel
theorem dX9_follow_30 : decode cX9_follow 30 = .ok (.iconst 4, 1) := by decide +kernel
theorem dX9_follow_31 : decode cX9_follow 31 = .ok (.if_icmp .ne 11, 3) := by decide +kernel
theorem dX9_follow_34 : decode cX9_follow 34 = .ok (.aload_n 0, 1) := by decide +kernel
theorem dX9_follow_35 : decode cX9_follow 35 = .ok (.iload_n 3, 1) := by decide +kernel
theorem dX9_follow_36 : decode cX9_follow 36 = .ok (.invokevirtual 121, 3) := by decide +kernel
theorem dX9_follow_39 : decode cX9_follow 39 = .ok (.goto 27, 3) := by decide +kernel
theorem dX9_follow_42 : decode cX9_follow 42 = .ok (.aload_n 0, 1) := by decide +kernel
theorem dX9_follow_43 : decode cX9_follow 43 = .ok (.aload_n 0, 1) := by decide +kernel
theorem dX9_follow_44 : decode cX9_follow 44 = .ok (.getfield 106, 3) := by decide +kernel
theorem dX9_follow_47 : decode cX9_follow 47 = .ok (.aload_n 0, 1) := by decide +kernel
theorem dX9_follow_48 : decode cX9_follow 48 = .ok (.getfield 48, 3) := by decide +kernel
theorem dX9_follow_51 : decode cX9_follow 51 = .ok (.getfield 109, 3) := by decide +kernel
theorem dX9_follow_54 : decode cX9_follow 54 = .ok (.aload_n 0, 1) := by decide +kernel
theorem dX9_follow_55 : decode cX9_follow 55 = .ok (.getfield 57, 3) := by decide +kernel
theorem dX9_follow_58 : decode cX9_follow 58 = .ok (.iaload, 1) := by decide +kernel
theorem dX9_follow_59 : decode cX9_follow 59 = .ok (.iload_n 2, 1) := by decide +kernel
theorem dX9_follow_60 : decode cX9_follow 60 = .ok (.invokestatic 124, 3) := by decide +kernel
theorem dX9_follow_63 : decode cX9_follow 63 = .ok (.putfield 106, 3) := by decide +kernel
theorem dX9_follow_66 : decode cX9_follow 66 = .ok (.return_, 1) := by decide +kernel
theorem dX9_nodeOf_0 : decode cX9_nodeOf 0 = .ok (.iconst 2, 1) := by decide +kernel
theorem dX9_nodeOf_1 : decode cX9_nodeOf 1 = .ok (.aload_n 0, 1) := by decide +kernel
theorem dX9_nodeOf_2 : decode cX9_nodeOf 2 = .ok (.getfield 48, 3) := by decide +kernel
theorem dX9_nodeOf_5 : decode cX9_nodeOf 5 = .ok (.getfield 87, 3) := by decide +kernel
theorem dX9_nodeOf_8 : decode cX9_nodeOf 8 = .ok (.iload_n 1, 1) := by decide +kernel
theorem dX9_nodeOf_9 : decode cX9_nodeOf 9 = .ok (.iaload, 1) := by decide +kernel
theorem dX9_nodeOf_10 : decode cX9_nodeOf 10 = .ok (.imul, 1) := by decide +kernel
theorem dX9_nodeOf_11 : decode cX9_nodeOf 11 = .ok (.iload_n 2, 1) := by decide +kernel
theorem dX9_nodeOf_12 : decode cX9_nodeOf 12 = .ok (.iconst 1, 1) := by decide +kernel
theorem dX9_nodeOf_13 : decode cX9_nodeOf 13 = .ok (.if_icmp .ne 7, 3) := by decide +kernel
theorem dX9_nodeOf_16 : decode cX9_nodeOf 16 = .ok (.iconst 1, 1) := by decide +kernel
theorem dX9_nodeOf_17 : decode cX9_nodeOf 17 = .ok (.goto 4, 3) := by decide +kernel
theorem dX9_nodeOf_20 : decode cX9_nodeOf 20 = .ok (.iconst 0, 1) := by decide +kernel
theorem dX9_nodeOf_21 : decode cX9_nodeOf 21 = .ok (.iadd, 1) := by decide +kernel
theorem dX9_nodeOf_22 : decode cX9_nodeOf 22 = .ok (.ireturn, 1) := by decide +kernel
theorem dX9_hold_0 : decode cX9_hold 0 = .ok (.aload_n 0, 1) := by decide +kernel
theorem dX9_hold_1 : decode cX9_hold 1 = .ok (.getfield 94, 3) := by decide +kernel
theorem dX9_hold_4 : decode cX9_hold 4 = .ok (.bipush 10, 2) := by decide +kernel
theorem dX9_hold_6 : decode cX9_hold 6 = .ok (.if_icmp .ge 56, 3) := by decide +kernel
theorem dX9_hold_9 : decode cX9_hold 9 = .ok (.aload_n 0, 1) := by decide +kernel
theorem dX9_hold_10 : decode cX9_hold 10 = .ok (.getfield 70, 3) := by decide +kernel
theorem dX9_hold_13 : decode cX9_hold 13 = .ok (.iload_n 1, 1) := by decide +kernel
theorem dX9_hold_14 : decode cX9_hold 14 = .ok (.invokestatic 73, 3) := by decide +kernel
theorem dX9_hold_17 : decode cX9_hold 17 = .ok (.ifCond .ne 45, 3) := by decide +kernel
theorem dX9_hold_20 : decode cX9_hold 20 = .ok (.aload_n 0, 1) := by decide +kernel
theorem dX9_hold_21 : decode cX9_hold 21 = .ok (.getfield 18, 3) := by decide +kernel
theorem dX9_hold_24 : decode cX9_hold 24 = .ok (.aload_n 0, 1) := by decide +kernel
theorem dX9_hold_25 : decode cX9_hold 25 = .ok (.getfield 94, 3) := by decide +kernel
theorem dX9_hold_28 : decode cX9_hold 28 = .ok (.iload_n 1, 1) := by decide +kernel
theorem dX9_hold_29 : decode cX9_hold 29 = .ok (.iastore, 1) := by decide +kernel
theorem dX9_hold_30 : decode cX9_hold 30 = .ok (.aload_n 0, 1) := by decide +kernel
theorem dX9_hold_31 : decode cX9_hold 31 = .ok (.getfield 22, 3) := by decide +kernel
theorem dX9_hold_34 : decode cX9_hold 34 = .ok (.aload_n 0, 1) := by decide +kernel
theorem dX9_hold_35 : decode cX9_hold 35 = .ok (.getfield 94, 3) := by decide +kernel
theorem dX9_hold_38 : decode cX9_hold 38 = .ok (.iload_n 2, 1) := by decide +kernel
theorem dX9_hold_39 : decode cX9_hold 39 = .ok (.iastore, 1) := by decide +kernel
theorem dX9_hold_40 : decode cX9_hold 40 = .ok (.aload_n 0, 1) := by decide +kernel
theorem dX9_hold_41 : decode cX9_hold 41 = .ok (.dup, 1) := by decide +kernel
theorem dX9_hold_42 : decode cX9_hold 42 = .ok (.getfield 94, 3) := by decide +kernel
theorem dX9_hold_45 : decode cX9_hold 45 = .ok (.iconst 1, 1) := by decide +kernel
theorem dX9_hold_46 : decode cX9_hold 46 = .ok (.iadd, 1) := by decide +kernel
theorem dX9_hold_47 : decode cX9_hold 47 = .ok (.putfield 94, 3) := by decide +kernel
theorem dX9_hold_50 : decode cX9_hold 50 = .ok (.aload_n 0, 1) := by decide +kernel
theorem dX9_hold_51 : decode cX9_hold 51 = .ok (.dup, 1) := by decide +kernel
theorem dX9_hold_52 : decode cX9_hold 52 = .ok (.getfield 70, 3) := by decide +kernel
theorem dX9_hold_55 : decode cX9_hold 55 = .ok (.iconst 1, 1) := by decide +kernel
theorem dX9_hold_56 : decode cX9_hold 56 = .ok (.iload_n 1, 1) := by decide +kernel
theorem dX9_hold_57 : decode cX9_hold 57 = .ok (.ishl, 1) := by decide +kernel
theorem dX9_hold_58 : decode cX9_hold 58 = .ok (.ior, 1) := by decide +kernel
theorem dX9_hold_59 : decode cX9_hold 59 = .ok (.putfield 70, 3) := by decide +kernel
theorem dX9_hold_62 : decode cX9_hold 62 = .ok (.return_, 1) := by decide +kernel
theorem dX9_letGo_0 : decode cX9_letGo 0 = .ok (.iconst 0, 1) := by decide +kernel
theorem dX9_letGo_1 : decode cX9_letGo 1 = .ok (.istore_n 2, 1) := by decide +kernel
theorem dX9_letGo_2 : decode cX9_letGo 2 = .ok (.iconst 0, 1) := by decide +kernel
theorem dX9_letGo_3 : decode cX9_letGo 3 = .ok (.istore_n 3, 1) := by decide +kernel
theorem dX9_letGo_4 : decode cX9_letGo 4 = .ok (.iload_n 3, 1) := by decide +kernel
theorem dX9_letGo_5 : decode cX9_letGo 5 = .ok (.aload_n 0, 1) := by decide +kernel
theorem dX9_letGo_6 : decode cX9_letGo 6 = .ok (.getfield 94, 3) := by decide +kernel
theorem dX9_letGo_9 : decode cX9_letGo 9 = .ok (.if_icmp .ge 46, 3) := by decide +kernel
theorem dX9_letGo_12 : decode cX9_letGo 12 = .ok (.aload_n 0, 1) := by decide +kernel
theorem dX9_letGo_13 : decode cX9_letGo 13 = .ok (.getfield 18, 3) := by decide +kernel
theorem dX9_letGo_16 : decode cX9_letGo 16 = .ok (.iload_n 3, 1) := by decide +kernel
theorem dX9_letGo_17 : decode cX9_letGo 17 = .ok (.iaload, 1) := by decide +kernel
theorem dX9_letGo_18 : decode cX9_letGo 18 = .ok (.iload_n 1, 1) := by decide +kernel
theorem dX9_letGo_19 : decode cX9_letGo 19 = .ok (.if_icmp .eq 30, 3) := by decide +kernel
theorem dX9_letGo_22 : decode cX9_letGo 22 = .ok (.aload_n 0, 1) := by decide +kernel
theorem dX9_letGo_23 : decode cX9_letGo 23 = .ok (.getfield 18, 3) := by decide +kernel
theorem dX9_letGo_26 : decode cX9_letGo 26 = .ok (.iload_n 2, 1) := by decide +kernel
theorem dX9_letGo_27 : decode cX9_letGo 27 = .ok (.aload_n 0, 1) := by decide +kernel
theorem dX9_letGo_28 : decode cX9_letGo 28 = .ok (.getfield 18, 3) := by decide +kernel
theorem dX9_letGo_31 : decode cX9_letGo 31 = .ok (.iload_n 3, 1) := by decide +kernel
theorem dX9_letGo_32 : decode cX9_letGo 32 = .ok (.iaload, 1) := by decide +kernel
theorem dX9_letGo_33 : decode cX9_letGo 33 = .ok (.iastore, 1) := by decide +kernel
theorem dX9_letGo_34 : decode cX9_letGo 34 = .ok (.aload_n 0, 1) := by decide +kernel
theorem dX9_letGo_35 : decode cX9_letGo 35 = .ok (.getfield 22, 3) := by decide +kernel
theorem dX9_letGo_38 : decode cX9_letGo 38 = .ok (.iload_n 2, 1) := by decide +kernel
theorem dX9_letGo_39 : decode cX9_letGo 39 = .ok (.aload_n 0, 1) := by decide +kernel
theorem dX9_letGo_40 : decode cX9_letGo 40 = .ok (.getfield 22, 3) := by decide +kernel
theorem dX9_letGo_43 : decode cX9_letGo 43 = .ok (.iload_n 3, 1) := by decide +kernel
theorem dX9_letGo_44 : decode cX9_letGo 44 = .ok (.iaload, 1) := by decide +kernel
theorem dX9_letGo_45 : decode cX9_letGo 45 = .ok (.iastore, 1) := by decide +kernel
theorem dX9_letGo_46 : decode cX9_letGo 46 = .ok (.iinc 2 1, 3) := by decide +kernel
theorem dX9_letGo_49 : decode cX9_letGo 49 = .ok (.iinc 3 1, 3) := by decide +kernel
theorem dX9_letGo_52 : decode cX9_letGo 52 = .ok (.goto (-48), 3) := by decide +kernel
theorem dX9_letGo_55 : decode cX9_letGo 55 = .ok (.aload_n 0, 1) := by decide +kernel
theorem dX9_letGo_56 : decode cX9_letGo 56 = .ok (.iload_n 2, 1) := by decide +kernel
theorem dX9_letGo_57 : decode cX9_letGo 57 = .ok (.putfield 94, 3) := by decide +kernel
theorem dX9_letGo_60 : decode cX9_letGo 60 = .ok (.aload_n 0, 1) := by decide +kernel
theorem dX9_letGo_61 : decode cX9_letGo 61 = .ok (.dup, 1) := by decide +kernel
theorem dX9_letGo_62 : decode cX9_letGo 62 = .ok (.getfield 70, 3) := by decide +kernel
theorem dX9_letGo_65 : decode cX9_letGo 65 = .ok (.iconst 1, 1) := by decide +kernel
theorem dX9_letGo_66 : decode cX9_letGo 66 = .ok (.iload_n 1, 1) := by decide +kernel
theorem dX9_letGo_67 : decode cX9_letGo 67 = .ok (.ishl, 1) := by decide +kernel
theorem dX9_letGo_68 : decode cX9_letGo 68 = .ok (.iconst (-1), 1) := by decide +kernel
theorem dX9_letGo_69 : decode cX9_letGo 69 = .ok (.ixor, 1) := by decide +kernel
theorem dX9_letGo_70 : decode cX9_letGo 70 = .ok (.iand, 1) := by decide +kernel
theorem dX9_letGo_71 : decode cX9_letGo 71 = .ok (.putfield 70, 3) := by decide +kernel
theorem dX9_letGo_74 : decode cX9_letGo 74 = .ok (.return_, 1) := by decide +kernel
theorem dX9_takenAs_0 : decode cX9_takenAs 0 = .ok (.iconst 0, 1) := by decide +kernel
theorem dX9_takenAs_1 : decode cX9_takenAs 1 = .ok (.istore_n 2, 1) := by decide +kernel
theorem dX9_takenAs_2 : decode cX9_takenAs 2 = .ok (.iload_n 2, 1) := by decide +kernel
theorem dX9_takenAs_3 : decode cX9_takenAs 3 = .ok (.aload_n 0, 1) := by decide +kernel
theorem dX9_takenAs_4 : decode cX9_takenAs 4 = .ok (.getfield 94, 3) := by decide +kernel
theorem dX9_takenAs_7 : decode cX9_takenAs 7 = .ok (.if_icmp .ge 26, 3) := by decide +kernel
theorem dX9_takenAs_10 : decode cX9_takenAs 10 = .ok (.aload_n 0, 1) := by decide +kernel
theorem dX9_takenAs_11 : decode cX9_takenAs 11 = .ok (.getfield 18, 3) := by decide +kernel
theorem dX9_takenAs_14 : decode cX9_takenAs 14 = .ok (.iload_n 2, 1) := by decide +kernel
theorem dX9_takenAs_15 : decode cX9_takenAs 15 = .ok (.iaload, 1) := by decide +kernel
theorem dX9_takenAs_16 : decode cX9_takenAs 16 = .ok (.iload_n 1, 1) := by decide +kernel
theorem dX9_takenAs_17 : decode cX9_takenAs 17 = .ok (.if_icmp .ne 10, 3) := by decide +kernel
theorem dX9_takenAs_20 : decode cX9_takenAs 20 = .ok (.aload_n 0, 1) := by decide +kernel
theorem dX9_takenAs_21 : decode cX9_takenAs 21 = .ok (.getfield 22, 3) := by decide +kernel
theorem dX9_takenAs_24 : decode cX9_takenAs 24 = .ok (.iload_n 2, 1) := by decide +kernel
theorem dX9_takenAs_25 : decode cX9_takenAs 25 = .ok (.iaload, 1) := by decide +kernel
theorem dX9_takenAs_26 : decode cX9_takenAs 26 = .ok (.ireturn, 1) := by decide +kernel
theorem dX9_takenAs_27 : decode cX9_takenAs 27 = .ok (.iinc 2 1, 3) := by decide +kernel
theorem dX9_takenAs_30 : decode cX9_takenAs 30 = .ok (.goto (-28), 3) := by decide +kernel
theorem dX9_takenAs_33 : decode cX9_takenAs 33 = .ok (.iconst 0, 1) := by decide +kernel
theorem dX9_takenAs_34 : decode cX9_takenAs 34 = .ok (.ireturn, 1) := by decide +kernel
theorem dX9_takeUp_0 : decode cX9_takeUp 0 = .ok (.aload_n 0, 1) := by decide +kernel
theorem dX9_takeUp_1 : decode cX9_takeUp 1 = .ok (.iload_n 1, 1) := by decide +kernel
theorem dX9_takeUp_2 : decode cX9_takeUp 2 = .ok (.iload_n 2, 1) := by decide +kernel
theorem dX9_takeUp_3 : decode cX9_takeUp 3 = .ok (.invokevirtual 115, 3) := by decide +kernel
theorem dX9_takeUp_6 : decode cX9_takeUp 6 = .ok (.istore_n 3, 1) := by decide +kernel
theorem dX9_takeUp_7 : decode cX9_takeUp 7 = .ok (.aload_n 0, 1) := by decide +kernel
theorem dX9_takeUp_8 : decode cX9_takeUp 8 = .ok (.getfield 25, 3) := by decide +kernel
theorem dX9_takeUp_11 : decode cX9_takeUp 11 = .ok (.aload_n 0, 1) := by decide +kernel
theorem dX9_takeUp_12 : decode cX9_takeUp 12 = .ok (.iload_n 3, 1) := by decide +kernel
theorem dX9_takeUp_13 : decode cX9_takeUp 13 = .ok (.invokevirtual 128, 3) := by decide +kernel
theorem dX9_takeUp_16 : decode cX9_takeUp 16 = .ok (.invokevirtual 132, 3) := by decide +kernel
theorem dX9_takeUp_19 : decode cX9_takeUp 19 = .ok (.iload_n 2, 1) := by decide +kernel
theorem dX9_takeUp_20 : decode cX9_takeUp 20 = .ok (.iconst 3, 1) := by decide +kernel
theorem dX9_takeUp_21 : decode cX9_takeUp 21 = .ok (.if_icmp .eq 33, 3) := by decide +kernel
theorem dX9_takeUp_24 : decode cX9_takeUp 24 = .ok (.iconst 0, 1) := by decide +kernel
theorem dX9_takeUp_25 : decode cX9_takeUp 25 = .ok (.istore 4, 2) := by decide +kernel
theorem dX9_takeUp_27 : decode cX9_takeUp 27 = .ok (.iload 4, 2) := by decide +kernel
theorem dX9_takeUp_29 : decode cX9_takeUp 29 = .ok (.aload_n 0, 1) := by decide +kernel
theorem dX9_takeUp_30 : decode cX9_takeUp 30 = .ok (.getfield 94, 3) := by decide +kernel
theorem dX9_takeUp_33 : decode cX9_takeUp 33 = .ok (.if_icmp .ge 21, 3) := by decide +kernel
theorem dX9_takeUp_36 : decode cX9_takeUp 36 = .ok (.aload_n 0, 1) := by decide +kernel
theorem dX9_takeUp_37 : decode cX9_takeUp 37 = .ok (.aload_n 0, 1) := by decide +kernel
theorem dX9_takeUp_38 : decode cX9_takeUp 38 = .ok (.getfield 22, 3) := by decide +kernel
theorem dX9_takeUp_41 : decode cX9_takeUp 41 = .ok (.iload 4, 2) := by decide +kernel
theorem dX9_takeUp_43 : decode cX9_takeUp 43 = .ok (.iaload, 1) := by decide +kernel
theorem dX9_takeUp_44 : decode cX9_takeUp 44 = .ok (.iload_n 3, 1) := by decide +kernel
theorem dX9_takeUp_45 : decode cX9_takeUp 45 = .ok (.invokevirtual 136, 3) := by decide +kernel
theorem dX9_takeUp_48 : decode cX9_takeUp 48 = .ok (.iinc 4 1, 3) := by decide +kernel
theorem dX9_takeUp_51 : decode cX9_takeUp 51 = .ok (.goto (-24), 3) := by decide +kernel
theorem dX9_takeUp_54 : decode cX9_takeUp 54 = .ok (.aload_n 0, 1) := by decide +kernel
theorem dX9_takeUp_55 : decode cX9_takeUp 55 = .ok (.iload_n 3, 1) := by decide +kernel
theorem dX9_takeUp_56 : decode cX9_takeUp 56 = .ok (.invokevirtual 139, 3) := by decide +kernel
theorem dX9_takeUp_59 : decode cX9_takeUp 59 = .ok (.aload_n 0, 1) := by decide +kernel
theorem dX9_takeUp_60 : decode cX9_takeUp 60 = .ok (.bipush 6, 2) := by decide +kernel
theorem dX9_takeUp_62 : decode cX9_takeUp 62 = .ok (.iconst 1, 1) := by decide +kernel
theorem dX9_takeUp_63 : decode cX9_takeUp 63 = .ok (.iconst 4, 1) := by decide +kernel
theorem dX9_takeUp_64 : decode cX9_takeUp 64 = .ok (.invokevirtual 142, 3) := by decide +kernel
theorem dX9_takeUp_67 : decode cX9_takeUp 67 = .ok (.aload_n 0, 1) := by decide +kernel
theorem dX9_takeUp_68 : decode cX9_takeUp 68 = .ok (.bipush 7, 2) := by decide +kernel
theorem dX9_takeUp_70 : decode cX9_takeUp 70 = .ok (.iconst 2, 1) := by decide +kernel
theorem dX9_takeUp_71 : decode cX9_takeUp 71 = .ok (.bipush 8, 2) := by decide +kernel
theorem dX9_takeUp_73 : decode cX9_takeUp 73 = .ok (.invokevirtual 142, 3) := by decide +kernel
theorem dX9_takeUp_76 : decode cX9_takeUp 76 = .ok (.aload_n 0, 1) := by decide +kernel
theorem dX9_takeUp_77 : decode cX9_takeUp 77 = .ok (.iload_n 1, 1) := by decide +kernel
theorem dX9_takeUp_78 : decode cX9_takeUp 78 = .ok (.iload_n 3, 1) := by decide +kernel
theorem dX9_takeUp_79 : decode cX9_takeUp 79 = .ok (.invokevirtual 118, 3) := by decide +kernel
theorem dX9_takeUp_82 : decode cX9_takeUp 82 = .ok (.return_, 1) := by decide +kernel
theorem dX9_rowWith_0 : decode cX9_rowWith 0 = .ok (.lconst 0, 1) := by decide +kernel
theorem dX9_rowWith_1 : decode cX9_rowWith 1 = .ok (.lstore_n 2, 1) := by decide +kernel
theorem dX9_rowWith_2 : decode cX9_rowWith 2 = .ok (.iconst 0, 1) := by decide +kernel
theorem dX9_rowWith_3 : decode cX9_rowWith 3 = .ok (.istore 4, 2) := by decide +kernel
theorem dX9_rowWith_5 : decode cX9_rowWith 5 = .ok (.iload 4, 2) := by decide +kernel
theorem dX9_rowWith_7 : decode cX9_rowWith 7 = .ok (.aload_n 0, 1) := by decide +kernel
theorem dX9_rowWith_8 : decode cX9_rowWith 8 = .ok (.getfield 94, 3) := by decide +kernel
theorem dX9_rowWith_11 : decode cX9_rowWith 11 = .ok (.if_icmp .ge 24, 3) := by decide +kernel
theorem dX9_rowWith_14 : decode cX9_rowWith 14 = .ok (.lload_n 2, 1) := by decide +kernel
theorem dX9_rowWith_15 : decode cX9_rowWith 15 = .ok (.iconst 5, 1) := by decide +kernel
theorem dX9_rowWith_16 : decode cX9_rowWith 16 = .ok (.lshl, 1) := by decide +kernel
theorem dX9_rowWith_17 : decode cX9_rowWith 17 = .ok (.aload_n 0, 1) := by decide +kernel
theorem dX9_rowWith_18 : decode cX9_rowWith 18 = .ok (.getfield 22, 3) := by decide +kernel
theorem dX9_rowWith_21 : decode cX9_rowWith 21 = .ok (.iload 4, 2) := by decide +kernel
theorem dX9_rowWith_23 : decode cX9_rowWith 23 = .ok (.iaload, 1) := by decide +kernel
theorem dX9_rowWith_24 : decode cX9_rowWith 24 = .ok (.iconst 1, 1) := by decide +kernel
theorem dX9_rowWith_25 : decode cX9_rowWith 25 = .ok (.iadd, 1) := by decide +kernel
theorem dX9_rowWith_26 : decode cX9_rowWith 26 = .ok (.i2l, 1) := by decide +kernel
theorem dX9_rowWith_27 : decode cX9_rowWith 27 = .ok (.lor, 1) := by decide +kernel
theorem dX9_rowWith_28 : decode cX9_rowWith 28 = .ok (.lstore_n 2, 1) := by decide +kernel
theorem dX9_rowWith_29 : decode cX9_rowWith 29 = .ok (.iinc 4 1, 3) := by decide +kernel
theorem dX9_rowWith_32 : decode cX9_rowWith 32 = .ok (.goto (-27), 3) := by decide +kernel
theorem dX9_rowWith_35 : decode cX9_rowWith 35 = .ok (.lload_n 2, 1) := by decide +kernel
theorem dX9_rowWith_36 : decode cX9_rowWith 36 = .ok (.iconst 5, 1) := by decide +kernel
theorem dX9_rowWith_37 : decode cX9_rowWith 37 = .ok (.lshl, 1) := by decide +kernel
theorem dX9_rowWith_38 : decode cX9_rowWith 38 = .ok (.iload_n 1, 1) := by decide +kernel
theorem dX9_rowWith_39 : decode cX9_rowWith 39 = .ok (.iconst 1, 1) := by decide +kernel
theorem dX9_rowWith_40 : decode cX9_rowWith 40 = .ok (.iadd, 1) := by decide +kernel
theorem dX9_rowWith_41 : decode cX9_rowWith 41 = .ok (.i2l, 1) := by decide +kernel
theorem dX9_rowWith_42 : decode cX9_rowWith 42 = .ok (.lor, 1) := by decide +kernel
theorem dX9_rowWith_43 : decode cX9_rowWith 43 = .ok (.lreturn, 1) := by decide +kernel
theorem dX9_learnOrder_0 : decode cX9_learnOrder 0 = .ok (.aload_n 0, 1) := by decide +kernel
theorem dX9_learnOrder_1 : decode cX9_learnOrder 1 = .ok (.getfield 25, 3) := by decide +kernel
theorem dX9_learnOrder_4 : decode cX9_learnOrder 4 = .ok (.getfield 146, 3) := by decide +kernel
theorem dX9_learnOrder_7 : decode cX9_learnOrder 7 = .ok (.astore_n 3, 1) := by decide +kernel
theorem dX9_learnOrder_8 : decode cX9_learnOrder 8 = .ok (.iload_n 1, 1) := by decide +kernel
theorem dX9_learnOrder_9 : decode cX9_learnOrder 9 = .ok (.iload_n 2, 1) := by decide +kernel
theorem dX9_learnOrder_10 : decode cX9_learnOrder 10 = .ok (.if_icmp .ne 12, 3) := by decide +kernel
theorem dX9_learnOrder_13 : decode cX9_learnOrder 13 = .ok (.aload_n 0, 1) := by decide +kernel
theorem dX9_learnOrder_14 : decode cX9_learnOrder 14 = .ok (.iconst 2, 1) := by decide +kernel
theorem dX9_learnOrder_15 : decode cX9_learnOrder 15 = .ok (.iload_n 2, 1) := by decide +kernel
theorem dX9_learnOrder_16 : decode cX9_learnOrder 16 = .ok (.invokevirtual 150, 3) := by decide +kernel
theorem dX9_learnOrder_19 : decode cX9_learnOrder 19 = .ok (.goto 79, 3) := by decide +kernel
theorem dX9_learnOrder_22 : decode cX9_learnOrder 22 = .ok (.aload_n 3, 1) := by decide +kernel
theorem dX9_learnOrder_23 : decode cX9_learnOrder 23 = .ok (.iload_n 1, 1) := by decide +kernel
theorem dX9_learnOrder_24 : decode cX9_learnOrder 24 = .ok (.iload_n 2, 1) := by decide +kernel
theorem dX9_learnOrder_25 : decode cX9_learnOrder 25 = .ok (.invokevirtual 153, 3) := by decide +kernel
theorem dX9_learnOrder_28 : decode cX9_learnOrder 28 = .ok (.ifCond .ne 70, 3) := by decide +kernel
theorem dX9_learnOrder_31 : decode cX9_learnOrder 31 = .ok (.aload_n 3, 1) := by decide +kernel
theorem dX9_learnOrder_32 : decode cX9_learnOrder 32 = .ok (.iload_n 1, 1) := by decide +kernel
theorem dX9_learnOrder_33 : decode cX9_learnOrder 33 = .ok (.iload_n 2, 1) := by decide +kernel
theorem dX9_learnOrder_34 : decode cX9_learnOrder 34 = .ok (.aload_n 0, 1) := by decide +kernel
theorem dX9_learnOrder_35 : decode cX9_learnOrder 35 = .ok (.getfield 57, 3) := by decide +kernel
theorem dX9_learnOrder_38 : decode cX9_learnOrder 38 = .ok (.bipush 12, 2) := by decide +kernel
theorem dX9_learnOrder_40 : decode cX9_learnOrder 40 = .ok (.imul, 1) := by decide +kernel
theorem dX9_learnOrder_41 : decode cX9_learnOrder 41 = .ok (.aload_n 0, 1) := by decide +kernel
theorem dX9_learnOrder_42 : decode cX9_learnOrder 42 = .ok (.getfield 45, 3) := by decide +kernel
theorem dX9_learnOrder_45 : decode cX9_learnOrder 45 = .ok (.iadd, 1) := by decide +kernel
theorem dX9_learnOrder_46 : decode cX9_learnOrder 46 = .ok (.invokevirtual 158, 3) := by decide +kernel
theorem dX9_learnOrder_49 : decode cX9_learnOrder 49 = .ok (.aload_n 3, 1) := by decide +kernel
theorem dX9_learnOrder_50 : decode cX9_learnOrder 50 = .ok (.getfield 161, 3) := by decide +kernel
theorem dX9_learnOrder_53 : decode cX9_learnOrder 53 = .ok (.iload_n 2, 1) := by decide +kernel
theorem dX9_learnOrder_54 : decode cX9_learnOrder 54 = .ok (.iaload, 1) := by decide +kernel
theorem dX9_learnOrder_55 : decode cX9_learnOrder 55 = .ok (.iload_n 1, 1) := by decide +kernel
theorem dX9_learnOrder_56 : decode cX9_learnOrder 56 = .ok (.invokestatic 73, 3) := by decide +kernel
theorem dX9_learnOrder_59 : decode cX9_learnOrder 59 = .ok (.ifCond .eq 39, 3) := by decide +kernel
theorem dX9_learnOrder_62 : decode cX9_learnOrder 62 = .ok (.aload_n 0, 1) := by decide +kernel
theorem dX9_learnOrder_63 : decode cX9_learnOrder 63 = .ok (.getfield 25, 3) := by decide +kernel
theorem dX9_learnOrder_66 : decode cX9_learnOrder 66 = .ok (.getfield 33, 3) := by decide +kernel
theorem dX9_learnOrder_69 : decode cX9_learnOrder 69 = .ok (.iconst 3, 1) := by decide +kernel
theorem dX9_learnOrder_70 : decode cX9_learnOrder 70 = .ok (.aload_n 0, 1) := by decide +kernel
theorem dX9_learnOrder_71 : decode cX9_learnOrder 71 = .ok (.getfield 57, 3) := by decide +kernel
theorem dX9_learnOrder_74 : decode cX9_learnOrder 74 = .ok (.aload_n 0, 1) := by decide +kernel
theorem dX9_learnOrder_75 : decode cX9_learnOrder 75 = .ok (.getfield 45, 3) := by decide +kernel
theorem dX9_learnOrder_78 : decode cX9_learnOrder 78 = .ok (.invokevirtual 164, 3) := by decide +kernel
theorem dX9_learnOrder_81 : decode cX9_learnOrder 81 = .ok (.aload_n 0, 1) := by decide +kernel
theorem dX9_learnOrder_82 : decode cX9_learnOrder 82 = .ok (.getfield 25, 3) := by decide +kernel
theorem dX9_learnOrder_85 : decode cX9_learnOrder 85 = .ok (.getfield 33, 3) := by decide +kernel
theorem dX9_learnOrder_88 : decode cX9_learnOrder 88 = .ok (.iload_n 1, 1) := by decide +kernel
theorem dX9_learnOrder_89 : decode cX9_learnOrder 89 = .ok (.invokevirtual 167, 3) := by decide +kernel
theorem dX9_learnOrder_92 : decode cX9_learnOrder 92 = .ok (.aload_n 0, 1) := by decide +kernel
theorem dX9_learnOrder_93 : decode cX9_learnOrder 93 = .ok (.iload_n 2, 1) := by decide +kernel
theorem dX9_learnOrder_94 : decode cX9_learnOrder 94 = .ok (.iload_n 1, 1) := by decide +kernel
theorem dX9_learnOrder_95 : decode cX9_learnOrder 95 = .ok (.invokevirtual 170, 3) := by decide +kernel
theorem dX9_learnOrder_98 : decode cX9_learnOrder 98 = .ok (.return_, 1) := by decide +kernel
theorem dX9_learnUse_0 : decode cX9_learnUse 0 = .ok (.aload_n 0, 1) := by decide +kernel
theorem dX9_learnUse_1 : decode cX9_learnUse 1 = .ok (.getfield 48, 3) := by decide +kernel
theorem dX9_learnUse_4 : decode cX9_learnUse 4 = .ok (.getfield 109, 3) := by decide +kernel
theorem dX9_learnUse_7 : decode cX9_learnUse 7 = .ok (.aload_n 0, 1) := by decide +kernel
theorem dX9_learnUse_8 : decode cX9_learnUse 8 = .ok (.getfield 57, 3) := by decide +kernel
theorem dX9_learnUse_11 : decode cX9_learnUse 11 = .ok (.iaload, 1) := by decide +kernel
theorem dX9_learnUse_12 : decode cX9_learnUse 12 = .ok (.istore_n 2, 1) := by decide +kernel
theorem dX9_learnUse_13 : decode cX9_learnUse 13 = .ok (.aload_n 0, 1) := by decide +kernel
theorem dX9_learnUse_14 : decode cX9_learnUse 14 = .ok (.getfield 106, 3) := by decide +kernel
theorem dX9_learnUse_17 : decode cX9_learnUse 17 = .ok (.invokestatic 173, 3) := by decide +kernel
theorem dX9_learnUse_20 : decode cX9_learnUse 20 = .ok (.istore_n 3, 1) := by decide +kernel
theorem dX9_learnUse_21 : decode cX9_learnUse 21 = .ok (.aload_n 0, 1) := by decide +kernel
theorem dX9_learnUse_22 : decode cX9_learnUse 22 = .ok (.getfield 25, 3) := by decide +kernel
theorem dX9_learnUse_25 : decode cX9_learnUse 25 = .ok (.getfield 176, 3) := by decide +kernel
theorem dX9_learnUse_28 : decode cX9_learnUse 28 = .ok (.iload_n 1, 1) := by decide +kernel
theorem dX9_learnUse_29 : decode cX9_learnUse 29 = .ok (.iaload, 1) := by decide +kernel
theorem dX9_learnUse_30 : decode cX9_learnUse 30 = .ok (.istore 4, 2) := by decide +kernel
theorem dX9_learnUse_32 : decode cX9_learnUse 32 = .ok (.iload 4, 2) := by decide +kernel
theorem dX9_learnUse_34 : decode cX9_learnUse 34 = .ok (.iload_n 2, 1) := by decide +kernel
theorem dX9_learnUse_35 : decode cX9_learnUse 35 = .ok (.iconst 2, 1) := by decide +kernel
theorem dX9_learnUse_36 : decode cX9_learnUse 36 = .ok (.if_icmp .ne 7, 3) := by decide +kernel
theorem dX9_learnUse_39 : decode cX9_learnUse 39 = .ok (.iconst 1, 1) := by decide +kernel
theorem dX9_learnUse_40 : decode cX9_learnUse 40 = .ok (.goto 4, 3) := by decide +kernel
theorem dX9_learnUse_43 : decode cX9_learnUse 43 = .ok (.iconst 0, 1) := by decide +kernel
theorem dX9_learnUse_44 : decode cX9_learnUse 44 = .ok (.ior, 1) := by decide +kernel
theorem dX9_learnUse_45 : decode cX9_learnUse 45 = .ok (.istore 4, 2) := by decide +kernel
theorem dX9_learnUse_47 : decode cX9_learnUse 47 = .ok (.iload 4, 2) := by decide +kernel
theorem dX9_learnUse_49 : decode cX9_learnUse 49 = .ok (.iload_n 2, 1) := by decide +kernel
theorem dX9_learnUse_50 : decode cX9_learnUse 50 = .ok (.iconst 1, 1) := by decide +kernel
theorem dX9_learnUse_51 : decode cX9_learnUse 51 = .ok (.if_icmp .ne 7, 3) := by decide +kernel
theorem dX9_learnUse_54 : decode cX9_learnUse 54 = .ok (.iconst 2, 1) := by decide +kernel
theorem dX9_learnUse_55 : decode cX9_learnUse 55 = .ok (.goto 4, 3) := by decide +kernel
theorem dX9_learnUse_58 : decode cX9_learnUse 58 = .ok (.iconst 0, 1) := by decide +kernel
theorem dX9_learnUse_59 : decode cX9_learnUse 59 = .ok (.ior, 1) := by decide +kernel
theorem dX9_learnUse_60 : decode cX9_learnUse 60 = .ok (.istore 4, 2) := by decide +kernel
theorem dX9_learnUse_62 : decode cX9_learnUse 62 = .ok (.iload 4, 2) := by decide +kernel
theorem dX9_learnUse_64 : decode cX9_learnUse 64 = .ok (.iload_n 3, 1) := by decide +kernel
theorem dX9_learnUse_65 : decode cX9_learnUse 65 = .ok (.iconst 2, 1) := by decide +kernel
theorem dX9_learnUse_66 : decode cX9_learnUse 66 = .ok (.invokestatic 73, 3) := by decide +kernel
theorem dX9_learnUse_69 : decode cX9_learnUse 69 = .ok (.ifCond .eq 7, 3) := by decide +kernel
theorem dX9_learnUse_72 : decode cX9_learnUse 72 = .ok (.iconst 4, 1) := by decide +kernel
theorem dX9_learnUse_73 : decode cX9_learnUse 73 = .ok (.goto 4, 3) := by decide +kernel
theorem dX9_learnUse_76 : decode cX9_learnUse 76 = .ok (.iconst 0, 1) := by decide +kernel
theorem dX9_learnUse_77 : decode cX9_learnUse 77 = .ok (.ior, 1) := by decide +kernel
theorem dX9_learnUse_78 : decode cX9_learnUse 78 = .ok (.istore 4, 2) := by decide +kernel
theorem dX9_learnUse_80 : decode cX9_learnUse 80 = .ok (.iload 4, 2) := by decide +kernel
theorem dX9_learnUse_82 : decode cX9_learnUse 82 = .ok (.iload_n 3, 1) := by decide +kernel
theorem dX9_learnUse_83 : decode cX9_learnUse 83 = .ok (.iconst 1, 1) := by decide +kernel
theorem dX9_learnUse_84 : decode cX9_learnUse 84 = .ok (.invokestatic 73, 3) := by decide +kernel
theorem dX9_learnUse_87 : decode cX9_learnUse 87 = .ok (.ifCond .eq 8, 3) := by decide +kernel
theorem dX9_learnUse_90 : decode cX9_learnUse 90 = .ok (.bipush 8, 2) := by decide +kernel
theorem dX9_learnUse_92 : decode cX9_learnUse 92 = .ok (.goto 4, 3) := by decide +kernel
theorem dX9_learnUse_95 : decode cX9_learnUse 95 = .ok (.iconst 0, 1) := by decide +kernel
theorem dX9_learnUse_96 : decode cX9_learnUse 96 = .ok (.ior, 1) := by decide +kernel
theorem dX9_learnUse_97 : decode cX9_learnUse 97 = .ok (.istore 4, 2) := by decide +kernel
theorem dX9_learnUse_99 : decode cX9_learnUse 99 = .ok (.aload_n 0, 1) := by decide +kernel
theorem dX9_learnUse_100 : decode cX9_learnUse 100 = .ok (.getfield 25, 3) := by decide +kernel
theorem dX9_learnUse_103 : decode cX9_learnUse 103 = .ok (.getfield 176, 3) := by decide +kernel
theorem dX9_learnUse_106 : decode cX9_learnUse 106 = .ok (.iload_n 1, 1) := by decide +kernel
theorem dX9_learnUse_107 : decode cX9_learnUse 107 = .ok (.iload 4, 2) := by decide +kernel
theorem dX9_learnUse_109 : decode cX9_learnUse 109 = .ok (.iastore, 1) := by decide +kernel
theorem dX9_learnUse_110 : decode cX9_learnUse 110 = .ok (.iload 4, 2) := by decide +kernel
theorem dX9_learnUse_112 : decode cX9_learnUse 112 = .ok (.iconst 1, 1) := by decide +kernel
theorem dX9_learnUse_113 : decode cX9_learnUse 113 = .ok (.iand, 1) := by decide +kernel
theorem dX9_learnUse_114 : decode cX9_learnUse 114 = .ok (.ifCond .eq 16, 3) := by decide +kernel
theorem dX9_learnUse_117 : decode cX9_learnUse 117 = .ok (.iload 4, 2) := by decide +kernel
theorem dX9_learnUse_119 : decode cX9_learnUse 119 = .ok (.iconst 4, 1) := by decide +kernel
theorem dX9_learnUse_120 : decode cX9_learnUse 120 = .ok (.iand, 1) := by decide +kernel
theorem dX9_learnUse_121 : decode cX9_learnUse 121 = .ok (.ifCond .eq 9, 3) := by decide +kernel
theorem dX9_learnUse_124 : decode cX9_learnUse 124 = .ok (.aload_n 0, 1) := by decide +kernel
theorem dX9_learnUse_125 : decode cX9_learnUse 125 = .ok (.iconst 4, 1) := by decide +kernel
theorem dX9_learnUse_126 : decode cX9_learnUse 126 = .ok (.iload_n 1, 1) := by decide +kernel
theorem dX9_learnUse_127 : decode cX9_learnUse 127 = .ok (.invokevirtual 150, 3) := by decide +kernel
theorem dX9_learnUse_130 : decode cX9_learnUse 130 = .ok (.iload 4, 2) := by decide +kernel
theorem dX9_learnUse_132 : decode cX9_learnUse 132 = .ok (.iconst 2, 1) := by decide +kernel
theorem dX9_learnUse_133 : decode cX9_learnUse 133 = .ok (.iand, 1) := by decide +kernel
theorem dX9_learnUse_134 : decode cX9_learnUse 134 = .ok (.ifCond .eq 17, 3) := by decide +kernel
theorem dX9_learnUse_137 : decode cX9_learnUse 137 = .ok (.iload 4, 2) := by decide +kernel
theorem dX9_learnUse_139 : decode cX9_learnUse 139 = .ok (.bipush 8, 2) := by decide +kernel
theorem dX9_learnUse_141 : decode cX9_learnUse 141 = .ok (.iand, 1) := by decide +kernel
theorem dX9_learnUse_142 : decode cX9_learnUse 142 = .ok (.ifCond .eq 9, 3) := by decide +kernel
theorem dX9_learnUse_145 : decode cX9_learnUse 145 = .ok (.aload_n 0, 1) := by decide +kernel
theorem dX9_learnUse_146 : decode cX9_learnUse 146 = .ok (.iconst 5, 1) := by decide +kernel
theorem dX9_learnUse_147 : decode cX9_learnUse 147 = .ok (.iload_n 1, 1) := by decide +kernel
theorem dX9_learnUse_148 : decode cX9_learnUse 148 = .ok (.invokevirtual 150, 3) := by decide +kernel
theorem dX9_learnUse_151 : decode cX9_learnUse 151 = .ok (.return_, 1) := by decide +kernel
theorem dX9_tellUnsafe_0 : decode cX9_tellUnsafe 0 = .ok (.aload_n 0, 1) := by decide +kernel
theorem dX9_tellUnsafe_1 : decode cX9_tellUnsafe 1 = .ok (.getfield 25, 3) := by decide +kernel
theorem dX9_tellUnsafe_4 : decode cX9_tellUnsafe 4 = .ok (.iload_n 2, 1) := by decide +kernel
theorem dX9_tellUnsafe_5 : decode cX9_tellUnsafe 5 = .ok (.invokevirtual 179, 3) := by decide +kernel
theorem dX9_tellUnsafe_8 : decode cX9_tellUnsafe 8 = .ok (.istore 4, 2) := by decide +kernel
theorem dX9_tellUnsafe_10 : decode cX9_tellUnsafe 10 = .ok (.aload_n 0, 1) := by decide +kernel
theorem dX9_tellUnsafe_11 : decode cX9_tellUnsafe 11 = .ok (.getfield 25, 3) := by decide +kernel
theorem dX9_tellUnsafe_14 : decode cX9_tellUnsafe 14 = .ok (.iload_n 3, 1) := by decide +kernel
theorem dX9_tellUnsafe_15 : decode cX9_tellUnsafe 15 = .ok (.invokevirtual 179, 3) := by decide +kernel
theorem dX9_tellUnsafe_18 : decode cX9_tellUnsafe 18 = .ok (.istore 5, 2) := by decide +kernel
theorem dX9_tellUnsafe_20 : decode cX9_tellUnsafe 20 = .ok (.iconst 0, 1) := by decide +kernel
theorem dX9_tellUnsafe_21 : decode cX9_tellUnsafe 21 = .ok (.istore 6, 2) := by decide +kernel
theorem dX9_tellUnsafe_23 : decode cX9_tellUnsafe 23 = .ok (.iload 6, 2) := by decide +kernel
theorem dX9_tellUnsafe_25 : decode cX9_tellUnsafe 25 = .ok (.bipush 16, 2) := by decide +kernel
theorem dX9_tellUnsafe_27 : decode cX9_tellUnsafe 27 = .ok (.if_icmp .ge 135, 3) := by decide +kernel
theorem dX9_tellUnsafe_30 : decode cX9_tellUnsafe 30 = .ok (.iload 4, 2) := by decide +kernel
theorem dX9_tellUnsafe_32 : decode cX9_tellUnsafe 32 = .ok (.iload 6, 2) := by decide +kernel
theorem dX9_tellUnsafe_34 : decode cX9_tellUnsafe 34 = .ok (.invokestatic 73, 3) := by decide +kernel
theorem dX9_tellUnsafe_37 : decode cX9_tellUnsafe 37 = .ok (.ifCond .eq 119, 3) := by decide +kernel
theorem dX9_tellUnsafe_40 : decode cX9_tellUnsafe 40 = .ok (.aload_n 0, 1) := by decide +kernel
theorem dX9_tellUnsafe_41 : decode cX9_tellUnsafe 41 = .ok (.getfield 25, 3) := by decide +kernel
theorem dX9_tellUnsafe_44 : decode cX9_tellUnsafe 44 = .ok (.getfield 146, 3) := by decide +kernel
theorem dX9_tellUnsafe_47 : decode cX9_tellUnsafe 47 = .ok (.getfield 161, 3) := by decide +kernel
theorem dX9_tellUnsafe_50 : decode cX9_tellUnsafe 50 = .ok (.iload 6, 2) := by decide +kernel
theorem dX9_tellUnsafe_52 : decode cX9_tellUnsafe 52 = .ok (.iaload, 1) := by decide +kernel
theorem dX9_tellUnsafe_53 : decode cX9_tellUnsafe 53 = .ok (.iload 5, 2) := by decide +kernel
theorem dX9_tellUnsafe_55 : decode cX9_tellUnsafe 55 = .ok (.iand, 1) := by decide +kernel
theorem dX9_tellUnsafe_56 : decode cX9_tellUnsafe 56 = .ok (.iconst 1, 1) := by decide +kernel
theorem dX9_tellUnsafe_57 : decode cX9_tellUnsafe 57 = .ok (.iload 6, 2) := by decide +kernel
theorem dX9_tellUnsafe_59 : decode cX9_tellUnsafe 59 = .ok (.ishl, 1) := by decide +kernel
theorem dX9_tellUnsafe_60 : decode cX9_tellUnsafe 60 = .ok (.iconst (-1), 1) := by decide +kernel
theorem dX9_tellUnsafe_61 : decode cX9_tellUnsafe 61 = .ok (.ixor, 1) := by decide +kernel
theorem dX9_tellUnsafe_62 : decode cX9_tellUnsafe 62 = .ok (.iand, 1) := by decide +kernel
theorem dX9_tellUnsafe_63 : decode cX9_tellUnsafe 63 = .ok (.istore 7, 2) := by decide +kernel
theorem dX9_tellUnsafe_65 : decode cX9_tellUnsafe 65 = .ok (.iload 7, 2) := by decide +kernel
theorem dX9_tellUnsafe_67 : decode cX9_tellUnsafe 67 = .ok (.aload_n 0, 1) := by decide +kernel
theorem dX9_tellUnsafe_68 : decode cX9_tellUnsafe 68 = .ok (.getfield 25, 3) := by decide +kernel
theorem dX9_tellUnsafe_71 : decode cX9_tellUnsafe 71 = .ok (.getfield 33, 3) := by decide +kernel
theorem dX9_tellUnsafe_74 : decode cX9_tellUnsafe 74 = .ok (.iload_n 1, 1) := by decide +kernel
theorem dX9_tellUnsafe_75 : decode cX9_tellUnsafe 75 = .ok (.iload 6, 2) := by decide +kernel
theorem dX9_tellUnsafe_77 : decode cX9_tellUnsafe 77 = .ok (.invokevirtual 182, 3) := by decide +kernel
theorem dX9_tellUnsafe_80 : decode cX9_tellUnsafe 80 = .ok (.iconst (-1), 1) := by decide +kernel
theorem dX9_tellUnsafe_81 : decode cX9_tellUnsafe 81 = .ok (.ixor, 1) := by decide +kernel
theorem dX9_tellUnsafe_82 : decode cX9_tellUnsafe 82 = .ok (.iand, 1) := by decide +kernel
theorem dX9_tellUnsafe_83 : decode cX9_tellUnsafe 83 = .ok (.istore 7, 2) := by decide +kernel
theorem dX9_tellUnsafe_85 : decode cX9_tellUnsafe 85 = .ok (.iconst 0, 1) := by decide +kernel
theorem dX9_tellUnsafe_86 : decode cX9_tellUnsafe 86 = .ok (.istore 8, 2) := by decide +kernel
theorem dX9_tellUnsafe_88 : decode cX9_tellUnsafe 88 = .ok (.iload 8, 2) := by decide +kernel
theorem dX9_tellUnsafe_90 : decode cX9_tellUnsafe 90 = .ok (.bipush 16, 2) := by decide +kernel
theorem dX9_tellUnsafe_92 : decode cX9_tellUnsafe 92 = .ok (.if_icmp .ge 64, 3) := by decide +kernel
theorem dX9_tellUnsafe_95 : decode cX9_tellUnsafe 95 = .ok (.iload 7, 2) := by decide +kernel
theorem dX9_tellUnsafe_97 : decode cX9_tellUnsafe 97 = .ok (.ifCond .eq 59, 3) := by decide +kernel
theorem dX9_tellUnsafe_100 : decode cX9_tellUnsafe 100 = .ok (.aload_n 0, 1) := by decide +kernel
theorem dX9_tellUnsafe_101 : decode cX9_tellUnsafe 101 = .ok (.getfield 25, 3) := by decide +kernel
theorem dX9_tellUnsafe_104 : decode cX9_tellUnsafe 104 = .ok (.getfield 33, 3) := by decide +kernel
theorem dX9_tellUnsafe_107 : decode cX9_tellUnsafe 107 = .ok (.invokevirtual 185, 3) := by decide +kernel
theorem dX9_tellUnsafe_110 : decode cX9_tellUnsafe 110 = .ok (.ifCond .ne 46, 3) := by decide +kernel
theorem dX9_tellUnsafe_113 : decode cX9_tellUnsafe 113 = .ok (.iload 7, 2) := by decide +kernel
theorem dX9_tellUnsafe_115 : decode cX9_tellUnsafe 115 = .ok (.iload 8, 2) := by decide +kernel
theorem dX9_tellUnsafe_117 : decode cX9_tellUnsafe 117 = .ok (.invokestatic 73, 3) := by decide +kernel
theorem dX9_tellUnsafe_120 : decode cX9_tellUnsafe 120 = .ok (.ifCond .eq 30, 3) := by decide +kernel
theorem dX9_tellUnsafe_123 : decode cX9_tellUnsafe 123 = .ok (.aload_n 0, 1) := by decide +kernel
theorem dX9_tellUnsafe_124 : decode cX9_tellUnsafe 124 = .ok (.getfield 25, 3) := by decide +kernel
theorem dX9_tellUnsafe_127 : decode cX9_tellUnsafe 127 = .ok (.getfield 33, 3) := by decide +kernel
theorem dX9_tellUnsafe_130 : decode cX9_tellUnsafe 130 = .ok (.iload_n 1, 1) := by decide +kernel
theorem dX9_tellUnsafe_131 : decode cX9_tellUnsafe 131 = .ok (.aload_n 0, 1) := by decide +kernel
theorem dX9_tellUnsafe_132 : decode cX9_tellUnsafe 132 = .ok (.getfield 57, 3) := by decide +kernel
theorem dX9_tellUnsafe_135 : decode cX9_tellUnsafe 135 = .ok (.aload_n 0, 1) := by decide +kernel
theorem dX9_tellUnsafe_136 : decode cX9_tellUnsafe 136 = .ok (.getfield 45, 3) := by decide +kernel
theorem dX9_tellUnsafe_139 : decode cX9_tellUnsafe 139 = .ok (.invokevirtual 164, 3) := by decide +kernel
theorem dX9_tellUnsafe_142 : decode cX9_tellUnsafe 142 = .ok (.aload_n 0, 1) := by decide +kernel
theorem dX9_tellUnsafe_143 : decode cX9_tellUnsafe 143 = .ok (.iload 6, 2) := by decide +kernel
theorem dX9_tellUnsafe_145 : decode cX9_tellUnsafe 145 = .ok (.iload 8, 2) := by decide +kernel
theorem dX9_tellUnsafe_147 : decode cX9_tellUnsafe 147 = .ok (.invokevirtual 170, 3) := by decide +kernel
theorem dX9_tellUnsafe_150 : decode cX9_tellUnsafe 150 = .ok (.iinc 8 1, 3) := by decide +kernel
theorem dX9_tellUnsafe_153 : decode cX9_tellUnsafe 153 = .ok (.goto (-65), 3) := by decide +kernel
theorem dX9_tellUnsafe_156 : decode cX9_tellUnsafe 156 = .ok (.iinc 6 1, 3) := by decide +kernel
theorem dX9_tellUnsafe_159 : decode cX9_tellUnsafe 159 = .ok (.goto (-136), 3) := by decide +kernel
theorem dX9_tellUnsafe_162 : decode cX9_tellUnsafe 162 = .ok (.return_, 1) := by decide +kernel
theorem dX9_tellWay_0 : decode cX9_tellWay 0 = .ok (.aload_n 0, 1) := by decide +kernel
theorem dX9_tellWay_1 : decode cX9_tellWay 1 = .ok (.getfield 12, 3) := by decide +kernel
theorem dX9_tellWay_4 : decode cX9_tellWay 4 = .ok (.aload_n 0, 1) := by decide +kernel
theorem dX9_tellWay_5 : decode cX9_tellWay 5 = .ok (.getfield 25, 3) := by decide +kernel
theorem dX9_tellWay_8 : decode cX9_tellWay 8 = .ok (.getfield 146, 3) := by decide +kernel
theorem dX9_tellWay_11 : decode cX9_tellWay 11 = .ok (.getfield 189, 3) := by decide +kernel
theorem dX9_tellWay_14 : decode cX9_tellWay 14 = .ok (.iload_n 1, 1) := by decide +kernel
theorem dX9_tellWay_15 : decode cX9_tellWay 15 = .ok (.iload_n 2, 1) := by decide +kernel
theorem dX9_tellWay_16 : decode cX9_tellWay 16 = .ok (.invokevirtual 192, 3) := by decide +kernel
theorem dX9_tellWay_19 : decode cX9_tellWay 19 = .ok (.ifCond .eq 51, 3) := by decide +kernel
theorem dX9_tellWay_22 : decode cX9_tellWay 22 = .ok (.iconst 0, 1) := by decide +kernel
theorem dX9_tellWay_23 : decode cX9_tellWay 23 = .ok (.istore_n 3, 1) := by decide +kernel
theorem dX9_tellWay_24 : decode cX9_tellWay 24 = .ok (.iload_n 3, 1) := by decide +kernel
theorem dX9_tellWay_25 : decode cX9_tellWay 25 = .ok (.aload_n 0, 1) := by decide +kernel
theorem dX9_tellWay_26 : decode cX9_tellWay 26 = .ok (.getfield 12, 3) := by decide +kernel
theorem dX9_tellWay_29 : decode cX9_tellWay 29 = .ok (.getfield 196, 3) := by decide +kernel
theorem dX9_tellWay_32 : decode cX9_tellWay 32 = .ok (.if_icmp .gt 28, 3) := by decide +kernel
theorem dX9_tellWay_35 : decode cX9_tellWay 35 = .ok (.aload_n 0, 1) := by decide +kernel
theorem dX9_tellWay_36 : decode cX9_tellWay 36 = .ok (.getfield 25, 3) := by decide +kernel
theorem dX9_tellWay_39 : decode cX9_tellWay 39 = .ok (.getfield 33, 3) := by decide +kernel
theorem dX9_tellWay_42 : decode cX9_tellWay 42 = .ok (.aload_n 0, 1) := by decide +kernel
theorem dX9_tellWay_43 : decode cX9_tellWay 43 = .ok (.getfield 12, 3) := by decide +kernel
theorem dX9_tellWay_46 : decode cX9_tellWay 46 = .ok (.getfield 199, 3) := by decide +kernel
theorem dX9_tellWay_49 : decode cX9_tellWay 49 = .ok (.iload_n 3, 1) := by decide +kernel
theorem dX9_tellWay_50 : decode cX9_tellWay 50 = .ok (.iaload, 1) := by decide +kernel
theorem dX9_tellWay_51 : decode cX9_tellWay 51 = .ok (.invokevirtual 167, 3) := by decide +kernel
theorem dX9_tellWay_54 : decode cX9_tellWay 54 = .ok (.iinc 3 1, 3) := by decide +kernel
theorem dX9_tellWay_57 : decode cX9_tellWay 57 = .ok (.goto (-33), 3) := by decide +kernel
theorem dX9_tellWay_60 : decode cX9_tellWay 60 = .ok (.aload_n 0, 1) := by decide +kernel
theorem dX9_tellWay_61 : decode cX9_tellWay 61 = .ok (.getfield 25, 3) := by decide +kernel
theorem dX9_tellWay_64 : decode cX9_tellWay 64 = .ok (.getfield 33, 3) := by decide +kernel
theorem dX9_tellWay_67 : decode cX9_tellWay 67 = .ok (.invokevirtual 200, 3) := by decide +kernel
theorem dX9_tellWay_70 : decode cX9_tellWay 70 = .ok (.return_, 1) := by decide +kernel
theorem dX9_tellOnce_0 : decode cX9_tellOnce 0 = .ok (.aload_n 0, 1) := by decide +kernel
theorem dX9_tellOnce_1 : decode cX9_tellOnce 1 = .ok (.getfield 25, 3) := by decide +kernel
theorem dX9_tellOnce_4 : decode cX9_tellOnce 4 = .ok (.getfield 33, 3) := by decide +kernel
theorem dX9_tellOnce_7 : decode cX9_tellOnce 7 = .ok (.iload_n 1, 1) := by decide +kernel
theorem dX9_tellOnce_8 : decode cX9_tellOnce 8 = .ok (.iload_n 2, 1) := by decide +kernel
theorem dX9_tellOnce_9 : decode cX9_tellOnce 9 = .ok (.invokevirtual 182, 3) := by decide +kernel
theorem dX9_tellOnce_12 : decode cX9_tellOnce 12 = .ok (.iload_n 2, 1) := by decide +kernel
theorem dX9_tellOnce_13 : decode cX9_tellOnce 13 = .ok (.invokestatic 73, 3) := by decide +kernel
theorem dX9_tellOnce_16 : decode cX9_tellOnce 16 = .ok (.ifCond .ne 9, 3) := by decide +kernel
theorem dX9_tellOnce_19 : decode cX9_tellOnce 19 = .ok (.aload_n 0, 1) := by decide +kernel
theorem dX9_tellOnce_20 : decode cX9_tellOnce 20 = .ok (.iload_n 1, 1) := by decide +kernel
theorem dX9_tellOnce_21 : decode cX9_tellOnce 21 = .ok (.iload_n 2, 1) := by decide +kernel
theorem dX9_tellOnce_22 : decode cX9_tellOnce 22 = .ok (.invokevirtual 80, 3) := by decide +kernel
theorem dX9_tellOnce_25 : decode cX9_tellOnce 25 = .ok (.return_, 1) := by decide +kernel
theorem dX9_tell_0 : decode cX9_tell 0 = .ok (.aload_n 0, 1) := by decide +kernel
theorem dX9_tell_1 : decode cX9_tell 1 = .ok (.getfield 25, 3) := by decide +kernel
theorem dX9_tell_4 : decode cX9_tell 4 = .ok (.getfield 33, 3) := by decide +kernel
theorem dX9_tell_7 : decode cX9_tell 7 = .ok (.iload_n 1, 1) := by decide +kernel
theorem dX9_tell_8 : decode cX9_tell 8 = .ok (.aload_n 0, 1) := by decide +kernel
theorem dX9_tell_9 : decode cX9_tell 9 = .ok (.getfield 57, 3) := by decide +kernel
theorem dX9_tell_12 : decode cX9_tell 12 = .ok (.aload_n 0, 1) := by decide +kernel
theorem dX9_tell_13 : decode cX9_tell 13 = .ok (.getfield 45, 3) := by decide +kernel
theorem dX9_tell_16 : decode cX9_tell 16 = .ok (.invokevirtual 164, 3) := by decide +kernel
theorem dX9_tell_19 : decode cX9_tell 19 = .ok (.aload_n 0, 1) := by decide +kernel
theorem dX9_tell_20 : decode cX9_tell 20 = .ok (.getfield 25, 3) := by decide +kernel
theorem dX9_tell_23 : decode cX9_tell 23 = .ok (.getfield 33, 3) := by decide +kernel
theorem dX9_tell_26 : decode cX9_tell 26 = .ok (.iload_n 2, 1) := by decide +kernel
theorem dX9_tell_27 : decode cX9_tell 27 = .ok (.invokevirtual 167, 3) := by decide +kernel
theorem dX9_tell_30 : decode cX9_tell 30 = .ok (.aload_n 0, 1) := by decide +kernel
theorem dX9_tell_31 : decode cX9_tell 31 = .ok (.getfield 25, 3) := by decide +kernel
theorem dX9_tell_34 : decode cX9_tell 34 = .ok (.getfield 33, 3) := by decide +kernel
theorem dX9_tell_37 : decode cX9_tell 37 = .ok (.invokevirtual 200, 3) := by decide +kernel
theorem dX9_tell_40 : decode cX9_tell 40 = .ok (.return_, 1) := by decide +kernel
theorem dX10_init_0 : decode cX10_init 0 = .ok (.aload_n 0, 1) := by decide +kernel
theorem dX10_init_1 : decode cX10_init 1 = .ok (.invokespecial 3, 3) := by decide +kernel
theorem dX10_init_4 : decode cX10_init 4 = .ok (.aload_n 0, 1) := by decide +kernel
theorem dX10_init_5 : decode cX10_init 5 = .ok (.bipush 17, 2) := by decide +kernel
theorem dX10_init_7 : decode cX10_init 7 = .ok (.newarray .int, 2) := by decide +kernel
theorem dX10_init_9 : decode cX10_init 9 = .ok (.putfield 9, 3) := by decide +kernel
theorem dX10_init_12 : decode cX10_init 12 = .ok (.aload_n 0, 1) := by decide +kernel
theorem dX10_init_13 : decode cX10_init 13 = .ok (.bipush 16, 2) := by decide +kernel
theorem dX10_init_15 : decode cX10_init 15 = .ok (.newarray .int, 2) := by decide +kernel
theorem dX10_init_17 : decode cX10_init 17 = .ok (.putfield 15, 3) := by decide +kernel
theorem dX10_init_20 : decode cX10_init 20 = .ok (.return_, 1) := by decide +kernel
theorem dX10_find_0 : decode cX10_find 0 = .ok (.iconst 0, 1) := by decide +kernel
theorem dX10_find_1 : decode cX10_find 1 = .ok (.istore 4, 2) := by decide +kernel
theorem dX10_find_3 : decode cX10_find 3 = .ok (.aload_n 0, 1) := by decide +kernel
theorem dX10_find_4 : decode cX10_find 4 = .ok (.getfield 15, 3) := by decide +kernel
theorem dX10_find_7 : decode cX10_find 7 = .ok (.iconst 0, 1) := by decide +kernel
theorem dX10_find_8 : decode cX10_find 8 = .ok (.iconst 1, 1) := by decide +kernel
theorem dX10_find_9 : decode cX10_find 9 = .ok (.iload_n 3, 1) := by decide +kernel
theorem dX10_find_10 : decode cX10_find 10 = .ok (.ishl, 1) := by decide +kernel
theorem dX10_find_11 : decode cX10_find 11 = .ok (.iastore, 1) := by decide +kernel
theorem dX10_find_12 : decode cX10_find 12 = .ok (.aload_n 0, 1) := by decide +kernel
theorem dX10_find_13 : decode cX10_find 13 = .ok (.getfield 15, 3) := by decide +kernel
theorem dX10_find_16 : decode cX10_find 16 = .ok (.iconst 0, 1) := by decide +kernel
theorem dX10_find_17 : decode cX10_find 17 = .ok (.iaload, 1) := by decide +kernel
theorem dX10_find_18 : decode cX10_find 18 = .ok (.istore 5, 2) := by decide +kernel
theorem dX10_find_20 : decode cX10_find 20 = .ok (.iload 4, 2) := by decide +kernel
theorem dX10_find_22 : decode cX10_find 22 = .ok (.bipush 15, 2) := by decide +kernel
theorem dX10_find_24 : decode cX10_find 24 = .ok (.if_icmp .ge 70, 3) := by decide +kernel
theorem dX10_find_27 : decode cX10_find 27 = .ok (.aload_n 0, 1) := by decide +kernel
theorem dX10_find_28 : decode cX10_find 28 = .ok (.getfield 15, 3) := by decide +kernel
theorem dX10_find_31 : decode cX10_find 31 = .ok (.iload 4, 2) := by decide +kernel
theorem dX10_find_33 : decode cX10_find 33 = .ok (.iaload, 1) := by decide +kernel
theorem dX10_find_34 : decode cX10_find 34 = .ok (.ifCond .eq 60, 3) := by decide +kernel
theorem dX10_find_37 : decode cX10_find 37 = .ok (.aload_n 1, 1) := by decide +kernel
theorem dX10_find_38 : decode cX10_find 38 = .ok (.iload_n 2, 1) := by decide +kernel
theorem dX10_find_39 : decode cX10_find 39 = .ok (.iaload, 1) := by decide +kernel
theorem dX10_find_40 : decode cX10_find 40 = .ok (.aload_n 0, 1) := by decide +kernel
theorem dX10_find_41 : decode cX10_find 41 = .ok (.getfield 15, 3) := by decide +kernel
theorem dX10_find_44 : decode cX10_find 44 = .ok (.iload 4, 2) := by decide +kernel
theorem dX10_find_46 : decode cX10_find 46 = .ok (.iaload, 1) := by decide +kernel
theorem dX10_find_47 : decode cX10_find 47 = .ok (.iand, 1) := by decide +kernel
theorem dX10_find_48 : decode cX10_find 48 = .ok (.ifCond .ne 46, 3) := by decide +kernel
theorem dX10_find_51 : decode cX10_find 51 = .ok (.aload_n 0, 1) := by decide +kernel
theorem dX10_find_52 : decode cX10_find 52 = .ok (.getfield 15, 3) := by decide +kernel
theorem dX10_find_55 : decode cX10_find 55 = .ok (.iload 4, 2) := by decide +kernel
theorem dX10_find_57 : decode cX10_find 57 = .ok (.iconst 1, 1) := by decide +kernel
theorem dX10_find_58 : decode cX10_find 58 = .ok (.iadd, 1) := by decide +kernel
theorem dX10_find_59 : decode cX10_find 59 = .ok (.aload_n 1, 1) := by decide +kernel
theorem dX10_find_60 : decode cX10_find 60 = .ok (.aload_n 0, 1) := by decide +kernel
theorem dX10_find_61 : decode cX10_find 61 = .ok (.getfield 15, 3) := by decide +kernel
theorem dX10_find_64 : decode cX10_find 64 = .ok (.iload 4, 2) := by decide +kernel
theorem dX10_find_66 : decode cX10_find 66 = .ok (.iaload, 1) := by decide +kernel
theorem dX10_find_67 : decode cX10_find 67 = .ok (.invokestatic 18, 3) := by decide +kernel
theorem dX10_find_70 : decode cX10_find 70 = .ok (.iload 5, 2) := by decide +kernel
theorem dX10_find_72 : decode cX10_find 72 = .ok (.iconst (-1), 1) := by decide +kernel
theorem dX10_find_73 : decode cX10_find 73 = .ok (.ixor, 1) := by decide +kernel
theorem dX10_find_74 : decode cX10_find 74 = .ok (.iand, 1) := by decide +kernel
theorem dX10_find_75 : decode cX10_find 75 = .ok (.iastore, 1) := by decide +kernel
theorem dX10_find_76 : decode cX10_find 76 = .ok (.iinc 4 1, 3) := by decide +kernel
theorem dX10_find_79 : decode cX10_find 79 = .ok (.iload 5, 2) := by decide +kernel
theorem dX10_find_81 : decode cX10_find 81 = .ok (.aload_n 0, 1) := by decide +kernel
theorem dX10_find_82 : decode cX10_find 82 = .ok (.getfield 15, 3) := by decide +kernel
theorem dX10_find_85 : decode cX10_find 85 = .ok (.iload 4, 2) := by decide +kernel
theorem dX10_find_87 : decode cX10_find 87 = .ok (.iaload, 1) := by decide +kernel
theorem dX10_find_88 : decode cX10_find 88 = .ok (.ior, 1) := by decide +kernel
theorem dX10_find_89 : decode cX10_find 89 = .ok (.istore 5, 2) := by decide +kernel
theorem dX10_find_91 : decode cX10_find 91 = .ok (.goto (-71), 3) := by decide +kernel
theorem dX10_find_94 : decode cX10_find 94 = .ok (.aload_n 1, 1) := by decide +kernel
theorem dX10_find_95 : decode cX10_find 95 = .ok (.iload_n 2, 1) := by decide +kernel
theorem dX10_find_96 : decode cX10_find 96 = .ok (.iaload, 1) := by decide +kernel
theorem dX10_find_97 : decode cX10_find 97 = .ok (.aload_n 0, 1) := by decide +kernel
theorem dX10_find_98 : decode cX10_find 98 = .ok (.getfield 15, 3) := by decide +kernel
theorem dX10_find_101 : decode cX10_find 101 = .ok (.iload 4, 2) := by decide +kernel
theorem dX10_find_103 : decode cX10_find 103 = .ok (.iaload, 1) := by decide +kernel
theorem dX10_find_104 : decode cX10_find 104 = .ok (.iand, 1) := by decide +kernel
theorem dX10_find_105 : decode cX10_find 105 = .ok (.ifCond .ne 10, 3) := by decide +kernel
theorem dX10_find_108 : decode cX10_find 108 = .ok (.aload_n 0, 1) := by decide +kernel
theorem dX10_find_109 : decode cX10_find 109 = .ok (.iconst 0, 1) := by decide +kernel
theorem dX10_find_110 : decode cX10_find 110 = .ok (.putfield 22, 3) := by decide +kernel
theorem dX10_find_113 : decode cX10_find 113 = .ok (.iconst 0, 1) := by decide +kernel
theorem dX10_find_114 : decode cX10_find 114 = .ok (.ireturn, 1) := by decide +kernel
theorem dX10_find_115 : decode cX10_find 115 = .ok (.aload_n 0, 1) := by decide +kernel
theorem dX10_find_116 : decode cX10_find 116 = .ok (.iload 4, 2) := by decide +kernel
theorem dX10_find_118 : decode cX10_find 118 = .ok (.iconst 1, 1) := by decide +kernel
theorem dX10_find_119 : decode cX10_find 119 = .ok (.iadd, 1) := by decide +kernel
theorem dX10_find_120 : decode cX10_find 120 = .ok (.putfield 22, 3) := by decide +kernel
theorem dX10_find_123 : decode cX10_find 123 = .ok (.aload_n 0, 1) := by decide +kernel
theorem dX10_find_124 : decode cX10_find 124 = .ok (.getfield 9, 3) := by decide +kernel
theorem dX10_find_127 : decode cX10_find 127 = .ok (.iconst 0, 1) := by decide +kernel
theorem dX10_find_128 : decode cX10_find 128 = .ok (.iload_n 2, 1) := by decide +kernel
theorem dX10_find_129 : decode cX10_find 129 = .ok (.iastore, 1) := by decide +kernel
theorem dX10_find_130 : decode cX10_find 130 = .ok (.iconst 1, 1) := by decide +kernel
theorem dX10_find_131 : decode cX10_find 131 = .ok (.istore 6, 2) := by decide +kernel
theorem dX10_find_133 : decode cX10_find 133 = .ok (.iload 6, 2) := by decide +kernel
theorem dX10_find_135 : decode cX10_find 135 = .ok (.aload_n 0, 1) := by decide +kernel
theorem dX10_find_136 : decode cX10_find 136 = .ok (.getfield 22, 3) := by decide +kernel
theorem dX10_find_139 : decode cX10_find 139 = .ok (.if_icmp .gt 53, 3) := by decide +kernel
theorem dX10_find_142 : decode cX10_find 142 = .ok (.aload_n 1, 1) := by decide +kernel
theorem dX10_find_143 : decode cX10_find 143 = .ok (.aload_n 0, 1) := by decide +kernel
theorem dX10_find_144 : decode cX10_find 144 = .ok (.getfield 9, 3) := by decide +kernel
theorem dX10_find_147 : decode cX10_find 147 = .ok (.iload 6, 2) := by decide +kernel
theorem dX10_find_149 : decode cX10_find 149 = .ok (.iconst 1, 1) := by decide +kernel
theorem dX10_find_150 : decode cX10_find 150 = .ok (.isub, 1) := by decide +kernel
theorem dX10_find_151 : decode cX10_find 151 = .ok (.iaload, 1) := by decide +kernel
theorem dX10_find_152 : decode cX10_find 152 = .ok (.iaload, 1) := by decide +kernel
theorem dX10_find_153 : decode cX10_find 153 = .ok (.aload_n 0, 1) := by decide +kernel
theorem dX10_find_154 : decode cX10_find 154 = .ok (.getfield 15, 3) := by decide +kernel
theorem dX10_find_157 : decode cX10_find 157 = .ok (.aload_n 0, 1) := by decide +kernel
theorem dX10_find_158 : decode cX10_find 158 = .ok (.getfield 22, 3) := by decide +kernel
theorem dX10_find_161 : decode cX10_find 161 = .ok (.iload 6, 2) := by decide +kernel
theorem dX10_find_163 : decode cX10_find 163 = .ok (.isub, 1) := by decide +kernel
theorem dX10_find_164 : decode cX10_find 164 = .ok (.iaload, 1) := by decide +kernel
theorem dX10_find_165 : decode cX10_find 165 = .ok (.iand, 1) := by decide +kernel
theorem dX10_find_166 : decode cX10_find 166 = .ok (.istore 7, 2) := by decide +kernel
theorem dX10_find_168 : decode cX10_find 168 = .ok (.aload_n 0, 1) := by decide +kernel
theorem dX10_find_169 : decode cX10_find 169 = .ok (.getfield 9, 3) := by decide +kernel
theorem dX10_find_172 : decode cX10_find 172 = .ok (.iload 6, 2) := by decide +kernel
theorem dX10_find_174 : decode cX10_find 174 = .ok (.iload 7, 2) := by decide +kernel
theorem dX10_find_176 : decode cX10_find 176 = .ok (.iload 7, 2) := by decide +kernel
theorem dX10_find_178 : decode cX10_find 178 = .ok (.ineg, 1) := by decide +kernel
theorem dX10_find_179 : decode cX10_find 179 = .ok (.iand, 1) := by decide +kernel
theorem dX10_find_180 : decode cX10_find 180 = .ok (.iconst 1, 1) := by decide +kernel
theorem dX10_find_181 : decode cX10_find 181 = .ok (.isub, 1) := by decide +kernel
theorem dX10_find_182 : decode cX10_find 182 = .ok (.invokestatic 26, 3) := by decide +kernel
theorem dX10_find_185 : decode cX10_find 185 = .ok (.iastore, 1) := by decide +kernel
theorem dX10_find_186 : decode cX10_find 186 = .ok (.iinc 6 1, 3) := by decide +kernel
theorem dX10_find_189 : decode cX10_find 189 = .ok (.goto (-56), 3) := by decide +kernel
theorem dX10_find_192 : decode cX10_find 192 = .ok (.iconst 1, 1) := by decide +kernel
theorem dX10_find_193 : decode cX10_find 193 = .ok (.ireturn, 1) := by decide +kernel
theorem dX10_leadingTo_0 : decode cX10_leadingTo 0 = .ok (.iconst 0, 1) := by decide +kernel
theorem dX10_leadingTo_1 : decode cX10_leadingTo 1 = .ok (.istore_n 2, 1) := by decide +kernel
theorem dX10_leadingTo_2 : decode cX10_leadingTo 2 = .ok (.iconst 0, 1) := by decide +kernel
theorem dX10_leadingTo_3 : decode cX10_leadingTo 3 = .ok (.istore_n 3, 1) := by decide +kernel
theorem dX10_leadingTo_4 : decode cX10_leadingTo 4 = .ok (.iload_n 3, 1) := by decide +kernel
theorem dX10_leadingTo_5 : decode cX10_leadingTo 5 = .ok (.aload_n 0, 1) := by decide +kernel
theorem dX10_leadingTo_6 : decode cX10_leadingTo 6 = .ok (.arraylength, 1) := by decide +kernel
theorem dX10_leadingTo_7 : decode cX10_leadingTo 7 = .ok (.if_icmp .ge 23, 3) := by decide +kernel
theorem dX10_leadingTo_10 : decode cX10_leadingTo 10 = .ok (.aload_n 0, 1) := by decide +kernel
theorem dX10_leadingTo_11 : decode cX10_leadingTo 11 = .ok (.iload_n 3, 1) := by decide +kernel
theorem dX10_leadingTo_12 : decode cX10_leadingTo 12 = .ok (.iaload, 1) := by decide +kernel
