theorem dX12_isLike_39 : decode cX12_isLike 39 = .ok (.ireturn, 1) := by decide +kernel
theorem dX12_come_0 : decode cX12_come 0 = .ok (.aload_n 0, 1) := by decide +kernel
theorem dX12_come_1 : decode cX12_come 1 = .ok (.aload_n 0, 1) := by decide +kernel
theorem dX12_come_2 : decode cX12_come 2 = .ok (.getfield 405, 3) := by decide +kernel
theorem dX12_come_5 : decode cX12_come 5 = .ok (.invokevirtual 408, 3) := by decide +kernel
theorem dX12_come_8 : decode cX12_come 8 = .ok (.iconst 0, 1) := by decide +kernel
theorem dX12_come_9 : decode cX12_come 9 = .ok (.istore 4, 2) := by decide +kernel
theorem dX12_come_11 : decode cX12_come 11 = .ok (.iconst 0, 1) := by decide +kernel
theorem dX12_come_12 : decode cX12_come 12 = .ok (.istore 5, 2) := by decide +kernel
theorem dX12_come_14 : decode cX12_come 14 = .ok (.iload 5, 2) := by decide +kernel
theorem dX12_come_16 : decode cX12_come 16 = .ok (.iconst 5, 1) := by decide +kernel
theorem dX12_come_17 : decode cX12_come 17 = .ok (.if_icmp .ge 31, 3) := by decide +kernel
theorem dX12_come_20 : decode cX12_come 20 = .ok (.bipush 31, 2) := by decide +kernel
theorem dX12_come_22 : decode cX12_come 22 = .ok (.iload 4, 2) := by decide +kernel
theorem dX12_come_24 : decode cX12_come 24 = .ok (.imul, 1) := by decide +kernel
theorem dX12_come_25 : decode cX12_come 25 = .ok (.aload_n 0, 1) := by decide +kernel
theorem dX12_come_26 : decode cX12_come 26 = .ok (.getfield 93, 3) := by decide +kernel
theorem dX12_come_29 : decode cX12_come 29 = .ok (.iconst 5, 1) := by decide +kernel
theorem dX12_come_30 : decode cX12_come 30 = .ok (.aload_n 0, 1) := by decide +kernel
theorem dX12_come_31 : decode cX12_come 31 = .ok (.getfield 405, 3) := by decide +kernel
theorem dX12_come_34 : decode cX12_come 34 = .ok (.imul, 1) := by decide +kernel
theorem dX12_come_35 : decode cX12_come 35 = .ok (.iload 5, 2) := by decide +kernel
theorem dX12_come_37 : decode cX12_come 37 = .ok (.iadd, 1) := by decide +kernel
theorem dX12_come_38 : decode cX12_come 38 = .ok (.iaload, 1) := by decide +kernel
theorem dX12_come_39 : decode cX12_come 39 = .ok (.iadd, 1) := by decide +kernel
theorem dX12_come_40 : decode cX12_come 40 = .ok (.istore 4, 2) := by decide +kernel
theorem dX12_come_42 : decode cX12_come 42 = .ok (.iinc 5 1, 3) := by decide +kernel
theorem dX12_come_45 : decode cX12_come 45 = .ok (.goto (-31), 3) := by decide +kernel
theorem dX12_come_48 : decode cX12_come 48 = .ok (.iload 4, 2) := by decide +kernel
theorem dX12_come_50 : decode cX12_come 50 = .ok (.iload 4, 2) := by decide +kernel
theorem dX12_come_52 : decode cX12_come 52 = .ok (.bipush 15, 2) := by decide +kernel
theorem dX12_come_54 : decode cX12_come 54 = .ok (.iushr, 1) := by decide +kernel
theorem dX12_come_55 : decode cX12_come 55 = .ok (.ixor, 1) := by decide +kernel
theorem dX12_come_56 : decode cX12_come 56 = .ok (.sipush 16383, 3) := by decide +kernel
theorem dX12_come_59 : decode cX12_come 59 = .ok (.iand, 1) := by decide +kernel
theorem dX12_come_60 : decode cX12_come 60 = .ok (.istore 4, 2) := by decide +kernel
theorem dX12_come_62 : decode cX12_come 62 = .ok (.aload_n 0, 1) := by decide +kernel
theorem dX12_come_63 : decode cX12_come 63 = .ok (.getfield 105, 3) := by decide +kernel
theorem dX12_come_66 : decode cX12_come 66 = .ok (.iload 4, 2) := by decide +kernel
theorem dX12_come_68 : decode cX12_come 68 = .ok (.iaload, 1) := by decide +kernel
theorem dX12_come_69 : decode cX12_come 69 = .ok (.ifCond .lt 34, 3) := by decide +kernel
theorem dX12_come_72 : decode cX12_come 72 = .ok (.aload_n 0, 1) := by decide +kernel
theorem dX12_come_73 : decode cX12_come 73 = .ok (.aload_n 0, 1) := by decide +kernel
theorem dX12_come_74 : decode cX12_come 74 = .ok (.getfield 105, 3) := by decide +kernel
theorem dX12_come_77 : decode cX12_come 77 = .ok (.iload 4, 2) := by decide +kernel
theorem dX12_come_79 : decode cX12_come 79 = .ok (.iaload, 1) := by decide +kernel
theorem dX12_come_80 : decode cX12_come 80 = .ok (.aload_n 0, 1) := by decide +kernel
theorem dX12_come_81 : decode cX12_come 81 = .ok (.getfield 405, 3) := by decide +kernel
theorem dX12_come_84 : decode cX12_come 84 = .ok (.invokevirtual 411, 3) := by decide +kernel
theorem dX12_come_87 : decode cX12_come 87 = .ok (.ifCond .ne 16, 3) := by decide +kernel
theorem dX12_come_90 : decode cX12_come 90 = .ok (.iload 4, 2) := by decide +kernel
theorem dX12_come_92 : decode cX12_come 92 = .ok (.iconst 1, 1) := by decide +kernel
theorem dX12_come_93 : decode cX12_come 93 = .ok (.iadd, 1) := by decide +kernel
theorem dX12_come_94 : decode cX12_come 94 = .ok (.sipush 16383, 3) := by decide +kernel
theorem dX12_come_97 : decode cX12_come 97 = .ok (.iand, 1) := by decide +kernel
theorem dX12_come_98 : decode cX12_come 98 = .ok (.istore 4, 2) := by decide +kernel
theorem dX12_come_100 : decode cX12_come 100 = .ok (.goto (-38), 3) := by decide +kernel
theorem dX12_come_103 : decode cX12_come 103 = .ok (.aload_n 0, 1) := by decide +kernel
theorem dX12_come_104 : decode cX12_come 104 = .ok (.getfield 105, 3) := by decide +kernel
theorem dX12_come_107 : decode cX12_come 107 = .ok (.iload 4, 2) := by decide +kernel
theorem dX12_come_109 : decode cX12_come 109 = .ok (.iaload, 1) := by decide +kernel
theorem dX12_come_110 : decode cX12_come 110 = .ok (.ifCond .lt 5, 3) := by decide +kernel
theorem dX12_come_113 : decode cX12_come 113 = .ok (.iconst 1, 1) := by decide +kernel
theorem dX12_come_114 : decode cX12_come 114 = .ok (.ireturn, 1) := by decide +kernel
theorem dX12_come_115 : decode cX12_come 115 = .ok (.aload_n 0, 1) := by decide +kernel
theorem dX12_come_116 : decode cX12_come 116 = .ok (.getfield 405, 3) := by decide +kernel
theorem dX12_come_119 : decode cX12_come 119 = .ok (.sipush 4000, 3) := by decide +kernel
theorem dX12_come_122 : decode cX12_come 122 = .ok (.if_icmp .ne 5, 3) := by decide +kernel
theorem dX12_come_125 : decode cX12_come 125 = .ok (.iconst 0, 1) := by decide +kernel
theorem dX12_come_126 : decode cX12_come 126 = .ok (.ireturn, 1) := by decide +kernel
theorem dX12_come_127 : decode cX12_come 127 = .ok (.aload_n 0, 1) := by decide +kernel
theorem dX12_come_128 : decode cX12_come 128 = .ok (.getfield 105, 3) := by decide +kernel
theorem dX12_come_131 : decode cX12_come 131 = .ok (.iload 4, 2) := by decide +kernel
theorem dX12_come_133 : decode cX12_come 133 = .ok (.aload_n 0, 1) := by decide +kernel
theorem dX12_come_134 : decode cX12_come 134 = .ok (.getfield 405, 3) := by decide +kernel
theorem dX12_come_137 : decode cX12_come 137 = .ok (.iastore, 1) := by decide +kernel
theorem dX12_come_138 : decode cX12_come 138 = .ok (.aload_n 0, 1) := by decide +kernel
theorem dX12_come_139 : decode cX12_come 139 = .ok (.getfield 96, 3) := by decide +kernel
theorem dX12_come_142 : decode cX12_come 142 = .ok (.aload_n 0, 1) := by decide +kernel
theorem dX12_come_143 : decode cX12_come 143 = .ok (.getfield 405, 3) := by decide +kernel
theorem dX12_come_146 : decode cX12_come 146 = .ok (.iload_n 1, 1) := by decide +kernel
theorem dX12_come_147 : decode cX12_come 147 = .ok (.iastore, 1) := by decide +kernel
theorem dX12_come_148 : decode cX12_come 148 = .ok (.aload_n 0, 1) := by decide +kernel
theorem dX12_come_149 : decode cX12_come 149 = .ok (.getfield 99, 3) := by decide +kernel
theorem dX12_come_152 : decode cX12_come 152 = .ok (.aload_n 0, 1) := by decide +kernel
theorem dX12_come_153 : decode cX12_come 153 = .ok (.getfield 405, 3) := by decide +kernel
theorem dX12_come_156 : decode cX12_come 156 = .ok (.iload_n 2, 1) := by decide +kernel
theorem dX12_come_157 : decode cX12_come 157 = .ok (.iastore, 1) := by decide +kernel
theorem dX12_come_158 : decode cX12_come 158 = .ok (.aload_n 0, 1) := by decide +kernel
theorem dX12_come_159 : decode cX12_come 159 = .ok (.getfield 102, 3) := by decide +kernel
theorem dX12_come_162 : decode cX12_come 162 = .ok (.aload_n 0, 1) := by decide +kernel
theorem dX12_come_163 : decode cX12_come 163 = .ok (.getfield 405, 3) := by decide +kernel
theorem dX12_come_166 : decode cX12_come 166 = .ok (.iload_n 3, 1) := by decide +kernel
theorem dX12_come_167 : decode cX12_come 167 = .ok (.iastore, 1) := by decide +kernel
theorem dX12_come_168 : decode cX12_come 168 = .ok (.aload_n 0, 1) := by decide +kernel
theorem dX12_come_169 : decode cX12_come 169 = .ok (.dup, 1) := by decide +kernel
theorem dX12_come_170 : decode cX12_come 170 = .ok (.getfield 405, 3) := by decide +kernel
theorem dX12_come_173 : decode cX12_come 173 = .ok (.iconst 1, 1) := by decide +kernel
theorem dX12_come_174 : decode cX12_come 174 = .ok (.iadd, 1) := by decide +kernel
theorem dX12_come_175 : decode cX12_come 175 = .ok (.putfield 405, 3) := by decide +kernel
theorem dX12_come_178 : decode cX12_come 178 = .ok (.aload_n 0, 1) := by decide +kernel
theorem dX12_come_179 : decode cX12_come 179 = .ok (.invokevirtual 414, 3) := by decide +kernel
theorem dX12_come_182 : decode cX12_come 182 = .ok (.ifCond .eq 13, 3) := by decide +kernel
theorem dX12_come_185 : decode cX12_come 185 = .ok (.aload_n 0, 1) := by decide +kernel
theorem dX12_come_186 : decode cX12_come 186 = .ok (.aload_n 0, 1) := by decide +kernel
theorem dX12_come_187 : decode cX12_come 187 = .ok (.getfield 405, 3) := by decide +kernel
theorem dX12_come_190 : decode cX12_come 190 = .ok (.iconst 1, 1) := by decide +kernel
theorem dX12_come_191 : decode cX12_come 191 = .ok (.isub, 1) := by decide +kernel
theorem dX12_come_192 : decode cX12_come 192 = .ok (.putfield 417, 3) := by decide +kernel
theorem dX12_come_195 : decode cX12_come 195 = .ok (.iconst 1, 1) := by decide +kernel
theorem dX12_come_196 : decode cX12_come 196 = .ok (.ireturn, 1) := by decide +kernel
theorem dX12_beginMoments_0 : decode cX12_beginMoments 0 = .ok (.aload_n 0, 1) := by decide +kernel
theorem dX12_beginMoments_1 : decode cX12_beginMoments 1 = .ok (.iload_n 1, 1) := by decide +kernel
theorem dX12_beginMoments_2 : decode cX12_beginMoments 2 = .ok (.putfield 396, 3) := by decide +kernel
theorem dX12_beginMoments_5 : decode cX12_beginMoments 5 = .ok (.aload_n 0, 1) := by decide +kernel
theorem dX12_beginMoments_6 : decode cX12_beginMoments 6 = .ok (.iconst 0, 1) := by decide +kernel
theorem dX12_beginMoments_7 : decode cX12_beginMoments 7 = .ok (.putfield 405, 3) := by decide +kernel
theorem dX12_beginMoments_10 : decode cX12_beginMoments 10 = .ok (.aload_n 0, 1) := by decide +kernel
theorem dX12_beginMoments_11 : decode cX12_beginMoments 11 = .ok (.iconst (-1), 1) := by decide +kernel
theorem dX12_beginMoments_12 : decode cX12_beginMoments 12 = .ok (.putfield 417, 3) := by decide +kernel
theorem dX12_beginMoments_15 : decode cX12_beginMoments 15 = .ok (.iconst 0, 1) := by decide +kernel
theorem dX12_beginMoments_16 : decode cX12_beginMoments 16 = .ok (.istore_n 2, 1) := by decide +kernel
theorem dX12_beginMoments_17 : decode cX12_beginMoments 17 = .ok (.iload_n 2, 1) := by decide +kernel
theorem dX12_beginMoments_18 : decode cX12_beginMoments 18 = .ok (.sipush 16384, 3) := by decide +kernel
theorem dX12_beginMoments_21 : decode cX12_beginMoments 21 = .ok (.if_icmp .ge 16, 3) := by decide +kernel
theorem dX12_beginMoments_24 : decode cX12_beginMoments 24 = .ok (.aload_n 0, 1) := by decide +kernel
theorem dX12_beginMoments_25 : decode cX12_beginMoments 25 = .ok (.getfield 105, 3) := by decide +kernel
theorem dX12_beginMoments_28 : decode cX12_beginMoments 28 = .ok (.iload_n 2, 1) := by decide +kernel
theorem dX12_beginMoments_29 : decode cX12_beginMoments 29 = .ok (.iconst (-1), 1) := by decide +kernel
theorem dX12_beginMoments_30 : decode cX12_beginMoments 30 = .ok (.iastore, 1) := by decide +kernel
theorem dX12_beginMoments_31 : decode cX12_beginMoments 31 = .ok (.iinc 2 1, 3) := by decide +kernel
theorem dX12_beginMoments_34 : decode cX12_beginMoments 34 = .ok (.goto (-17), 3) := by decide +kernel
theorem dX12_beginMoments_37 : decode cX12_beginMoments 37 = .ok (.iconst 0, 1) := by decide +kernel
theorem dX12_beginMoments_38 : decode cX12_beginMoments 38 = .ok (.istore_n 2, 1) := by decide +kernel
theorem dX12_beginMoments_39 : decode cX12_beginMoments 39 = .ok (.iload_n 2, 1) := by decide +kernel
theorem dX12_beginMoments_40 : decode cX12_beginMoments 40 = .ok (.bipush 6, 2) := by decide +kernel
theorem dX12_beginMoments_42 : decode cX12_beginMoments 42 = .ok (.if_icmp .ge 61, 3) := by decide +kernel
theorem dX12_beginMoments_45 : decode cX12_beginMoments 45 = .ok (.aload_n 0, 1) := by decide +kernel
theorem dX12_beginMoments_46 : decode cX12_beginMoments 46 = .ok (.iload_n 2, 1) := by decide +kernel
theorem dX12_beginMoments_47 : decode cX12_beginMoments 47 = .ok (.invokevirtual 399, 3) := by decide +kernel
theorem dX12_beginMoments_50 : decode cX12_beginMoments 50 = .ok (.ifCond .eq 15, 3) := by decide +kernel
theorem dX12_beginMoments_53 : decode cX12_beginMoments 53 = .ok (.aload_n 0, 1) := by decide +kernel
theorem dX12_beginMoments_54 : decode cX12_beginMoments 54 = .ok (.iload_n 2, 1) := by decide +kernel
theorem dX12_beginMoments_55 : decode cX12_beginMoments 55 = .ok (.invokevirtual 247, 3) := by decide +kernel
theorem dX12_beginMoments_58 : decode cX12_beginMoments 58 = .ok (.ifCond .ne 7, 3) := by decide +kernel
theorem dX12_beginMoments_61 : decode cX12_beginMoments 61 = .ok (.iconst 1, 1) := by decide +kernel
theorem dX12_beginMoments_62 : decode cX12_beginMoments 62 = .ok (.goto 4, 3) := by decide +kernel
theorem dX12_beginMoments_65 : decode cX12_beginMoments 65 = .ok (.iconst 0, 1) := by decide +kernel
theorem dX12_beginMoments_66 : decode cX12_beginMoments 66 = .ok (.istore_n 3, 1) := by decide +kernel
theorem dX12_beginMoments_67 : decode cX12_beginMoments 67 = .ok (.aload_n 0, 1) := by decide +kernel
theorem dX12_beginMoments_68 : decode cX12_beginMoments 68 = .ok (.getfield 81, 3) := by decide +kernel
theorem dX12_beginMoments_71 : decode cX12_beginMoments 71 = .ok (.iload_n 2, 1) := by decide +kernel
theorem dX12_beginMoments_72 : decode cX12_beginMoments 72 = .ok (.iload_n 3, 1) := by decide +kernel
theorem dX12_beginMoments_73 : decode cX12_beginMoments 73 = .ok (.ifCond .eq 7, 3) := by decide +kernel
theorem dX12_beginMoments_76 : decode cX12_beginMoments 76 = .ok (.iconst 0, 1) := by decide +kernel
theorem dX12_beginMoments_77 : decode cX12_beginMoments 77 = .ok (.goto 4, 3) := by decide +kernel
theorem dX12_beginMoments_80 : decode cX12_beginMoments 80 = .ok (.iconst (-1), 1) := by decide +kernel
theorem dX12_beginMoments_81 : decode cX12_beginMoments 81 = .ok (.iastore, 1) := by decide +kernel
theorem dX12_beginMoments_82 : decode cX12_beginMoments 82 = .ok (.aload_n 0, 1) := by decide +kernel
theorem dX12_beginMoments_83 : decode cX12_beginMoments 83 = .ok (.getfield 84, 3) := by decide +kernel
theorem dX12_beginMoments_86 : decode cX12_beginMoments 86 = .ok (.iload_n 2, 1) := by decide +kernel
theorem dX12_beginMoments_87 : decode cX12_beginMoments 87 = .ok (.iload_n 3, 1) := by decide +kernel
theorem dX12_beginMoments_88 : decode cX12_beginMoments 88 = .ok (.ifCond .eq 7, 3) := by decide +kernel
theorem dX12_beginMoments_91 : decode cX12_beginMoments 91 = .ok (.iload_n 2, 1) := by decide +kernel
theorem dX12_beginMoments_92 : decode cX12_beginMoments 92 = .ok (.goto 4, 3) := by decide +kernel
theorem dX12_beginMoments_95 : decode cX12_beginMoments 95 = .ok (.iconst (-1), 1) := by decide +kernel
theorem dX12_beginMoments_96 : decode cX12_beginMoments 96 = .ok (.iastore, 1) := by decide +kernel
theorem dX12_beginMoments_97 : decode cX12_beginMoments 97 = .ok (.iinc 2 1, 3) := by decide +kernel
theorem dX12_beginMoments_100 : decode cX12_beginMoments 100 = .ok (.goto (-61), 3) := by decide +kernel
theorem dX12_beginMoments_103 : decode cX12_beginMoments 103 = .ok (.iconst 0, 1) := by decide +kernel
theorem dX12_beginMoments_104 : decode cX12_beginMoments 104 = .ok (.istore_n 2, 1) := by decide +kernel
theorem dX12_beginMoments_105 : decode cX12_beginMoments 105 = .ok (.iload_n 2, 1) := by decide +kernel
theorem dX12_beginMoments_106 : decode cX12_beginMoments 106 = .ok (.bipush 10, 2) := by decide +kernel
theorem dX12_beginMoments_108 : decode cX12_beginMoments 108 = .ok (.if_icmp .ge 23, 3) := by decide +kernel
theorem dX12_beginMoments_111 : decode cX12_beginMoments 111 = .ok (.aload_n 0, 1) := by decide +kernel
theorem dX12_beginMoments_112 : decode cX12_beginMoments 112 = .ok (.getfield 87, 3) := by decide +kernel
theorem dX12_beginMoments_115 : decode cX12_beginMoments 115 = .ok (.iload_n 2, 1) := by decide +kernel
theorem dX12_beginMoments_116 : decode cX12_beginMoments 116 = .ok (.iconst (-1), 1) := by decide +kernel
theorem dX12_beginMoments_117 : decode cX12_beginMoments 117 = .ok (.iastore, 1) := by decide +kernel
theorem dX12_beginMoments_118 : decode cX12_beginMoments 118 = .ok (.aload_n 0, 1) := by decide +kernel
theorem dX12_beginMoments_119 : decode cX12_beginMoments 119 = .ok (.getfield 90, 3) := by decide +kernel
theorem dX12_beginMoments_122 : decode cX12_beginMoments 122 = .ok (.iload_n 2, 1) := by decide +kernel
theorem dX12_beginMoments_123 : decode cX12_beginMoments 123 = .ok (.iconst 0, 1) := by decide +kernel
theorem dX12_beginMoments_124 : decode cX12_beginMoments 124 = .ok (.iastore, 1) := by decide +kernel
theorem dX12_beginMoments_125 : decode cX12_beginMoments 125 = .ok (.iinc 2 1, 3) := by decide +kernel
theorem dX12_beginMoments_128 : decode cX12_beginMoments 128 = .ok (.goto (-23), 3) := by decide +kernel
theorem dX12_beginMoments_131 : decode cX12_beginMoments 131 = .ok (.return_, 1) := by decide +kernel
theorem dX12_search_0 : decode cX12_search 0 = .ok (.aload_n 0, 1) := by decide +kernel
theorem dX12_search_1 : decode cX12_search 1 = .ok (.iload_n 1, 1) := by decide +kernel
theorem dX12_search_2 : decode cX12_search 2 = .ok (.invokevirtual 420, 3) := by decide +kernel
theorem dX12_search_5 : decode cX12_search 5 = .ok (.aload_n 0, 1) := by decide +kernel
theorem dX12_search_6 : decode cX12_search 6 = .ok (.iconst (-1), 1) := by decide +kernel
theorem dX12_search_7 : decode cX12_search 7 = .ok (.iconst (-1), 1) := by decide +kernel
theorem dX12_search_8 : decode cX12_search 8 = .ok (.iconst (-1), 1) := by decide +kernel
theorem dX12_search_9 : decode cX12_search 9 = .ok (.invokevirtual 423, 3) := by decide +kernel
theorem dX12_search_12 : decode cX12_search 12 = .ok (.istore_n 2, 1) := by decide +kernel
theorem dX12_search_13 : decode cX12_search 13 = .ok (.iconst 0, 1) := by decide +kernel
theorem dX12_search_14 : decode cX12_search 14 = .ok (.istore_n 3, 1) := by decide +kernel
theorem dX12_search_15 : decode cX12_search 15 = .ok (.iload_n 3, 1) := by decide +kernel
theorem dX12_search_16 : decode cX12_search 16 = .ok (.aload_n 0, 1) := by decide +kernel
theorem dX12_search_17 : decode cX12_search 17 = .ok (.getfield 405, 3) := by decide +kernel
theorem dX12_search_20 : decode cX12_search 20 = .ok (.if_icmp .ge 26, 3) := by decide +kernel
theorem dX12_search_23 : decode cX12_search 23 = .ok (.iload_n 2, 1) := by decide +kernel
theorem dX12_search_24 : decode cX12_search 24 = .ok (.ifCond .eq 22, 3) := by decide +kernel
theorem dX12_search_27 : decode cX12_search 27 = .ok (.aload_n 0, 1) := by decide +kernel
theorem dX12_search_28 : decode cX12_search 28 = .ok (.getfield 417, 3) := by decide +kernel
theorem dX12_search_31 : decode cX12_search 31 = .ok (.ifCond .ge 15, 3) := by decide +kernel
theorem dX12_search_34 : decode cX12_search 34 = .ok (.aload_n 0, 1) := by decide +kernel
theorem dX12_search_35 : decode cX12_search 35 = .ok (.iload_n 3, 1) := by decide +kernel
theorem dX12_search_36 : decode cX12_search 36 = .ok (.invokevirtual 426, 3) := by decide +kernel
theorem dX12_search_39 : decode cX12_search 39 = .ok (.istore_n 2, 1) := by decide +kernel
theorem dX12_search_40 : decode cX12_search 40 = .ok (.iinc 3 1, 3) := by decide +kernel
theorem dX12_search_43 : decode cX12_search 43 = .ok (.goto (-28), 3) := by decide +kernel
theorem dX12_search_46 : decode cX12_search 46 = .ok (.iload_n 2, 1) := by decide +kernel
theorem dX12_search_47 : decode cX12_search 47 = .ok (.ireturn, 1) := by decide +kernel
theorem dX12_goFrom_0 : decode cX12_goFrom 0 = .ok (.iconst 1, 1) := by decide +kernel
theorem dX12_goFrom_1 : decode cX12_goFrom 1 = .ok (.istore_n 2, 1) := by decide +kernel
theorem dX12_goFrom_2 : decode cX12_goFrom 2 = .ok (.iconst 0, 1) := by decide +kernel
theorem dX12_goFrom_3 : decode cX12_goFrom 3 = .ok (.istore_n 3, 1) := by decide +kernel
theorem dX12_goFrom_4 : decode cX12_goFrom 4 = .ok (.iload_n 3, 1) := by decide +kernel
theorem dX12_goFrom_5 : decode cX12_goFrom 5 = .ok (.bipush 6, 2) := by decide +kernel
theorem dX12_goFrom_7 : decode cX12_goFrom 7 = .ok (.if_icmp .ge 145, 3) := by decide +kernel
theorem dX12_goFrom_10 : decode cX12_goFrom 10 = .ok (.aload_n 0, 1) := by decide +kernel
theorem dX12_goFrom_11 : decode cX12_goFrom 11 = .ok (.iload_n 3, 1) := by decide +kernel
theorem dX12_goFrom_12 : decode cX12_goFrom 12 = .ok (.invokevirtual 429, 3) := by decide +kernel
theorem dX12_goFrom_15 : decode cX12_goFrom 15 = .ok (.ifCond .ne 6, 3) := by decide +kernel
theorem dX12_goFrom_18 : decode cX12_goFrom 18 = .ok (.goto 128, 3) := by decide +kernel
theorem dX12_goFrom_21 : decode cX12_goFrom 21 = .ok (.aload_n 0, 1) := by decide +kernel
theorem dX12_goFrom_22 : decode cX12_goFrom 22 = .ok (.iload_n 1, 1) := by decide +kernel
theorem dX12_goFrom_23 : decode cX12_goFrom 23 = .ok (.invokevirtual 432, 3) := by decide +kernel
theorem dX12_goFrom_26 : decode cX12_goFrom 26 = .ok (.aload_n 0, 1) := by decide +kernel
theorem dX12_goFrom_27 : decode cX12_goFrom 27 = .ok (.iload_n 3, 1) := by decide +kernel
theorem dX12_goFrom_28 : decode cX12_goFrom 28 = .ok (.invokevirtual 435, 3) := by decide +kernel
theorem dX12_goFrom_31 : decode cX12_goFrom 31 = .ok (.istore 4, 2) := by decide +kernel
theorem dX12_goFrom_33 : decode cX12_goFrom 33 = .ok (.iload 4, 2) := by decide +kernel
theorem dX12_goFrom_35 : decode cX12_goFrom 35 = .ok (.ifCond .ge 6, 3) := by decide +kernel
theorem dX12_goFrom_38 : decode cX12_goFrom 38 = .ok (.goto 108, 3) := by decide +kernel
theorem dX12_goFrom_41 : decode cX12_goFrom 41 = .ok (.aload_n 0, 1) := by decide +kernel
theorem dX12_goFrom_42 : decode cX12_goFrom 42 = .ok (.iload 4, 2) := by decide +kernel
theorem dX12_goFrom_44 : decode cX12_goFrom 44 = .ok (.invokevirtual 438, 3) := by decide +kernel
theorem dX12_goFrom_47 : decode cX12_goFrom 47 = .ok (.ifCond .ne 28, 3) := by decide +kernel
theorem dX12_goFrom_50 : decode cX12_goFrom 50 = .ok (.iload_n 2, 1) := by decide +kernel
theorem dX12_goFrom_51 : decode cX12_goFrom 51 = .ok (.ifCond .eq 24, 3) := by decide +kernel
theorem dX12_goFrom_54 : decode cX12_goFrom 54 = .ok (.aload_n 0, 1) := by decide +kernel
theorem dX12_goFrom_55 : decode cX12_goFrom 55 = .ok (.getfield 417, 3) := by decide +kernel
theorem dX12_goFrom_58 : decode cX12_goFrom 58 = .ok (.ifCond .ge 17, 3) := by decide +kernel
theorem dX12_goFrom_61 : decode cX12_goFrom 61 = .ok (.aload_n 0, 1) := by decide +kernel
theorem dX12_goFrom_62 : decode cX12_goFrom 62 = .ok (.iload 4, 2) := by decide +kernel
theorem dX12_goFrom_64 : decode cX12_goFrom 64 = .ok (.invokevirtual 441, 3) := by decide +kernel
theorem dX12_goFrom_67 : decode cX12_goFrom 67 = .ok (.aload_n 0, 1) := by decide +kernel
theorem dX12_goFrom_68 : decode cX12_goFrom 68 = .ok (.iload_n 1, 1) := by decide +kernel
theorem dX12_goFrom_69 : decode cX12_goFrom 69 = .ok (.iload_n 3, 1) := by decide +kernel
theorem dX12_goFrom_70 : decode cX12_goFrom 70 = .ok (.iconst (-1), 1) := by decide +kernel
theorem dX12_goFrom_71 : decode cX12_goFrom 71 = .ok (.invokevirtual 423, 3) := by decide +kernel
theorem dX12_goFrom_74 : decode cX12_goFrom 74 = .ok (.istore_n 2, 1) := by decide +kernel
theorem dX12_goFrom_75 : decode cX12_goFrom 75 = .ok (.iconst 0, 1) := by decide +kernel
theorem dX12_goFrom_76 : decode cX12_goFrom 76 = .ok (.istore 5, 2) := by decide +kernel
theorem dX12_goFrom_78 : decode cX12_goFrom 78 = .ok (.iload 5, 2) := by decide +kernel
theorem dX12_goFrom_80 : decode cX12_goFrom 80 = .ok (.bipush 6, 2) := by decide +kernel
theorem dX12_goFrom_82 : decode cX12_goFrom 82 = .ok (.if_icmp .ge 64, 3) := by decide +kernel
theorem dX12_goFrom_85 : decode cX12_goFrom 85 = .ok (.iload_n 2, 1) := by decide +kernel
theorem dX12_goFrom_86 : decode cX12_goFrom 86 = .ok (.ifCond .eq 60, 3) := by decide +kernel
theorem dX12_goFrom_89 : decode cX12_goFrom 89 = .ok (.aload_n 0, 1) := by decide +kernel
theorem dX12_goFrom_90 : decode cX12_goFrom 90 = .ok (.getfield 417, 3) := by decide +kernel
theorem dX12_goFrom_93 : decode cX12_goFrom 93 = .ok (.ifCond .ge 53, 3) := by decide +kernel
theorem dX12_goFrom_96 : decode cX12_goFrom 96 = .ok (.aload_n 0, 1) := by decide +kernel
theorem dX12_goFrom_97 : decode cX12_goFrom 97 = .ok (.iload_n 1, 1) := by decide +kernel
theorem dX12_goFrom_98 : decode cX12_goFrom 98 = .ok (.invokevirtual 432, 3) := by decide +kernel
theorem dX12_goFrom_101 : decode cX12_goFrom 101 = .ok (.aload_n 0, 1) := by decide +kernel
theorem dX12_goFrom_102 : decode cX12_goFrom 102 = .ok (.iload 5, 2) := by decide +kernel
theorem dX12_goFrom_104 : decode cX12_goFrom 104 = .ok (.iload 4, 2) := by decide +kernel
theorem dX12_goFrom_106 : decode cX12_goFrom 106 = .ok (.invokevirtual 444, 3) := by decide +kernel
theorem dX12_goFrom_109 : decode cX12_goFrom 109 = .ok (.ifCond .ne 6, 3) := by decide +kernel
theorem dX12_goFrom_112 : decode cX12_goFrom 112 = .ok (.goto 28, 3) := by decide +kernel
theorem dX12_goFrom_115 : decode cX12_goFrom 115 = .ok (.aload_n 0, 1) := by decide +kernel
theorem dX12_goFrom_116 : decode cX12_goFrom 116 = .ok (.getfield 81, 3) := by decide +kernel
theorem dX12_goFrom_119 : decode cX12_goFrom 119 = .ok (.iload 5, 2) := by decide +kernel
theorem dX12_goFrom_121 : decode cX12_goFrom 121 = .ok (.iconst 0, 1) := by decide +kernel
theorem dX12_goFrom_122 : decode cX12_goFrom 122 = .ok (.iastore, 1) := by decide +kernel
theorem dX12_goFrom_123 : decode cX12_goFrom 123 = .ok (.aload_n 0, 1) := by decide +kernel
theorem dX12_goFrom_124 : decode cX12_goFrom 124 = .ok (.getfield 84, 3) := by decide +kernel
theorem dX12_goFrom_127 : decode cX12_goFrom 127 = .ok (.iload 5, 2) := by decide +kernel
theorem dX12_goFrom_129 : decode cX12_goFrom 129 = .ok (.iload_n 3, 1) := by decide +kernel
theorem dX12_goFrom_130 : decode cX12_goFrom 130 = .ok (.iastore, 1) := by decide +kernel
theorem dX12_goFrom_131 : decode cX12_goFrom 131 = .ok (.aload_n 0, 1) := by decide +kernel
theorem dX12_goFrom_132 : decode cX12_goFrom 132 = .ok (.iload_n 1, 1) := by decide +kernel
theorem dX12_goFrom_133 : decode cX12_goFrom 133 = .ok (.iload_n 3, 1) := by decide +kernel
theorem dX12_goFrom_134 : decode cX12_goFrom 134 = .ok (.iload 5, 2) := by decide +kernel
theorem dX12_goFrom_136 : decode cX12_goFrom 136 = .ok (.invokevirtual 423, 3) := by decide +kernel
theorem dX12_goFrom_139 : decode cX12_goFrom 139 = .ok (.istore_n 2, 1) := by decide +kernel
theorem dX12_goFrom_140 : decode cX12_goFrom 140 = .ok (.iinc 5 1, 3) := by decide +kernel
theorem dX12_goFrom_143 : decode cX12_goFrom 143 = .ok (.goto (-65), 3) := by decide +kernel
theorem dX12_goFrom_146 : decode cX12_goFrom 146 = .ok (.iinc 3 1, 3) := by decide +kernel
theorem dX12_goFrom_149 : decode cX12_goFrom 149 = .ok (.goto (-145), 3) := by decide +kernel
theorem dX12_goFrom_152 : decode cX12_goFrom 152 = .ok (.iload_n 2, 1) := by decide +kernel
theorem dX12_goFrom_153 : decode cX12_goFrom 153 = .ok (.ireturn, 1) := by decide +kernel
theorem dX12_layWaits_0 : decode cX12_layWaits 0 = .ok (.iconst 0, 1) := by decide +kernel
theorem dX12_layWaits_1 : decode cX12_layWaits 1 = .ok (.istore_n 1, 1) := by decide +kernel
theorem dX12_layWaits_2 : decode cX12_layWaits 2 = .ok (.iload_n 1, 1) := by decide +kernel
theorem dX12_layWaits_3 : decode cX12_layWaits 3 = .ok (.bipush 6, 2) := by decide +kernel
theorem dX12_layWaits_5 : decode cX12_layWaits 5 = .ok (.if_icmp .ge 134, 3) := by decide +kernel
theorem dX12_layWaits_8 : decode cX12_layWaits 8 = .ok (.aload_n 0, 1) := by decide +kernel
theorem dX12_layWaits_9 : decode cX12_layWaits 9 = .ok (.getfield 108, 3) := by decide +kernel
theorem dX12_layWaits_12 : decode cX12_layWaits 12 = .ok (.iload_n 1, 1) := by decide +kernel
theorem dX12_layWaits_13 : decode cX12_layWaits 13 = .ok (.iconst (-1), 1) := by decide +kernel
theorem dX12_layWaits_14 : decode cX12_layWaits 14 = .ok (.iastore, 1) := by decide +kernel
theorem dX12_layWaits_15 : decode cX12_layWaits 15 = .ok (.aload_n 0, 1) := by decide +kernel
theorem dX12_layWaits_16 : decode cX12_layWaits 16 = .ok (.getfield 111, 3) := by decide +kernel
theorem dX12_layWaits_19 : decode cX12_layWaits 19 = .ok (.iload_n 1, 1) := by decide +kernel
theorem dX12_layWaits_20 : decode cX12_layWaits 20 = .ok (.iconst 0, 1) := by decide +kernel
theorem dX12_layWaits_21 : decode cX12_layWaits 21 = .ok (.iastore, 1) := by decide +kernel
theorem dX12_layWaits_22 : decode cX12_layWaits 22 = .ok (.aload_n 0, 1) := by decide +kernel
theorem dX12_layWaits_23 : decode cX12_layWaits 23 = .ok (.iload_n 1, 1) := by decide +kernel
theorem dX12_layWaits_24 : decode cX12_layWaits 24 = .ok (.invokevirtual 429, 3) := by decide +kernel
theorem dX12_layWaits_27 : decode cX12_layWaits 27 = .ok (.ifCond .eq 11, 3) := by decide +kernel
theorem dX12_layWaits_30 : decode cX12_layWaits 30 = .ok (.aload_n 0, 1) := by decide +kernel
theorem dX12_layWaits_31 : decode cX12_layWaits 31 = .ok (.iload_n 1, 1) := by decide +kernel
theorem dX12_layWaits_32 : decode cX12_layWaits 32 = .ok (.invokevirtual 435, 3) := by decide +kernel
theorem dX12_layWaits_35 : decode cX12_layWaits 35 = .ok (.goto 4, 3) := by decide +kernel
theorem dX12_layWaits_38 : decode cX12_layWaits 38 = .ok (.iconst (-1), 1) := by decide +kernel
theorem dX12_layWaits_39 : decode cX12_layWaits 39 = .ok (.istore_n 2, 1) := by decide +kernel
theorem dX12_layWaits_40 : decode cX12_layWaits 40 = .ok (.iload_n 2, 1) := by decide +kernel
theorem dX12_layWaits_41 : decode cX12_layWaits 41 = .ok (.ifCond .lt 92, 3) := by decide +kernel
theorem dX12_layWaits_44 : decode cX12_layWaits 44 = .ok (.aload_n 0, 1) := by decide +kernel
theorem dX12_layWaits_45 : decode cX12_layWaits 45 = .ok (.iload_n 2, 1) := by decide +kernel
theorem dX12_layWaits_46 : decode cX12_layWaits 46 = .ok (.invokevirtual 438, 3) := by decide +kernel
theorem dX12_layWaits_49 : decode cX12_layWaits 49 = .ok (.ifCond .ne 6, 3) := by decide +kernel
theorem dX12_layWaits_52 : decode cX12_layWaits 52 = .ok (.goto 81, 3) := by decide +kernel
theorem dX12_layWaits_55 : decode cX12_layWaits 55 = .ok (.aload_n 0, 1) := by decide +kernel
theorem dX12_layWaits_56 : decode cX12_layWaits 56 = .ok (.iload_n 2, 1) := by decide +kernel
theorem dX12_layWaits_57 : decode cX12_layWaits 57 = .ok (.aload_n 0, 1) := by decide +kernel
theorem dX12_layWaits_58 : decode cX12_layWaits 58 = .ok (.getfield 81, 3) := by decide +kernel
theorem dX12_layWaits_61 : decode cX12_layWaits 61 = .ok (.iload_n 2, 1) := by decide +kernel
theorem dX12_layWaits_62 : decode cX12_layWaits 62 = .ok (.iaload, 1) := by decide +kernel
theorem dX12_layWaits_63 : decode cX12_layWaits 63 = .ok (.invokevirtual 296, 3) := by decide +kernel
theorem dX12_layWaits_66 : decode cX12_layWaits 66 = .ok (.istore_n 3, 1) := by decide +kernel
theorem dX12_layWaits_67 : decode cX12_layWaits 67 = .ok (.aload_n 0, 1) := by decide +kernel
theorem dX12_layWaits_68 : decode cX12_layWaits 68 = .ok (.getfield 108, 3) := by decide +kernel
theorem dX12_layWaits_71 : decode cX12_layWaits 71 = .ok (.iload_n 1, 1) := by decide +kernel
theorem dX12_layWaits_72 : decode cX12_layWaits 72 = .ok (.iload_n 3, 1) := by decide +kernel
theorem dX12_layWaits_73 : decode cX12_layWaits 73 = .ok (.iastore, 1) := by decide +kernel
theorem dX12_layWaits_74 : decode cX12_layWaits 74 = .ok (.iconst 0, 1) := by decide +kernel
theorem dX12_layWaits_75 : decode cX12_layWaits 75 = .ok (.istore 4, 2) := by decide +kernel
theorem dX12_layWaits_77 : decode cX12_layWaits 77 = .ok (.iload 4, 2) := by decide +kernel
theorem dX12_layWaits_79 : decode cX12_layWaits 79 = .ok (.bipush 6, 2) := by decide +kernel
theorem dX12_layWaits_81 : decode cX12_layWaits 81 = .ok (.if_icmp .ge 52, 3) := by decide +kernel
theorem dX12_layWaits_84 : decode cX12_layWaits 84 = .ok (.aload_n 0, 1) := by decide +kernel
theorem dX12_layWaits_85 : decode cX12_layWaits 85 = .ok (.getfield 87, 3) := by decide +kernel
theorem dX12_layWaits_88 : decode cX12_layWaits 88 = .ok (.iload_n 3, 1) := by decide +kernel
theorem dX12_layWaits_89 : decode cX12_layWaits 89 = .ok (.iaload, 1) := by decide +kernel
theorem dX12_layWaits_90 : decode cX12_layWaits 90 = .ok (.iload 4, 2) := by decide +kernel
theorem dX12_layWaits_92 : decode cX12_layWaits 92 = .ok (.if_icmp .eq 17, 3) := by decide +kernel
theorem dX12_layWaits_95 : decode cX12_layWaits 95 = .ok (.aload_n 0, 1) := by decide +kernel
theorem dX12_layWaits_96 : decode cX12_layWaits 96 = .ok (.getfield 90, 3) := by decide +kernel
theorem dX12_layWaits_99 : decode cX12_layWaits 99 = .ok (.iload_n 3, 1) := by decide +kernel
theorem dX12_layWaits_100 : decode cX12_layWaits 100 = .ok (.iaload, 1) := by decide +kernel
theorem dX12_layWaits_101 : decode cX12_layWaits 101 = .ok (.iload 4, 2) := by decide +kernel
theorem dX12_layWaits_103 : decode cX12_layWaits 103 = .ok (.invokestatic 372, 3) := by decide +kernel
theorem dX12_layWaits_106 : decode cX12_layWaits 106 = .ok (.ifCond .eq 21, 3) := by decide +kernel
theorem dX12_layWaits_109 : decode cX12_layWaits 109 = .ok (.aload_n 0, 1) := by decide +kernel
theorem dX12_layWaits_110 : decode cX12_layWaits 110 = .ok (.getfield 111, 3) := by decide +kernel
theorem dX12_layWaits_113 : decode cX12_layWaits 113 = .ok (.iload_n 1, 1) := by decide +kernel
theorem dX12_layWaits_114 : decode cX12_layWaits 114 = .ok (.dup2, 1) := by decide +kernel
theorem dX12_layWaits_115 : decode cX12_layWaits 115 = .ok (.iaload, 1) := by decide +kernel
theorem dX12_layWaits_116 : decode cX12_layWaits 116 = .ok (.iconst 1, 1) := by decide +kernel
theorem dX12_layWaits_117 : decode cX12_layWaits 117 = .ok (.aload_n 0, 1) := by decide +kernel
theorem dX12_layWaits_118 : decode cX12_layWaits 118 = .ok (.getfield 84, 3) := by decide +kernel
theorem dX12_layWaits_121 : decode cX12_layWaits 121 = .ok (.iload 4, 2) := by decide +kernel
theorem dX12_layWaits_123 : decode cX12_layWaits 123 = .ok (.iaload, 1) := by decide +kernel
theorem dX12_layWaits_124 : decode cX12_layWaits 124 = .ok (.ishl, 1) := by decide +kernel
theorem dX12_layWaits_125 : decode cX12_layWaits 125 = .ok (.ior, 1) := by decide +kernel
theorem dX12_layWaits_126 : decode cX12_layWaits 126 = .ok (.iastore, 1) := by decide +kernel
theorem dX12_layWaits_127 : decode cX12_layWaits 127 = .ok (.iinc 4 1, 3) := by decide +kernel
theorem dX12_layWaits_130 : decode cX12_layWaits 130 = .ok (.goto (-53), 3) := by decide +kernel
theorem dX12_layWaits_133 : decode cX12_layWaits 133 = .ok (.iinc 1 1, 3) := by decide +kernel
theorem dX12_layWaits_136 : decode cX12_layWaits 136 = .ok (.goto (-134), 3) := by decide +kernel
theorem dX12_layWaits_139 : decode cX12_layWaits 139 = .ok (.return_, 1) := by decide +kernel
theorem dX12_layApart_0 : decode cX12_layApart 0 = .ok (.iconst 0, 1) := by decide +kernel
theorem dX12_layApart_1 : decode cX12_layApart 1 = .ok (.istore_n 2, 1) := by decide +kernel
theorem dX12_layApart_2 : decode cX12_layApart 2 = .ok (.iload_n 2, 1) := by decide +kernel
theorem dX12_layApart_3 : decode cX12_layApart 3 = .ok (.bipush 6, 2) := by decide +kernel
theorem dX12_layApart_5 : decode cX12_layApart 5 = .ok (.if_icmp .ge 27, 3) := by decide +kernel
theorem dX12_layApart_8 : decode cX12_layApart 8 = .ok (.aload_n 0, 1) := by decide +kernel
theorem dX12_layApart_9 : decode cX12_layApart 9 = .ok (.getfield 117, 3) := by decide +kernel
theorem dX12_layApart_12 : decode cX12_layApart 12 = .ok (.iload_n 2, 1) := by decide +kernel
theorem dX12_layApart_13 : decode cX12_layApart 13 = .ok (.iload_n 2, 1) := by decide +kernel
theorem dX12_layApart_14 : decode cX12_layApart 14 = .ok (.iload_n 1, 1) := by decide +kernel
theorem dX12_layApart_15 : decode cX12_layApart 15 = .ok (.if_icmp .ne 7, 3) := by decide +kernel
theorem dX12_layApart_18 : decode cX12_layApart 18 = .ok (.iconst 0, 1) := by decide +kernel
theorem dX12_layApart_19 : decode cX12_layApart 19 = .ok (.goto 6, 3) := by decide +kernel
theorem dX12_layApart_22 : decode cX12_layApart 22 = .ok (.ldc_w 258, 3) := by decide +kernel
theorem dX12_layApart_25 : decode cX12_layApart 25 = .ok (.iastore, 1) := by decide +kernel
theorem dX12_layApart_26 : decode cX12_layApart 26 = .ok (.iinc 2 1, 3) := by decide +kernel
theorem dX12_layApart_29 : decode cX12_layApart 29 = .ok (.goto (-27), 3) := by decide +kernel
theorem dX12_layApart_32 : decode cX12_layApart 32 = .ok (.iconst 0, 1) := by decide +kernel
theorem dX12_layApart_33 : decode cX12_layApart 33 = .ok (.istore_n 2, 1) := by decide +kernel
theorem dX12_layApart_34 : decode cX12_layApart 34 = .ok (.iload_n 2, 1) := by decide +kernel
theorem dX12_layApart_35 : decode cX12_layApart 35 = .ok (.bipush 6, 2) := by decide +kernel
theorem dX12_layApart_37 : decode cX12_layApart 37 = .ok (.if_icmp .ge 91, 3) := by decide +kernel
theorem dX12_layApart_40 : decode cX12_layApart 40 = .ok (.iconst 0, 1) := by decide +kernel
theorem dX12_layApart_41 : decode cX12_layApart 41 = .ok (.istore_n 3, 1) := by decide +kernel
theorem dX12_layApart_42 : decode cX12_layApart 42 = .ok (.iload_n 3, 1) := by decide +kernel
theorem dX12_layApart_43 : decode cX12_layApart 43 = .ok (.bipush 6, 2) := by decide +kernel
theorem dX12_layApart_45 : decode cX12_layApart 45 = .ok (.if_icmp .ge 77, 3) := by decide +kernel
theorem dX12_layApart_48 : decode cX12_layApart 48 = .ok (.iconst 0, 1) := by decide +kernel
theorem dX12_layApart_49 : decode cX12_layApart 49 = .ok (.istore 4, 2) := by decide +kernel
theorem dX12_layApart_51 : decode cX12_layApart 51 = .ok (.iload 4, 2) := by decide +kernel
theorem dX12_layApart_53 : decode cX12_layApart 53 = .ok (.bipush 6, 2) := by decide +kernel
theorem dX12_layApart_55 : decode cX12_layApart 55 = .ok (.if_icmp .ge 61, 3) := by decide +kernel
theorem dX12_layApart_58 : decode cX12_layApart 58 = .ok (.iload_n 3, 1) := by decide +kernel
theorem dX12_layApart_59 : decode cX12_layApart 59 = .ok (.iload_n 1, 1) := by decide +kernel
theorem dX12_layApart_60 : decode cX12_layApart 60 = .ok (.if_icmp .eq 50, 3) := by decide +kernel
theorem dX12_layApart_63 : decode cX12_layApart 63 = .ok (.aload_n 0, 1) := by decide +kernel
theorem dX12_layApart_64 : decode cX12_layApart 64 = .ok (.getfield 111, 3) := by decide +kernel
theorem dX12_layApart_67 : decode cX12_layApart 67 = .ok (.iload_n 3, 1) := by decide +kernel
theorem dX12_layApart_68 : decode cX12_layApart 68 = .ok (.iaload, 1) := by decide +kernel
theorem dX12_layApart_69 : decode cX12_layApart 69 = .ok (.iload 4, 2) := by decide +kernel
theorem dX12_layApart_71 : decode cX12_layApart 71 = .ok (.invokestatic 372, 3) := by decide +kernel
theorem dX12_layApart_74 : decode cX12_layApart 74 = .ok (.ifCond .eq 36, 3) := by decide +kernel
theorem dX12_layApart_77 : decode cX12_layApart 77 = .ok (.aload_n 0, 1) := by decide +kernel
theorem dX12_layApart_78 : decode cX12_layApart 78 = .ok (.getfield 117, 3) := by decide +kernel
theorem dX12_layApart_81 : decode cX12_layApart 81 = .ok (.iload 4, 2) := by decide +kernel
theorem dX12_layApart_83 : decode cX12_layApart 83 = .ok (.iaload, 1) := by decide +kernel
theorem dX12_layApart_84 : decode cX12_layApart 84 = .ok (.iconst 1, 1) := by decide +kernel
theorem dX12_layApart_85 : decode cX12_layApart 85 = .ok (.iadd, 1) := by decide +kernel
theorem dX12_layApart_86 : decode cX12_layApart 86 = .ok (.aload_n 0, 1) := by decide +kernel
theorem dX12_layApart_87 : decode cX12_layApart 87 = .ok (.getfield 117, 3) := by decide +kernel
theorem dX12_layApart_90 : decode cX12_layApart 90 = .ok (.iload_n 3, 1) := by decide +kernel
theorem dX12_layApart_91 : decode cX12_layApart 91 = .ok (.iaload, 1) := by decide +kernel
theorem dX12_layApart_92 : decode cX12_layApart 92 = .ok (.if_icmp .ge 18, 3) := by decide +kernel
theorem dX12_layApart_95 : decode cX12_layApart 95 = .ok (.aload_n 0, 1) := by decide +kernel
theorem dX12_layApart_96 : decode cX12_layApart 96 = .ok (.getfield 117, 3) := by decide +kernel
theorem dX12_layApart_99 : decode cX12_layApart 99 = .ok (.iload_n 3, 1) := by decide +kernel
theorem dX12_layApart_100 : decode cX12_layApart 100 = .ok (.aload_n 0, 1) := by decide +kernel
theorem dX12_layApart_101 : decode cX12_layApart 101 = .ok (.getfield 117, 3) := by decide +kernel
theorem dX12_layApart_104 : decode cX12_layApart 104 = .ok (.iload 4, 2) := by decide +kernel
theorem dX12_layApart_106 : decode cX12_layApart 106 = .ok (.iaload, 1) := by decide +kernel
theorem dX12_layApart_107 : decode cX12_layApart 107 = .ok (.iconst 1, 1) := by decide +kernel
theorem dX12_layApart_108 : decode cX12_layApart 108 = .ok (.iadd, 1) := by decide +kernel
theorem dX12_layApart_109 : decode cX12_layApart 109 = .ok (.iastore, 1) := by decide +kernel
theorem dX12_layApart_110 : decode cX12_layApart 110 = .ok (.iinc 4 1, 3) := by decide +kernel
theorem dX12_layApart_113 : decode cX12_layApart 113 = .ok (.goto (-62), 3) := by decide +kernel
theorem dX12_layApart_116 : decode cX12_layApart 116 = .ok (.iinc 3 1, 3) := by decide +kernel
theorem dX12_layApart_119 : decode cX12_layApart 119 = .ok (.goto (-77), 3) := by decide +kernel
theorem dX12_layApart_122 : decode cX12_layApart 122 = .ok (.iinc 2 1, 3) := by decide +kernel
theorem dX12_layApart_125 : decode cX12_layApart 125 = .ok (.goto (-91), 3) := by decide +kernel
theorem dX12_layApart_128 : decode cX12_layApart 128 = .ok (.return_, 1) := by decide +kernel
theorem dX12_layRing_0 : decode cX12_layRing 0 = .ok (.aload_n 0, 1) := by decide +kernel
theorem dX12_layRing_1 : decode cX12_layRing 1 = .ok (.invokevirtual 447, 3) := by decide +kernel
theorem dX12_layRing_4 : decode cX12_layRing 4 = .ok (.iconst 0, 1) := by decide +kernel
theorem dX12_layRing_5 : decode cX12_layRing 5 = .ok (.istore_n 1, 1) := by decide +kernel
theorem dX12_layRing_6 : decode cX12_layRing 6 = .ok (.iload_n 1, 1) := by decide +kernel
theorem dX12_layRing_7 : decode cX12_layRing 7 = .ok (.bipush 6, 2) := by decide +kernel
theorem dX12_layRing_9 : decode cX12_layRing 9 = .ok (.if_icmp .ge 167, 3) := by decide +kernel
theorem dX12_layRing_12 : decode cX12_layRing 12 = .ok (.aload_n 0, 1) := by decide +kernel
theorem dX12_layRing_13 : decode cX12_layRing 13 = .ok (.iload_n 1, 1) := by decide +kernel
theorem dX12_layRing_14 : decode cX12_layRing 14 = .ok (.invokevirtual 450, 3) := by decide +kernel
theorem dX12_layRing_17 : decode cX12_layRing 17 = .ok (.ldc_w 258, 3) := by decide +kernel
theorem dX12_layRing_20 : decode cX12_layRing 20 = .ok (.istore_n 2, 1) := by decide +kernel
theorem dX12_layRing_21 : decode cX12_layRing 21 = .ok (.iconst 0, 1) := by decide +kernel
theorem dX12_layRing_22 : decode cX12_layRing 22 = .ok (.istore_n 3, 1) := by decide +kernel
theorem dX12_layRing_23 : decode cX12_layRing 23 = .ok (.iload_n 3, 1) := by decide +kernel
theorem dX12_layRing_24 : decode cX12_layRing 24 = .ok (.bipush 6, 2) := by decide +kernel
theorem dX12_layRing_26 : decode cX12_layRing 26 = .ok (.if_icmp .ge 43, 3) := by decide +kernel
theorem dX12_layRing_29 : decode cX12_layRing 29 = .ok (.aload_n 0, 1) := by decide +kernel
theorem dX12_layRing_30 : decode cX12_layRing 30 = .ok (.getfield 111, 3) := by decide +kernel
theorem dX12_layRing_33 : decode cX12_layRing 33 = .ok (.iload_n 1, 1) := by decide +kernel
theorem dX12_layRing_34 : decode cX12_layRing 34 = .ok (.iaload, 1) := by decide +kernel
theorem dX12_layRing_35 : decode cX12_layRing 35 = .ok (.iload_n 3, 1) := by decide +kernel
theorem dX12_layRing_36 : decode cX12_layRing 36 = .ok (.invokestatic 372, 3) := by decide +kernel
theorem dX12_layRing_39 : decode cX12_layRing 39 = .ok (.ifCond .eq 22, 3) := by decide +kernel
theorem dX12_layRing_42 : decode cX12_layRing 42 = .ok (.aload_n 0, 1) := by decide +kernel
theorem dX12_layRing_43 : decode cX12_layRing 43 = .ok (.getfield 117, 3) := by decide +kernel
theorem dX12_layRing_46 : decode cX12_layRing 46 = .ok (.iload_n 3, 1) := by decide +kernel
theorem dX12_layRing_47 : decode cX12_layRing 47 = .ok (.iaload, 1) := by decide +kernel
theorem dX12_layRing_48 : decode cX12_layRing 48 = .ok (.iload_n 2, 1) := by decide +kernel
theorem dX12_layRing_49 : decode cX12_layRing 49 = .ok (.if_icmp .ge 12, 3) := by decide +kernel
theorem dX12_layRing_52 : decode cX12_layRing 52 = .ok (.aload_n 0, 1) := by decide +kernel
theorem dX12_layRing_53 : decode cX12_layRing 53 = .ok (.getfield 117, 3) := by decide +kernel
theorem dX12_layRing_56 : decode cX12_layRing 56 = .ok (.iload_n 3, 1) := by decide +kernel
theorem dX12_layRing_57 : decode cX12_layRing 57 = .ok (.iaload, 1) := by decide +kernel
theorem dX12_layRing_58 : decode cX12_layRing 58 = .ok (.goto 4, 3) := by decide +kernel
theorem dX12_layRing_61 : decode cX12_layRing 61 = .ok (.iload_n 2, 1) := by decide +kernel
theorem dX12_layRing_62 : decode cX12_layRing 62 = .ok (.istore_n 2, 1) := by decide +kernel
theorem dX12_layRing_63 : decode cX12_layRing 63 = .ok (.iinc 3 1, 3) := by decide +kernel
theorem dX12_layRing_66 : decode cX12_layRing 66 = .ok (.goto (-43), 3) := by decide +kernel
theorem dX12_layRing_69 : decode cX12_layRing 69 = .ok (.iload_n 2, 1) := by decide +kernel
theorem dX12_layRing_70 : decode cX12_layRing 70 = .ok (.ldc_w 258, 3) := by decide +kernel
theorem dX12_layRing_73 : decode cX12_layRing 73 = .ok (.if_icmp .lt 6, 3) := by decide +kernel
theorem dX12_layRing_76 : decode cX12_layRing 76 = .ok (.goto 94, 3) := by decide +kernel
theorem dX12_layRing_79 : decode cX12_layRing 79 = .ok (.aload_n 0, 1) := by decide +kernel
theorem dX12_layRing_80 : decode cX12_layRing 80 = .ok (.getfield 114, 3) := by decide +kernel
theorem dX12_layRing_83 : decode cX12_layRing 83 = .ok (.iconst 0, 1) := by decide +kernel
theorem dX12_layRing_84 : decode cX12_layRing 84 = .ok (.iload_n 1, 1) := by decide +kernel
theorem dX12_layRing_85 : decode cX12_layRing 85 = .ok (.iastore, 1) := by decide +kernel
theorem dX12_layRing_86 : decode cX12_layRing 86 = .ok (.aload_n 0, 1) := by decide +kernel
theorem dX12_layRing_87 : decode cX12_layRing 87 = .ok (.iconst 1, 1) := by decide +kernel
theorem dX12_layRing_88 : decode cX12_layRing 88 = .ok (.putfield 453, 3) := by decide +kernel
theorem dX12_layRing_91 : decode cX12_layRing 91 = .ok (.iload_n 2, 1) := by decide +kernel
theorem dX12_layRing_92 : decode cX12_layRing 92 = .ok (.istore_n 3, 1) := by decide +kernel
theorem dX12_layRing_93 : decode cX12_layRing 93 = .ok (.iload_n 3, 1) := by decide +kernel
theorem dX12_layRing_94 : decode cX12_layRing 94 = .ok (.ifCond .le 74, 3) := by decide +kernel
theorem dX12_layRing_97 : decode cX12_layRing 97 = .ok (.iconst 0, 1) := by decide +kernel
theorem dX12_layRing_98 : decode cX12_layRing 98 = .ok (.istore 4, 2) := by decide +kernel
theorem dX12_layRing_100 : decode cX12_layRing 100 = .ok (.aload_n 0, 1) := by decide +kernel
theorem dX12_layRing_101 : decode cX12_layRing 101 = .ok (.getfield 111, 3) := by decide +kernel
theorem dX12_layRing_104 : decode cX12_layRing 104 = .ok (.aload_n 0, 1) := by decide +kernel
theorem dX12_layRing_105 : decode cX12_layRing 105 = .ok (.getfield 114, 3) := by decide +kernel
theorem dX12_layRing_108 : decode cX12_layRing 108 = .ok (.aload_n 0, 1) := by decide +kernel
theorem dX12_layRing_109 : decode cX12_layRing 109 = .ok (.getfield 453, 3) := by decide +kernel
theorem dX12_layRing_112 : decode cX12_layRing 112 = .ok (.iconst 1, 1) := by decide +kernel
theorem dX12_layRing_113 : decode cX12_layRing 113 = .ok (.isub, 1) := by decide +kernel
theorem dX12_layRing_114 : decode cX12_layRing 114 = .ok (.iaload, 1) := by decide +kernel
theorem dX12_layRing_115 : decode cX12_layRing 115 = .ok (.iaload, 1) := by decide +kernel
theorem dX12_layRing_116 : decode cX12_layRing 116 = .ok (.iload 4, 2) := by decide +kernel
theorem dX12_layRing_118 : decode cX12_layRing 118 = .ok (.invokestatic 372, 3) := by decide +kernel
theorem dX12_layRing_121 : decode cX12_layRing 121 = .ok (.ifCond .eq 14, 3) := by decide +kernel
theorem dX12_layRing_124 : decode cX12_layRing 124 = .ok (.aload_n 0, 1) := by decide +kernel
theorem dX12_layRing_125 : decode cX12_layRing 125 = .ok (.getfield 117, 3) := by decide +kernel
theorem dX12_layRing_128 : decode cX12_layRing 128 = .ok (.iload 4, 2) := by decide +kernel
theorem dX12_layRing_130 : decode cX12_layRing 130 = .ok (.iaload, 1) := by decide +kernel
theorem dX12_layRing_131 : decode cX12_layRing 131 = .ok (.iload_n 3, 1) := by decide +kernel
theorem dX12_layRing_132 : decode cX12_layRing 132 = .ok (.if_icmp .eq 9, 3) := by decide +kernel
theorem dX12_layRing_135 : decode cX12_layRing 135 = .ok (.iinc 4 1, 3) := by decide +kernel
theorem dX12_layRing_138 : decode cX12_layRing 138 = .ok (.goto (-38), 3) := by decide +kernel
theorem dX12_layRing_141 : decode cX12_layRing 141 = .ok (.aload_n 0, 1) := by decide +kernel
theorem dX12_layRing_142 : decode cX12_layRing 142 = .ok (.getfield 114, 3) := by decide +kernel
theorem dX12_layRing_145 : decode cX12_layRing 145 = .ok (.aload_n 0, 1) := by decide +kernel
theorem dX12_layRing_146 : decode cX12_layRing 146 = .ok (.getfield 453, 3) := by decide +kernel
theorem dX12_layRing_149 : decode cX12_layRing 149 = .ok (.iload 4, 2) := by decide +kernel
theorem dX12_layRing_151 : decode cX12_layRing 151 = .ok (.iastore, 1) := by decide +kernel
theorem dX12_layRing_152 : decode cX12_layRing 152 = .ok (.aload_n 0, 1) := by decide +kernel
theorem dX12_layRing_153 : decode cX12_layRing 153 = .ok (.dup, 1) := by decide +kernel
theorem dX12_layRing_154 : decode cX12_layRing 154 = .ok (.getfield 453, 3) := by decide +kernel
theorem dX12_layRing_157 : decode cX12_layRing 157 = .ok (.iconst 1, 1) := by decide +kernel
theorem dX12_layRing_158 : decode cX12_layRing 158 = .ok (.iadd, 1) := by decide +kernel
theorem dX12_layRing_159 : decode cX12_layRing 159 = .ok (.putfield 453, 3) := by decide +kernel
theorem dX12_layRing_162 : decode cX12_layRing 162 = .ok (.iinc 3 (-1), 3) := by decide +kernel
theorem dX12_layRing_165 : decode cX12_layRing 165 = .ok (.goto (-72), 3) := by decide +kernel
theorem dX12_layRing_168 : decode cX12_layRing 168 = .ok (.iconst 1, 1) := by decide +kernel
theorem dX12_layRing_169 : decode cX12_layRing 169 = .ok (.ireturn, 1) := by decide +kernel
theorem dX12_layRing_170 : decode cX12_layRing 170 = .ok (.iinc 1 1, 3) := by decide +kernel
theorem dX12_layRing_173 : decode cX12_layRing 173 = .ok (.goto (-167), 3) := by decide +kernel
theorem dX12_layRing_176 : decode cX12_layRing 176 = .ok (.iconst 0, 1) := by decide +kernel
theorem dX12_layRing_177 : decode cX12_layRing 177 = .ok (.ireturn, 1) := by decide +kernel
theorem dX12_ringTasks_0 : decode cX12_ringTasks 0 = .ok (.iconst 0, 1) := by decide +kernel
theorem dX12_ringTasks_1 : decode cX12_ringTasks 1 = .ok (.istore_n 1, 1) := by decide +kernel
theorem dX12_ringTasks_2 : decode cX12_ringTasks 2 = .ok (.iconst 0, 1) := by decide +kernel
theorem dX12_ringTasks_3 : decode cX12_ringTasks 3 = .ok (.istore_n 2, 1) := by decide +kernel
theorem dX12_ringTasks_4 : decode cX12_ringTasks 4 = .ok (.iload_n 2, 1) := by decide +kernel
theorem dX12_ringTasks_5 : decode cX12_ringTasks 5 = .ok (.aload_n 0, 1) := by decide +kernel
theorem dX12_ringTasks_6 : decode cX12_ringTasks 6 = .ok (.getfield 453, 3) := by decide +kernel
theorem dX12_ringTasks_9 : decode cX12_ringTasks 9 = .ok (.if_icmp .ge 20, 3) := by decide +kernel
theorem dX12_ringTasks_12 : decode cX12_ringTasks 12 = .ok (.iload_n 1, 1) := by decide +kernel
theorem dX12_ringTasks_13 : decode cX12_ringTasks 13 = .ok (.iconst 1, 1) := by decide +kernel
theorem dX12_ringTasks_14 : decode cX12_ringTasks 14 = .ok (.aload_n 0, 1) := by decide +kernel
theorem dX12_ringTasks_15 : decode cX12_ringTasks 15 = .ok (.getfield 114, 3) := by decide +kernel
theorem dX12_ringTasks_18 : decode cX12_ringTasks 18 = .ok (.iload_n 2, 1) := by decide +kernel
theorem dX12_ringTasks_19 : decode cX12_ringTasks 19 = .ok (.iaload, 1) := by decide +kernel
theorem dX12_ringTasks_20 : decode cX12_ringTasks 20 = .ok (.ishl, 1) := by decide +kernel
theorem dX12_ringTasks_21 : decode cX12_ringTasks 21 = .ok (.ior, 1) := by decide +kernel
theorem dX12_ringTasks_22 : decode cX12_ringTasks 22 = .ok (.istore_n 1, 1) := by decide +kernel
theorem dX12_ringTasks_23 : decode cX12_ringTasks 23 = .ok (.iinc 2 1, 3) := by decide +kernel
theorem dX12_ringTasks_26 : decode cX12_ringTasks 26 = .ok (.goto (-22), 3) := by decide +kernel
theorem dX12_ringTasks_29 : decode cX12_ringTasks 29 = .ok (.iload_n 1, 1) := by decide +kernel
theorem dX12_ringTasks_30 : decode cX12_ringTasks 30 = .ok (.ireturn, 1) := by decide +kernel
theorem dX12_ringLocks_0 : decode cX12_ringLocks 0 = .ok (.iconst 0, 1) := by decide +kernel
theorem dX12_ringLocks_1 : decode cX12_ringLocks 1 = .ok (.istore_n 1, 1) := by decide +kernel
theorem dX12_ringLocks_2 : decode cX12_ringLocks 2 = .ok (.iconst 0, 1) := by decide +kernel
theorem dX12_ringLocks_3 : decode cX12_ringLocks 3 = .ok (.istore_n 2, 1) := by decide +kernel
theorem dX12_ringLocks_4 : decode cX12_ringLocks 4 = .ok (.iload_n 2, 1) := by decide +kernel
theorem dX12_ringLocks_5 : decode cX12_ringLocks 5 = .ok (.aload_n 0, 1) := by decide +kernel
theorem dX12_ringLocks_6 : decode cX12_ringLocks 6 = .ok (.getfield 453, 3) := by decide +kernel
theorem dX12_ringLocks_9 : decode cX12_ringLocks 9 = .ok (.if_icmp .ge 25, 3) := by decide +kernel
theorem dX12_ringLocks_12 : decode cX12_ringLocks 12 = .ok (.iload_n 1, 1) := by decide +kernel
theorem dX12_ringLocks_13 : decode cX12_ringLocks 13 = .ok (.iconst 1, 1) := by decide +kernel
theorem dX12_ringLocks_14 : decode cX12_ringLocks 14 = .ok (.aload_n 0, 1) := by decide +kernel
theorem dX12_ringLocks_15 : decode cX12_ringLocks 15 = .ok (.getfield 108, 3) := by decide +kernel
theorem dX12_ringLocks_18 : decode cX12_ringLocks 18 = .ok (.aload_n 0, 1) := by decide +kernel
theorem dX12_ringLocks_19 : decode cX12_ringLocks 19 = .ok (.getfield 114, 3) := by decide +kernel
theorem dX12_ringLocks_22 : decode cX12_ringLocks 22 = .ok (.iload_n 2, 1) := by decide +kernel
theorem dX12_ringLocks_23 : decode cX12_ringLocks 23 = .ok (.iaload, 1) := by decide +kernel
theorem dX12_ringLocks_24 : decode cX12_ringLocks 24 = .ok (.iaload, 1) := by decide +kernel
theorem dX12_ringLocks_25 : decode cX12_ringLocks 25 = .ok (.ishl, 1) := by decide +kernel
theorem dX12_ringLocks_26 : decode cX12_ringLocks 26 = .ok (.ior, 1) := by decide +kernel
theorem dX12_ringLocks_27 : decode cX12_ringLocks 27 = .ok (.istore_n 1, 1) := by decide +kernel
theorem dX12_ringLocks_28 : decode cX12_ringLocks 28 = .ok (.iinc 2 1, 3) := by decide +kernel
theorem dX12_ringLocks_31 : decode cX12_ringLocks 31 = .ok (.goto (-27), 3) := by decide +kernel
theorem dX12_ringLocks_34 : decode cX12_ringLocks 34 = .ok (.iload_n 1, 1) := by decide +kernel
theorem dX12_ringLocks_35 : decode cX12_ringLocks 35 = .ok (.ireturn, 1) := by decide +kernel
theorem dX12_movesTo_0 : decode cX12_movesTo 0 = .ok (.iconst 0, 1) := by decide +kernel
theorem dX12_movesTo_1 : decode cX12_movesTo 1 = .ok (.istore_n 2, 1) := by decide +kernel
theorem dX12_movesTo_2 : decode cX12_movesTo 2 = .ok (.iload_n 1, 1) := by decide +kernel
theorem dX12_movesTo_3 : decode cX12_movesTo 3 = .ok (.istore_n 3, 1) := by decide +kernel
theorem dX12_movesTo_4 : decode cX12_movesTo 4 = .ok (.aload_n 0, 1) := by decide +kernel
theorem dX12_movesTo_5 : decode cX12_movesTo 5 = .ok (.getfield 96, 3) := by decide +kernel
theorem dX12_movesTo_8 : decode cX12_movesTo 8 = .ok (.iload_n 3, 1) := by decide +kernel
theorem dX12_movesTo_9 : decode cX12_movesTo 9 = .ok (.iaload, 1) := by decide +kernel
theorem dX12_movesTo_10 : decode cX12_movesTo 10 = .ok (.ifCond .lt 16, 3) := by decide +kernel
theorem dX12_movesTo_13 : decode cX12_movesTo 13 = .ok (.iinc 2 1, 3) := by decide +kernel
theorem dX12_movesTo_16 : decode cX12_movesTo 16 = .ok (.aload_n 0, 1) := by decide +kernel
theorem dX12_movesTo_17 : decode cX12_movesTo 17 = .ok (.getfield 96, 3) := by decide +kernel
theorem dX12_movesTo_20 : decode cX12_movesTo 20 = .ok (.iload_n 3, 1) := by decide +kernel
theorem dX12_movesTo_21 : decode cX12_movesTo 21 = .ok (.iaload, 1) := by decide +kernel
theorem dX12_movesTo_22 : decode cX12_movesTo 22 = .ok (.istore_n 3, 1) := by decide +kernel
theorem dX12_movesTo_23 : decode cX12_movesTo 23 = .ok (.goto (-19), 3) := by decide +kernel
theorem dX12_movesTo_26 : decode cX12_movesTo 26 = .ok (.iload_n 2, 1) := by decide +kernel
theorem dX12_movesTo_27 : decode cX12_movesTo 27 = .ok (.ireturn, 1) := by decide +kernel
theorem dX12_isSet_0 : decode cX12_isSet 0 = .ok (.iconst 0, 1) := by decide +kernel
theorem dX12_isSet_1 : decode cX12_isSet 1 = .ok (.istore_n 2, 1) := by decide +kernel
theorem dX12_isSet_2 : decode cX12_isSet 2 = .ok (.iconst 0, 1) := by decide +kernel
theorem dX12_isSet_3 : decode cX12_isSet 3 = .ok (.istore_n 3, 1) := by decide +kernel
theorem dX12_isSet_4 : decode cX12_isSet 4 = .ok (.iload_n 3, 1) := by decide +kernel
theorem dX12_isSet_5 : decode cX12_isSet 5 = .ok (.bipush 6, 2) := by decide +kernel
theorem dX12_isSet_7 : decode cX12_isSet 7 = .ok (.if_icmp .ge 43, 3) := by decide +kernel
theorem dX12_isSet_10 : decode cX12_isSet 10 = .ok (.iload_n 2, 1) := by decide +kernel
theorem dX12_isSet_11 : decode cX12_isSet 11 = .ok (.ifCond .ne 27, 3) := by decide +kernel
theorem dX12_isSet_14 : decode cX12_isSet 14 = .ok (.iload_n 1, 1) := by decide +kernel
theorem dX12_isSet_15 : decode cX12_isSet 15 = .ok (.iload_n 3, 1) := by decide +kernel
theorem dX12_isSet_16 : decode cX12_isSet 16 = .ok (.invokestatic 372, 3) := by decide +kernel
theorem dX12_isSet_19 : decode cX12_isSet 19 = .ok (.ifCond .eq 23, 3) := by decide +kernel
theorem dX12_isSet_22 : decode cX12_isSet 22 = .ok (.aload_n 0, 1) := by decide +kernel
theorem dX12_isSet_23 : decode cX12_isSet 23 = .ok (.iload_n 3, 1) := by decide +kernel
theorem dX12_isSet_24 : decode cX12_isSet 24 = .ok (.invokevirtual 328, 3) := by decide +kernel
theorem dX12_isSet_27 : decode cX12_isSet 27 = .ok (.ifCond .eq 15, 3) := by decide +kernel
theorem dX12_isSet_30 : decode cX12_isSet 30 = .ok (.aload_n 0, 1) := by decide +kernel
theorem dX12_isSet_31 : decode cX12_isSet 31 = .ok (.iload_n 3, 1) := by decide +kernel
theorem dX12_isSet_32 : decode cX12_isSet 32 = .ok (.invokevirtual 247, 3) := by decide +kernel
theorem dX12_isSet_35 : decode cX12_isSet 35 = .ok (.ifCond .ne 7, 3) := by decide +kernel
theorem dX12_isSet_38 : decode cX12_isSet 38 = .ok (.iconst 1, 1) := by decide +kernel
theorem dX12_isSet_39 : decode cX12_isSet 39 = .ok (.goto 4, 3) := by decide +kernel
theorem dX12_isSet_42 : decode cX12_isSet 42 = .ok (.iconst 0, 1) := by decide +kernel
theorem dX12_isSet_43 : decode cX12_isSet 43 = .ok (.istore_n 2, 1) := by decide +kernel
theorem dX12_isSet_44 : decode cX12_isSet 44 = .ok (.iinc 3 1, 3) := by decide +kernel
theorem dX12_isSet_47 : decode cX12_isSet 47 = .ok (.goto (-43), 3) := by decide +kernel
theorem dX12_isSet_50 : decode cX12_isSet 50 = .ok (.iload_n 2, 1) := by decide +kernel
theorem dX12_isSet_51 : decode cX12_isSet 51 = .ok (.ifCond .eq 25, 3) := by decide +kernel
theorem dX12_isSet_54 : decode cX12_isSet 54 = .ok (.iload_n 1, 1) := by decide +kernel
theorem dX12_isSet_55 : decode cX12_isSet 55 = .ok (.ifCond .lt 21, 3) := by decide +kernel
theorem dX12_isSet_58 : decode cX12_isSet 58 = .ok (.iload_n 1, 1) := by decide +kernel
theorem dX12_isSet_59 : decode cX12_isSet 59 = .ok (.aload_n 0, 1) := by decide +kernel
theorem dX12_isSet_60 : decode cX12_isSet 60 = .ok (.getfield 19, 3) := by decide +kernel
theorem dX12_isSet_63 : decode cX12_isSet 63 = .ok (.aload_n 0, 1) := by decide +kernel
theorem dX12_isSet_64 : decode cX12_isSet 64 = .ok (.getfield 229, 3) := by decide +kernel
theorem dX12_isSet_67 : decode cX12_isSet 67 = .ok (.iaload, 1) := by decide +kernel
theorem dX12_isSet_68 : decode cX12_isSet 68 = .ok (.ishr, 1) := by decide +kernel
theorem dX12_isSet_69 : decode cX12_isSet 69 = .ok (.ifCond .ne 7, 3) := by decide +kernel
theorem dX12_isSet_72 : decode cX12_isSet 72 = .ok (.iconst 1, 1) := by decide +kernel
theorem dX12_isSet_73 : decode cX12_isSet 73 = .ok (.goto 4, 3) := by decide +kernel
theorem dX12_isSet_76 : decode cX12_isSet 76 = .ok (.iconst 0, 1) := by decide +kernel
theorem dX12_isSet_77 : decode cX12_isSet 77 = .ok (.ireturn, 1) := by decide +kernel
theorem dX12_stuck_0 : decode cX12_stuck 0 = .ok (.aload_n 0, 1) := by decide +kernel
theorem dX12_stuck_1 : decode cX12_stuck 1 = .ok (.iload_n 1, 1) := by decide +kernel
theorem dX12_stuck_2 : decode cX12_stuck 2 = .ok (.invokevirtual 456, 3) := by decide +kernel
theorem dX12_stuck_5 : decode cX12_stuck 5 = .ok (.ifCond .eq 20, 3) := by decide +kernel
theorem dX12_stuck_8 : decode cX12_stuck 8 = .ok (.iload_n 2, 1) := by decide +kernel
theorem dX12_stuck_9 : decode cX12_stuck 9 = .ok (.iconst 0, 1) := by decide +kernel
theorem dX12_stuck_10 : decode cX12_stuck 10 = .ok (.iconst 4, 1) := by decide +kernel
theorem dX12_stuck_11 : decode cX12_stuck 11 = .ok (.invokestatic 225, 3) := by decide +kernel
theorem dX12_stuck_14 : decode cX12_stuck 14 = .ok (.ifCond .eq 11, 3) := by decide +kernel
theorem dX12_stuck_17 : decode cX12_stuck 17 = .ok (.aload_n 0, 1) := by decide +kernel
theorem dX12_stuck_18 : decode cX12_stuck 18 = .ok (.iload_n 1, 1) := by decide +kernel
theorem dX12_stuck_19 : decode cX12_stuck 19 = .ok (.invokevirtual 459, 3) := by decide +kernel
theorem dX12_stuck_22 : decode cX12_stuck 22 = .ok (.ifCond .ne 5, 3) := by decide +kernel
theorem dX12_stuck_25 : decode cX12_stuck 25 = .ok (.iconst (-1), 1) := by decide +kernel
theorem dX12_stuck_26 : decode cX12_stuck 26 = .ok (.ireturn, 1) := by decide +kernel
theorem dX12_stuck_27 : decode cX12_stuck 27 = .ok (.iload_n 2, 1) := by decide +kernel
theorem dX12_stuck_28 : decode cX12_stuck 28 = .ok (.ifCond .ne 16, 3) := by decide +kernel
theorem dX12_stuck_31 : decode cX12_stuck 31 = .ok (.aload_n 0, 1) := by decide +kernel
theorem dX12_stuck_32 : decode cX12_stuck 32 = .ok (.getfield 417, 3) := by decide +kernel
theorem dX12_stuck_35 : decode cX12_stuck 35 = .ok (.ifCond .ge 7, 3) := by decide +kernel
theorem dX12_stuck_38 : decode cX12_stuck 38 = .ok (.iconst 0, 1) := by decide +kernel
theorem dX12_stuck_39 : decode cX12_stuck 39 = .ok (.goto 4, 3) := by decide +kernel
theorem dX12_stuck_42 : decode cX12_stuck 42 = .ok (.iconst 1, 1) := by decide +kernel
theorem dX12_stuck_43 : decode cX12_stuck 43 = .ok (.ireturn, 1) := by decide +kernel
theorem dX12_stuck_44 : decode cX12_stuck 44 = .ok (.iload_n 2, 1) := by decide +kernel
theorem dX12_stuck_45 : decode cX12_stuck 45 = .ok (.iconst 2, 1) := by decide +kernel
theorem dX12_stuck_46 : decode cX12_stuck 46 = .ok (.if_icmp .ne 8, 3) := by decide +kernel
theorem dX12_stuck_49 : decode cX12_stuck 49 = .ok (.aload_n 0, 1) := by decide +kernel
theorem dX12_stuck_50 : decode cX12_stuck 50 = .ok (.getfield 405, 3) := by decide +kernel
theorem dX12_stuck_53 : decode cX12_stuck 53 = .ok (.ireturn, 1) := by decide +kernel
theorem dX12_stuck_54 : decode cX12_stuck 54 = .ok (.aload_n 0, 1) := by decide +kernel
theorem dX12_stuck_55 : decode cX12_stuck 55 = .ok (.getfield 417, 3) := by decide +kernel
theorem dX12_stuck_58 : decode cX12_stuck 58 = .ok (.ifCond .ge 5, 3) := by decide +kernel
theorem dX12_stuck_61 : decode cX12_stuck 61 = .ok (.iconst (-1), 1) := by decide +kernel
theorem dX12_stuck_62 : decode cX12_stuck 62 = .ok (.ireturn, 1) := by decide +kernel
theorem dX12_stuck_63 : decode cX12_stuck 63 = .ok (.iload_n 2, 1) := by decide +kernel
theorem dX12_stuck_64 : decode cX12_stuck 64 = .ok (.iconst 1, 1) := by decide +kernel
theorem dX12_stuck_65 : decode cX12_stuck 65 = .ok (.if_icmp .ne 14, 3) := by decide +kernel
theorem dX12_stuck_68 : decode cX12_stuck 68 = .ok (.aload_n 0, 1) := by decide +kernel
theorem dX12_stuck_69 : decode cX12_stuck 69 = .ok (.aload_n 0, 1) := by decide +kernel
theorem dX12_stuck_70 : decode cX12_stuck 70 = .ok (.getfield 417, 3) := by decide +kernel
theorem dX12_stuck_73 : decode cX12_stuck 73 = .ok (.invokevirtual 462, 3) := by decide +kernel
theorem dX12_stuck_76 : decode cX12_stuck 76 = .ok (.goto 19, 3) := by decide +kernel
theorem dX12_stuck_79 : decode cX12_stuck 79 = .ok (.iload_n 2, 1) := by decide +kernel
theorem dX12_stuck_80 : decode cX12_stuck 80 = .ok (.iconst 3, 1) := by decide +kernel
theorem dX12_stuck_81 : decode cX12_stuck 81 = .ok (.if_icmp .ne 10, 3) := by decide +kernel
theorem dX12_stuck_84 : decode cX12_stuck 84 = .ok (.aload_n 0, 1) := by decide +kernel
theorem dX12_stuck_85 : decode cX12_stuck 85 = .ok (.invokevirtual 465, 3) := by decide +kernel
theorem dX12_stuck_88 : decode cX12_stuck 88 = .ok (.goto 7, 3) := by decide +kernel
theorem dX12_stuck_91 : decode cX12_stuck 91 = .ok (.aload_n 0, 1) := by decide +kernel
theorem dX12_stuck_92 : decode cX12_stuck 92 = .ok (.invokevirtual 468, 3) := by decide +kernel
theorem dX12_stuck_95 : decode cX12_stuck 95 = .ok (.ireturn, 1) := by decide +kernel
theorem dX12_move_0 : decode cX12_move 0 = .ok (.aload_n 0, 1) := by decide +kernel
theorem dX12_move_1 : decode cX12_move 1 = .ok (.iload_n 1, 1) := by decide +kernel
theorem dX12_move_2 : decode cX12_move 2 = .ok (.invokevirtual 456, 3) := by decide +kernel
theorem dX12_move_5 : decode cX12_move 5 = .ok (.ifCond .eq 27, 3) := by decide +kernel
theorem dX12_move_8 : decode cX12_move 8 = .ok (.iload_n 3, 1) := by decide +kernel
theorem dX12_move_9 : decode cX12_move 9 = .ok (.iconst 0, 1) := by decide +kernel
theorem dX12_move_10 : decode cX12_move 10 = .ok (.iconst 1, 1) := by decide +kernel
theorem dX12_move_11 : decode cX12_move 11 = .ok (.invokestatic 225, 3) := by decide +kernel
theorem dX12_move_14 : decode cX12_move 14 = .ok (.ifCond .eq 18, 3) := by decide +kernel
theorem dX12_move_17 : decode cX12_move 17 = .ok (.aload_n 0, 1) := by decide +kernel
theorem dX12_move_18 : decode cX12_move 18 = .ok (.iload_n 1, 1) := by decide +kernel
theorem dX12_move_19 : decode cX12_move 19 = .ok (.invokevirtual 459, 3) := by decide +kernel
theorem dX12_move_22 : decode cX12_move 22 = .ok (.ifCond .eq 10, 3) := by decide +kernel
theorem dX12_move_25 : decode cX12_move 25 = .ok (.aload_n 0, 1) := by decide +kernel
theorem dX12_move_26 : decode cX12_move 26 = .ok (.getfield 417, 3) := by decide +kernel
theorem dX12_move_29 : decode cX12_move 29 = .ok (.ifCond .ge 6, 3) := by decide +kernel
theorem dX12_move_32 : decode cX12_move 32 = .ok (.bipush (-2), 2) := by decide +kernel
theorem dX12_move_34 : decode cX12_move 34 = .ok (.ireturn, 1) := by decide +kernel
theorem dX12_move_35 : decode cX12_move 35 = .ok (.aload_n 0, 1) := by decide +kernel
theorem dX12_move_36 : decode cX12_move 36 = .ok (.aload_n 0, 1) := by decide +kernel
theorem dX12_move_37 : decode cX12_move 37 = .ok (.getfield 417, 3) := by decide +kernel
theorem dX12_move_40 : decode cX12_move 40 = .ok (.invokevirtual 462, 3) := by decide +kernel
theorem dX12_move_43 : decode cX12_move 43 = .ok (.istore 4, 2) := by decide +kernel
theorem dX12_move_45 : decode cX12_move 45 = .ok (.iload_n 2, 1) := by decide +kernel
theorem dX12_move_46 : decode cX12_move 46 = .ok (.iconst 0, 1) := by decide +kernel
theorem dX12_move_47 : decode cX12_move 47 = .ok (.iload 4, 2) := by decide +kernel
theorem dX12_move_49 : decode cX12_move 49 = .ok (.iconst 1, 1) := by decide +kernel
theorem dX12_move_50 : decode cX12_move 50 = .ok (.isub, 1) := by decide +kernel
theorem dX12_move_51 : decode cX12_move 51 = .ok (.invokestatic 225, 3) := by decide +kernel
theorem dX12_move_54 : decode cX12_move 54 = .ok (.ifCond .ne 6, 3) := by decide +kernel
theorem dX12_move_57 : decode cX12_move 57 = .ok (.bipush (-2), 2) := by decide +kernel
theorem dX12_move_59 : decode cX12_move 59 = .ok (.ireturn, 1) := by decide +kernel
theorem dX12_move_60 : decode cX12_move 60 = .ok (.aload_n 0, 1) := by decide +kernel
theorem dX12_move_61 : decode cX12_move 61 = .ok (.getfield 417, 3) := by decide +kernel
theorem dX12_move_64 : decode cX12_move 64 = .ok (.istore 5, 2) := by decide +kernel
theorem dX12_move_66 : decode cX12_move 66 = .ok (.iload 4, 2) := by decide +kernel
theorem dX12_move_68 : decode cX12_move 68 = .ok (.iconst 1, 1) := by decide +kernel
theorem dX12_move_69 : decode cX12_move 69 = .ok (.isub, 1) := by decide +kernel
theorem dX12_move_70 : decode cX12_move 70 = .ok (.istore 6, 2) := by decide +kernel
theorem dX12_move_72 : decode cX12_move 72 = .ok (.iload 6, 2) := by decide +kernel
theorem dX12_move_74 : decode cX12_move 74 = .ok (.iload_n 2, 1) := by decide +kernel
theorem dX12_move_75 : decode cX12_move 75 = .ok (.if_icmp .le 18, 3) := by decide +kernel
theorem dX12_move_78 : decode cX12_move 78 = .ok (.aload_n 0, 1) := by decide +kernel
theorem dX12_move_79 : decode cX12_move 79 = .ok (.getfield 96, 3) := by decide +kernel
theorem dX12_move_82 : decode cX12_move 82 = .ok (.iload 5, 2) := by decide +kernel
theorem dX12_move_84 : decode cX12_move 84 = .ok (.iaload, 1) := by decide +kernel
theorem dX12_move_85 : decode cX12_move 85 = .ok (.istore 5, 2) := by decide +kernel
theorem dX12_move_87 : decode cX12_move 87 = .ok (.iinc 6 (-1), 3) := by decide +kernel
theorem dX12_move_90 : decode cX12_move 90 = .ok (.goto (-18), 3) := by decide +kernel
theorem dX12_move_93 : decode cX12_move 93 = .ok (.iload_n 3, 1) := by decide +kernel
theorem dX12_move_94 : decode cX12_move 94 = .ok (.ifCond .ne 13, 3) := by decide +kernel
theorem dX12_move_97 : decode cX12_move 97 = .ok (.aload_n 0, 1) := by decide +kernel
theorem dX12_move_98 : decode cX12_move 98 = .ok (.getfield 99, 3) := by decide +kernel
theorem dX12_move_101 : decode cX12_move 101 = .ok (.iload 5, 2) := by decide +kernel
theorem dX12_move_103 : decode cX12_move 103 = .ok (.iaload, 1) := by decide +kernel
theorem dX12_move_104 : decode cX12_move 104 = .ok (.goto 10, 3) := by decide +kernel
theorem dX12_move_107 : decode cX12_move 107 = .ok (.aload_n 0, 1) := by decide +kernel
theorem dX12_move_108 : decode cX12_move 108 = .ok (.getfield 102, 3) := by decide +kernel
theorem dX12_move_111 : decode cX12_move 111 = .ok (.iload 5, 2) := by decide +kernel
theorem dX12_move_113 : decode cX12_move 113 = .ok (.iaload, 1) := by decide +kernel
theorem dX12_move_114 : decode cX12_move 114 = .ok (.ireturn, 1) := by decide +kernel
theorem dX12_clash_0 : decode cX12_clash 0 = .ok (.aload_n 0, 1) := by decide +kernel
theorem dX12_clash_1 : decode cX12_clash 1 = .ok (.iload_n 1, 1) := by decide +kernel
theorem dX12_clash_2 : decode cX12_clash 2 = .ok (.invokevirtual 328, 3) := by decide +kernel
theorem dX12_clash_5 : decode cX12_clash 5 = .ok (.ifCond .eq 32, 3) := by decide +kernel
theorem dX12_clash_8 : decode cX12_clash 8 = .ok (.aload_n 0, 1) := by decide +kernel
theorem dX12_clash_9 : decode cX12_clash 9 = .ok (.iload_n 2, 1) := by decide +kernel
theorem dX12_clash_10 : decode cX12_clash 10 = .ok (.invokevirtual 328, 3) := by decide +kernel
theorem dX12_clash_13 : decode cX12_clash 13 = .ok (.ifCond .eq 24, 3) := by decide +kernel
theorem dX12_clash_16 : decode cX12_clash 16 = .ok (.iload_n 1, 1) := by decide +kernel
theorem dX12_clash_17 : decode cX12_clash 17 = .ok (.iload_n 2, 1) := by decide +kernel
theorem dX12_clash_18 : decode cX12_clash 18 = .ok (.if_icmp .eq 19, 3) := by decide +kernel
theorem dX12_clash_21 : decode cX12_clash 21 = .ok (.aload_n 0, 1) := by decide +kernel
theorem dX12_clash_22 : decode cX12_clash 22 = .ok (.iload_n 1, 1) := by decide +kernel
theorem dX12_clash_23 : decode cX12_clash 23 = .ok (.invokevirtual 247, 3) := by decide +kernel
theorem dX12_clash_26 : decode cX12_clash 26 = .ok (.ifCond .ne 11, 3) := by decide +kernel
theorem dX12_clash_29 : decode cX12_clash 29 = .ok (.aload_n 0, 1) := by decide +kernel
theorem dX12_clash_30 : decode cX12_clash 30 = .ok (.iload_n 2, 1) := by decide +kernel
theorem dX12_clash_31 : decode cX12_clash 31 = .ok (.invokevirtual 247, 3) := by decide +kernel
theorem dX12_clash_34 : decode cX12_clash 34 = .ok (.ifCond .eq 5, 3) := by decide +kernel
theorem dX12_clash_37 : decode cX12_clash 37 = .ok (.iconst (-1), 1) := by decide +kernel
theorem dX12_clash_38 : decode cX12_clash 38 = .ok (.ireturn, 1) := by decide +kernel
theorem dX12_clash_39 : decode cX12_clash 39 = .ok (.iconst 1, 1) := by decide +kernel
theorem dX12_clash_40 : decode cX12_clash 40 = .ok (.iload_n 1, 1) := by decide +kernel
theorem dX12_clash_41 : decode cX12_clash 41 = .ok (.ishl, 1) := by decide +kernel
theorem dX12_clash_42 : decode cX12_clash 42 = .ok (.iconst 1, 1) := by decide +kernel
theorem dX12_clash_43 : decode cX12_clash 43 = .ok (.iload_n 2, 1) := by decide +kernel
theorem dX12_clash_44 : decode cX12_clash 44 = .ok (.ishl, 1) := by decide +kernel
theorem dX12_clash_45 : decode cX12_clash 45 = .ok (.ior, 1) := by decide +kernel
theorem dX12_clash_46 : decode cX12_clash 46 = .ok (.istore_n 3, 1) := by decide +kernel
theorem dX12_clash_47 : decode cX12_clash 47 = .ok (.iconst 0, 1) := by decide +kernel
theorem dX12_clash_48 : decode cX12_clash 48 = .ok (.istore 4, 2) := by decide +kernel
theorem dX12_clash_50 : decode cX12_clash 50 = .ok (.iload 4, 2) := by decide +kernel
theorem dX12_clash_52 : decode cX12_clash 52 = .ok (.aload_n 0, 1) := by decide +kernel
theorem dX12_clash_53 : decode cX12_clash 53 = .ok (.getfield 19, 3) := by decide +kernel
theorem dX12_clash_56 : decode cX12_clash 56 = .ok (.aload_n 0, 1) := by decide +kernel
theorem dX12_clash_57 : decode cX12_clash 57 = .ok (.getfield 229, 3) := by decide +kernel
theorem dX12_clash_60 : decode cX12_clash 60 = .ok (.iaload, 1) := by decide +kernel
theorem dX12_clash_61 : decode cX12_clash 61 = .ok (.if_icmp .ge 29, 3) := by decide +kernel
theorem dX12_clash_64 : decode cX12_clash 64 = .ok (.iload_n 3, 1) := by decide +kernel
theorem dX12_clash_65 : decode cX12_clash 65 = .ok (.aload_n 0, 1) := by decide +kernel
theorem dX12_clash_66 : decode cX12_clash 66 = .ok (.iload 4, 2) := by decide +kernel
theorem dX12_clash_68 : decode cX12_clash 68 = .ok (.invokevirtual 247, 3) := by decide +kernel
theorem dX12_clash_71 : decode cX12_clash 71 = .ok (.ifCond .ne 7, 3) := by decide +kernel
theorem dX12_clash_74 : decode cX12_clash 74 = .ok (.iconst 0, 1) := by decide +kernel
theorem dX12_clash_75 : decode cX12_clash 75 = .ok (.goto 7, 3) := by decide +kernel
theorem dX12_clash_78 : decode cX12_clash 78 = .ok (.iconst 1, 1) := by decide +kernel
theorem dX12_clash_79 : decode cX12_clash 79 = .ok (.iload 4, 2) := by decide +kernel
theorem dX12_clash_81 : decode cX12_clash 81 = .ok (.ishl, 1) := by decide +kernel
theorem dX12_clash_82 : decode cX12_clash 82 = .ok (.ior, 1) := by decide +kernel
theorem dX12_clash_83 : decode cX12_clash 83 = .ok (.istore_n 3, 1) := by decide +kernel
theorem dX12_clash_84 : decode cX12_clash 84 = .ok (.iinc 4 1, 3) := by decide +kernel
theorem dX12_clash_87 : decode cX12_clash 87 = .ok (.goto (-37), 3) := by decide +kernel
theorem dX12_clash_90 : decode cX12_clash 90 = .ok (.aload_n 0, 1) := by decide +kernel
theorem dX12_clash_91 : decode cX12_clash 91 = .ok (.iload_n 3, 1) := by decide +kernel
theorem dX12_clash_92 : decode cX12_clash 92 = .ok (.iconst 0, 1) := by decide +kernel
theorem dX12_clash_93 : decode cX12_clash 93 = .ok (.invokevirtual 369, 3) := by decide +kernel
theorem dX12_clash_96 : decode cX12_clash 96 = .ok (.ireturn, 1) := by decide +kernel
theorem dX12_leastNow_0 : decode cX12_leastNow 0 = .ok (.iconst 1, 1) := by decide +kernel
theorem dX12_leastNow_1 : decode cX12_leastNow 1 = .ok (.istore_n 1, 1) := by decide +kernel
theorem dX12_leastNow_2 : decode cX12_leastNow 2 = .ok (.iload_n 1, 1) := by decide +kernel
theorem dX12_leastNow_3 : decode cX12_leastNow 3 = .ok (.bipush 6, 2) := by decide +kernel
theorem dX12_leastNow_5 : decode cX12_leastNow 5 = .ok (.if_icmp .gt 52, 3) := by decide +kernel
theorem dX12_leastNow_8 : decode cX12_leastNow 8 = .ok (.iconst 1, 1) := by decide +kernel
theorem dX12_leastNow_9 : decode cX12_leastNow 9 = .ok (.istore_n 2, 1) := by decide +kernel
theorem dX12_leastNow_10 : decode cX12_leastNow 10 = .ok (.iload_n 2, 1) := by decide +kernel
theorem dX12_leastNow_11 : decode cX12_leastNow 11 = .ok (.iconst 1, 1) := by decide +kernel
theorem dX12_leastNow_12 : decode cX12_leastNow 12 = .ok (.aload_n 0, 1) := by decide +kernel
theorem dX12_leastNow_13 : decode cX12_leastNow 13 = .ok (.getfield 19, 3) := by decide +kernel
theorem dX12_leastNow_16 : decode cX12_leastNow 16 = .ok (.aload_n 0, 1) := by decide +kernel
theorem dX12_leastNow_17 : decode cX12_leastNow 17 = .ok (.getfield 229, 3) := by decide +kernel
theorem dX12_leastNow_20 : decode cX12_leastNow 20 = .ok (.iaload, 1) := by decide +kernel
theorem dX12_leastNow_21 : decode cX12_leastNow 21 = .ok (.ishl, 1) := by decide +kernel
theorem dX12_leastNow_22 : decode cX12_leastNow 22 = .ok (.if_icmp .ge 29, 3) := by decide +kernel
theorem dX12_leastNow_25 : decode cX12_leastNow 25 = .ok (.iload_n 2, 1) := by decide +kernel
theorem dX12_leastNow_26 : decode cX12_leastNow 26 = .ok (.invokestatic 471, 3) := by decide +kernel
theorem dX12_leastNow_29 : decode cX12_leastNow 29 = .ok (.iload_n 1, 1) := by decide +kernel
theorem dX12_leastNow_30 : decode cX12_leastNow 30 = .ok (.if_icmp .ne 15, 3) := by decide +kernel
theorem dX12_leastNow_33 : decode cX12_leastNow 33 = .ok (.aload_n 0, 1) := by decide +kernel
theorem dX12_leastNow_34 : decode cX12_leastNow 34 = .ok (.iload_n 2, 1) := by decide +kernel
theorem dX12_leastNow_35 : decode cX12_leastNow 35 = .ok (.iconst 0, 1) := by decide +kernel
theorem dX12_leastNow_36 : decode cX12_leastNow 36 = .ok (.invokevirtual 369, 3) := by decide +kernel
theorem dX12_leastNow_39 : decode cX12_leastNow 39 = .ok (.iconst 1, 1) := by decide +kernel
theorem dX12_leastNow_40 : decode cX12_leastNow 40 = .ok (.if_icmp .ne 5, 3) := by decide +kernel
theorem dX12_leastNow_43 : decode cX12_leastNow 43 = .ok (.iload_n 2, 1) := by decide +kernel
theorem dX12_leastNow_44 : decode cX12_leastNow 44 = .ok (.ireturn, 1) := by decide +kernel
theorem dX12_leastNow_45 : decode cX12_leastNow 45 = .ok (.iinc 2 1, 3) := by decide +kernel
theorem dX12_leastNow_48 : decode cX12_leastNow 48 = .ok (.goto (-38), 3) := by decide +kernel
theorem dX12_leastNow_51 : decode cX12_leastNow 51 = .ok (.iinc 1 1, 3) := by decide +kernel
theorem dX12_leastNow_54 : decode cX12_leastNow 54 = .ok (.goto (-52), 3) := by decide +kernel
theorem dX12_leastNow_57 : decode cX12_leastNow 57 = .ok (.iconst 0, 1) := by decide +kernel
theorem dX12_leastNow_58 : decode cX12_leastNow 58 = .ok (.ireturn, 1) := by decide +kernel
theorem dX12_least_0 : decode cX12_least 0 = .ok (.aload_n 0, 1) := by decide +kernel
theorem dX12_least_1 : decode cX12_least 1 = .ok (.invokevirtual 474, 3) := by decide +kernel
theorem dX12_least_4 : decode cX12_least 4 = .ok (.ireturn, 1) := by decide +kernel
theorem dX12_kindsTold_0 : decode cX12_kindsTold 0 = .ok (.aload_n 0, 1) := by decide +kernel
theorem dX12_kindsTold_1 : decode cX12_kindsTold 1 = .ok (.invokevirtual 364, 3) := by decide +kernel
theorem dX12_kindsTold_4 : decode cX12_kindsTold 4 = .ok (.iconst 0, 1) := by decide +kernel
theorem dX12_kindsTold_5 : decode cX12_kindsTold 5 = .ok (.istore_n 1, 1) := by decide +kernel
theorem dX12_kindsTold_6 : decode cX12_kindsTold 6 = .ok (.iconst 0, 1) := by decide +kernel
theorem dX12_kindsTold_7 : decode cX12_kindsTold 7 = .ok (.istore_n 2, 1) := by decide +kernel
theorem dX12_kindsTold_8 : decode cX12_kindsTold 8 = .ok (.iload_n 2, 1) := by decide +kernel
theorem dX12_kindsTold_9 : decode cX12_kindsTold 9 = .ok (.aload_n 0, 1) := by decide +kernel
theorem dX12_kindsTold_10 : decode cX12_kindsTold 10 = .ok (.getfield 7, 3) := by decide +kernel
theorem dX12_kindsTold_13 : decode cX12_kindsTold 13 = .ok (.sipush 272, 3) := by decide +kernel
theorem dX12_kindsTold_16 : decode cX12_kindsTold 16 = .ok (.iaload, 1) := by decide +kernel
theorem dX12_kindsTold_17 : decode cX12_kindsTold 17 = .ok (.if_icmp .ge 32, 3) := by decide +kernel
theorem dX12_kindsTold_20 : decode cX12_kindsTold 20 = .ok (.aload_n 0, 1) := by decide +kernel
theorem dX12_kindsTold_21 : decode cX12_kindsTold 21 = .ok (.getfield 7, 3) := by decide +kernel
theorem dX12_kindsTold_24 : decode cX12_kindsTold 24 = .ok (.iload_n 2, 1) := by decide +kernel
theorem dX12_kindsTold_25 : decode cX12_kindsTold 25 = .ok (.iconst 0, 1) := by decide +kernel
theorem dX12_kindsTold_26 : decode cX12_kindsTold 26 = .ok (.invokestatic 268, 3) := by decide +kernel
theorem dX12_kindsTold_29 : decode cX12_kindsTold 29 = .ok (.iaload, 1) := by decide +kernel
theorem dX12_kindsTold_30 : decode cX12_kindsTold 30 = .ok (.bipush 8, 2) := by decide +kernel
theorem dX12_kindsTold_32 : decode cX12_kindsTold 32 = .ok (.if_icmp .ge 11, 3) := by decide +kernel
theorem dX12_kindsTold_35 : decode cX12_kindsTold 35 = .ok (.iload_n 1, 1) := by decide +kernel
theorem dX12_kindsTold_36 : decode cX12_kindsTold 36 = .ok (.aload_n 0, 1) := by decide +kernel
theorem dX12_kindsTold_37 : decode cX12_kindsTold 37 = .ok (.iload_n 2, 1) := by decide +kernel
theorem dX12_kindsTold_38 : decode cX12_kindsTold 38 = .ok (.invokevirtual 477, 3) := by decide +kernel
theorem dX12_kindsTold_41 : decode cX12_kindsTold 41 = .ok (.ior, 1) := by decide +kernel
theorem dX12_kindsTold_42 : decode cX12_kindsTold 42 = .ok (.istore_n 1, 1) := by decide +kernel
theorem dX12_kindsTold_43 : decode cX12_kindsTold 43 = .ok (.iinc 2 1, 3) := by decide +kernel
theorem dX12_kindsTold_46 : decode cX12_kindsTold 46 = .ok (.goto (-38), 3) := by decide +kernel
theorem dX12_kindsTold_49 : decode cX12_kindsTold 49 = .ok (.aload_n 0, 1) := by decide +kernel
theorem dX12_kindsTold_50 : decode cX12_kindsTold 50 = .ok (.invokevirtual 361, 3) := by decide +kernel
theorem dX12_kindsTold_53 : decode cX12_kindsTold 53 = .ok (.iload_n 1, 1) := by decide +kernel
theorem dX12_kindsTold_54 : decode cX12_kindsTold 54 = .ok (.ireturn, 1) := by decide +kernel
theorem dX12_kindsOf_0 : decode cX12_kindsOf 0 = .ok (.iconst 0, 1) := by decide +kernel
theorem dX12_kindsOf_1 : decode cX12_kindsOf 1 = .ok (.istore_n 2, 1) := by decide +kernel
theorem dX12_kindsOf_2 : decode cX12_kindsOf 2 = .ok (.iconst 0, 1) := by decide +kernel
theorem dX12_kindsOf_3 : decode cX12_kindsOf 3 = .ok (.istore_n 3, 1) := by decide +kernel
theorem dX12_kindsOf_4 : decode cX12_kindsOf 4 = .ok (.iload_n 3, 1) := by decide +kernel
theorem dX12_kindsOf_5 : decode cX12_kindsOf 5 = .ok (.aload_n 0, 1) := by decide +kernel
theorem dX12_kindsOf_6 : decode cX12_kindsOf 6 = .ok (.getfield 7, 3) := by decide +kernel
theorem dX12_kindsOf_9 : decode cX12_kindsOf 9 = .ok (.iload_n 1, 1) := by decide +kernel
theorem dX12_kindsOf_10 : decode cX12_kindsOf 10 = .ok (.iconst 3, 1) := by decide +kernel
theorem dX12_kindsOf_11 : decode cX12_kindsOf 11 = .ok (.invokestatic 268, 3) := by decide +kernel
theorem dX12_kindsOf_14 : decode cX12_kindsOf 14 = .ok (.iaload, 1) := by decide +kernel
theorem dX12_kindsOf_15 : decode cX12_kindsOf 15 = .ok (.if_icmp .ge 28, 3) := by decide +kernel
theorem dX12_kindsOf_18 : decode cX12_kindsOf 18 = .ok (.iload_n 2, 1) := by decide +kernel
theorem dX12_kindsOf_19 : decode cX12_kindsOf 19 = .ok (.iconst 1, 1) := by decide +kernel
theorem dX12_kindsOf_20 : decode cX12_kindsOf 20 = .ok (.aload_n 0, 1) := by decide +kernel
theorem dX12_kindsOf_21 : decode cX12_kindsOf 21 = .ok (.getfield 7, 3) := by decide +kernel
theorem dX12_kindsOf_24 : decode cX12_kindsOf 24 = .ok (.iload_n 1, 1) := by decide +kernel
theorem dX12_kindsOf_25 : decode cX12_kindsOf 25 = .ok (.iconst 4, 1) := by decide +kernel
theorem dX12_kindsOf_26 : decode cX12_kindsOf 26 = .ok (.iload_n 3, 1) := by decide +kernel
theorem dX12_kindsOf_27 : decode cX12_kindsOf 27 = .ok (.iadd, 1) := by decide +kernel
theorem dX12_kindsOf_28 : decode cX12_kindsOf 28 = .ok (.invokestatic 268, 3) := by decide +kernel
theorem dX12_kindsOf_31 : decode cX12_kindsOf 31 = .ok (.iaload, 1) := by decide +kernel
theorem dX12_kindsOf_32 : decode cX12_kindsOf 32 = .ok (.iconst 2, 1) := by decide +kernel
theorem dX12_kindsOf_33 : decode cX12_kindsOf 33 = .ok (.idiv, 1) := by decide +kernel
theorem dX12_kindsOf_34 : decode cX12_kindsOf 34 = .ok (.ishl, 1) := by decide +kernel
theorem dX12_kindsOf_35 : decode cX12_kindsOf 35 = .ok (.ior, 1) := by decide +kernel
theorem dX12_kindsOf_36 : decode cX12_kindsOf 36 = .ok (.istore_n 2, 1) := by decide +kernel
theorem dX12_kindsOf_37 : decode cX12_kindsOf 37 = .ok (.iinc 3 1, 3) := by decide +kernel
theorem dX12_kindsOf_40 : decode cX12_kindsOf 40 = .ok (.goto (-36), 3) := by decide +kernel
theorem dX12_kindsOf_43 : decode cX12_kindsOf 43 = .ok (.iload_n 2, 1) := by decide +kernel
theorem dX12_kindsOf_44 : decode cX12_kindsOf 44 = .ok (.ireturn, 1) := by decide +kernel
theorem dX12_missed_0 : decode cX12_missed 0 = .ok (.aload_n 0, 1) := by decide +kernel
theorem dX12_missed_1 : decode cX12_missed 1 = .ok (.invokevirtual 480, 3) := by decide +kernel
theorem dX12_missed_4 : decode cX12_missed 4 = .ok (.istore_n 1, 1) := by decide +kernel
theorem dX12_missed_5 : decode cX12_missed 5 = .ok (.aload_n 0, 1) := by decide +kernel
theorem dX12_missed_6 : decode cX12_missed 6 = .ok (.invokevirtual 474, 3) := by decide +kernel
theorem dX12_missed_9 : decode cX12_missed 9 = .ok (.ifCond .ne 5, 3) := by decide +kernel
theorem dX12_missed_12 : decode cX12_missed 12 = .ok (.iconst 0, 1) := by decide +kernel
theorem dX12_missed_13 : decode cX12_missed 13 = .ok (.ireturn, 1) := by decide +kernel
theorem dX12_missed_14 : decode cX12_missed 14 = .ok (.iconst 0, 1) := by decide +kernel
theorem dX12_missed_15 : decode cX12_missed 15 = .ok (.istore_n 2, 1) := by decide +kernel
theorem dX12_missed_16 : decode cX12_missed 16 = .ok (.iconst 0, 1) := by decide +kernel
theorem dX12_missed_17 : decode cX12_missed 17 = .ok (.istore_n 3, 1) := by decide +kernel
theorem dX12_missed_18 : decode cX12_missed 18 = .ok (.iload_n 3, 1) := by decide +kernel
theorem dX12_missed_19 : decode cX12_missed 19 = .ok (.bipush 10, 2) := by decide +kernel
theorem dX12_missed_21 : decode cX12_missed 21 = .ok (.if_icmp .ge 40, 3) := by decide +kernel
theorem dX12_missed_24 : decode cX12_missed 24 = .ok (.iload_n 2, 1) := by decide +kernel
theorem dX12_missed_25 : decode cX12_missed 25 = .ok (.aload_n 0, 1) := by decide +kernel
theorem dX12_missed_26 : decode cX12_missed 26 = .ok (.invokevirtual 468, 3) := by decide +kernel
theorem dX12_missed_29 : decode cX12_missed 29 = .ok (.iload_n 3, 1) := by decide +kernel
theorem dX12_missed_30 : decode cX12_missed 30 = .ok (.invokestatic 372, 3) := by decide +kernel
theorem dX12_missed_33 : decode cX12_missed 33 = .ok (.ifCond .eq 19, 3) := by decide +kernel
theorem dX12_missed_36 : decode cX12_missed 36 = .ok (.iload_n 1, 1) := by decide +kernel
theorem dX12_missed_37 : decode cX12_missed 37 = .ok (.aload_n 0, 1) := by decide +kernel
theorem dX12_missed_38 : decode cX12_missed 38 = .ok (.iload_n 3, 1) := by decide +kernel
theorem dX12_missed_39 : decode cX12_missed 39 = .ok (.invokevirtual 302, 3) := by decide +kernel
theorem dX12_missed_42 : decode cX12_missed 42 = .ok (.invokestatic 372, 3) := by decide +kernel
theorem dX12_missed_45 : decode cX12_missed 45 = .ok (.ifCond .ne 7, 3) := by decide +kernel
theorem dX12_missed_48 : decode cX12_missed 48 = .ok (.iconst 1, 1) := by decide +kernel
theorem dX12_missed_49 : decode cX12_missed 49 = .ok (.goto 4, 3) := by decide +kernel
theorem dX12_missed_52 : decode cX12_missed 52 = .ok (.iconst 0, 1) := by decide +kernel
theorem dX12_missed_53 : decode cX12_missed 53 = .ok (.iadd, 1) := by decide +kernel
theorem dX12_missed_54 : decode cX12_missed 54 = .ok (.istore_n 2, 1) := by decide +kernel
theorem dX12_missed_55 : decode cX12_missed 55 = .ok (.iinc 3 1, 3) := by decide +kernel
theorem dX12_missed_58 : decode cX12_missed 58 = .ok (.goto (-40), 3) := by decide +kernel
theorem dX12_missed_61 : decode cX12_missed 61 = .ok (.iload_n 2, 1) := by decide +kernel
theorem dX12_missed_62 : decode cX12_missed 62 = .ok (.ireturn, 1) := by decide +kernel
theorem dX12_areOf_0 : decode cX12_areOf 0 = .ok (.iconst 0, 1) := by decide +kernel
theorem dX12_areOf_1 : decode cX12_areOf 1 = .ok (.istore_n 3, 1) := by decide +kernel
theorem dX12_areOf_2 : decode cX12_areOf 2 = .ok (.iload_n 3, 1) := by decide +kernel
theorem dX12_areOf_3 : decode cX12_areOf 3 = .ok (.bipush 10, 2) := by decide +kernel
theorem dX12_areOf_5 : decode cX12_areOf 5 = .ok (.if_icmp .ge 31, 3) := by decide +kernel
theorem dX12_areOf_8 : decode cX12_areOf 8 = .ok (.iload_n 1, 1) := by decide +kernel
theorem dX12_areOf_9 : decode cX12_areOf 9 = .ok (.iload_n 3, 1) := by decide +kernel
theorem dX12_areOf_10 : decode cX12_areOf 10 = .ok (.invokestatic 372, 3) := by decide +kernel
theorem dX12_areOf_13 : decode cX12_areOf 13 = .ok (.ifCond .eq 17, 3) := by decide +kernel
theorem dX12_areOf_16 : decode cX12_areOf 16 = .ok (.iload_n 2, 1) := by decide +kernel
theorem dX12_areOf_17 : decode cX12_areOf 17 = .ok (.aload_n 0, 1) := by decide +kernel
theorem dX12_areOf_18 : decode cX12_areOf 18 = .ok (.iload_n 3, 1) := by decide +kernel
theorem dX12_areOf_19 : decode cX12_areOf 19 = .ok (.invokevirtual 302, 3) := by decide +kernel
theorem dX12_areOf_22 : decode cX12_areOf 22 = .ok (.invokestatic 372, 3) := by decide +kernel
theorem dX12_areOf_25 : decode cX12_areOf 25 = .ok (.ifCond .ne 5, 3) := by decide +kernel
theorem dX12_areOf_28 : decode cX12_areOf 28 = .ok (.iconst 0, 1) := by decide +kernel
theorem dX12_areOf_29 : decode cX12_areOf 29 = .ok (.ireturn, 1) := by decide +kernel
theorem dX12_areOf_30 : decode cX12_areOf 30 = .ok (.iinc 3 1, 3) := by decide +kernel
theorem dX12_areOf_33 : decode cX12_areOf 33 = .ok (.goto (-31), 3) := by decide +kernel
theorem dX12_areOf_36 : decode cX12_areOf 36 = .ok (.iconst 1, 1) := by decide +kernel
theorem dX12_areOf_37 : decode cX12_areOf 37 = .ok (.ireturn, 1) := by decide +kernel
theorem dX12_proves_0 : decode cX12_proves 0 = .ok (.aload_n 0, 1) := by decide +kernel
theorem dX12_proves_1 : decode cX12_proves 1 = .ok (.iload_n 1, 1) := by decide +kernel
theorem dX12_proves_2 : decode cX12_proves 2 = .ok (.invokevirtual 352, 3) := by decide +kernel
theorem dX12_proves_5 : decode cX12_proves 5 = .ok (.ifCond .eq 17, 3) := by decide +kernel
theorem dX12_proves_8 : decode cX12_proves 8 = .ok (.aload_n 0, 1) := by decide +kernel
theorem dX12_proves_9 : decode cX12_proves 9 = .ok (.getfield 7, 3) := by decide +kernel
theorem dX12_proves_12 : decode cX12_proves 12 = .ok (.iload_n 1, 1) := by decide +kernel
theorem dX12_proves_13 : decode cX12_proves 13 = .ok (.iconst 0, 1) := by decide +kernel
theorem dX12_proves_14 : decode cX12_proves 14 = .ok (.invokestatic 268, 3) := by decide +kernel
theorem dX12_proves_17 : decode cX12_proves 17 = .ok (.iaload, 1) := by decide +kernel
theorem dX12_proves_18 : decode cX12_proves 18 = .ok (.iconst 3, 1) := by decide +kernel
theorem dX12_proves_19 : decode cX12_proves 19 = .ok (.if_icmp .eq 5, 3) := by decide +kernel
theorem dX12_proves_22 : decode cX12_proves 22 = .ok (.iconst (-1), 1) := by decide +kernel
theorem dX12_proves_23 : decode cX12_proves 23 = .ok (.ireturn, 1) := by decide +kernel
theorem dX12_proves_24 : decode cX12_proves 24 = .ok (.aload_n 0, 1) := by decide +kernel
theorem dX12_proves_25 : decode cX12_proves 25 = .ok (.iload_n 1, 1) := by decide +kernel
theorem dX12_proves_26 : decode cX12_proves 26 = .ok (.invokevirtual 477, 3) := by decide +kernel
theorem dX12_proves_29 : decode cX12_proves 29 = .ok (.istore_n 2, 1) := by decide +kernel
theorem dX12_proves_30 : decode cX12_proves 30 = .ok (.iconst 1, 1) := by decide +kernel
theorem dX12_proves_31 : decode cX12_proves 31 = .ok (.istore_n 3, 1) := by decide +kernel
theorem dX12_proves_32 : decode cX12_proves 32 = .ok (.iload_n 3, 1) := by decide +kernel
theorem dX12_proves_33 : decode cX12_proves 33 = .ok (.iconst 1, 1) := by decide +kernel
theorem dX12_proves_34 : decode cX12_proves 34 = .ok (.aload_n 0, 1) := by decide +kernel
theorem dX12_proves_35 : decode cX12_proves 35 = .ok (.getfield 19, 3) := by decide +kernel
theorem dX12_proves_38 : decode cX12_proves 38 = .ok (.aload_n 0, 1) := by decide +kernel
theorem dX12_proves_39 : decode cX12_proves 39 = .ok (.getfield 229, 3) := by decide +kernel
theorem dX12_proves_42 : decode cX12_proves 42 = .ok (.iaload, 1) := by decide +kernel
theorem dX12_proves_43 : decode cX12_proves 43 = .ok (.ishl, 1) := by decide +kernel
theorem dX12_proves_44 : decode cX12_proves 44 = .ok (.if_icmp .ge 33, 3) := by decide +kernel
theorem dX12_proves_47 : decode cX12_proves 47 = .ok (.aload_n 0, 1) := by decide +kernel
theorem dX12_proves_48 : decode cX12_proves 48 = .ok (.iload_n 3, 1) := by decide +kernel
theorem dX12_proves_49 : decode cX12_proves 49 = .ok (.iconst 0, 1) := by decide +kernel
theorem dX12_proves_50 : decode cX12_proves 50 = .ok (.invokevirtual 369, 3) := by decide +kernel
theorem dX12_proves_53 : decode cX12_proves 53 = .ok (.iconst 1, 1) := by decide +kernel
theorem dX12_proves_54 : decode cX12_proves 54 = .ok (.if_icmp .ne 17, 3) := by decide +kernel
theorem dX12_proves_57 : decode cX12_proves 57 = .ok (.aload_n 0, 1) := by decide +kernel
theorem dX12_proves_58 : decode cX12_proves 58 = .ok (.aload_n 0, 1) := by decide +kernel
theorem dX12_proves_59 : decode cX12_proves 59 = .ok (.invokevirtual 468, 3) := by decide +kernel
theorem dX12_proves_62 : decode cX12_proves 62 = .ok (.iload_n 2, 1) := by decide +kernel
theorem dX12_proves_63 : decode cX12_proves 63 = .ok (.invokevirtual 483, 3) := by decide +kernel
theorem dX12_proves_66 : decode cX12_proves 66 = .ok (.ifCond .eq 5, 3) := by decide +kernel
theorem dX12_proves_69 : decode cX12_proves 69 = .ok (.iconst 1, 1) := by decide +kernel
theorem dX12_proves_70 : decode cX12_proves 70 = .ok (.ireturn, 1) := by decide +kernel
theorem dX12_proves_71 : decode cX12_proves 71 = .ok (.iinc 3 1, 3) := by decide +kernel
theorem dX12_proves_74 : decode cX12_proves 74 = .ok (.goto (-42), 3) := by decide +kernel
theorem dX12_proves_77 : decode cX12_proves 77 = .ok (.iconst 0, 1) := by decide +kernel
theorem dX12_proves_78 : decode cX12_proves 78 = .ok (.ireturn, 1) := by decide +kernel
theorem dX12_keepAct_0 : decode cX12_keepAct 0 = .ok (.aload_n 0, 1) := by decide +kernel
theorem dX12_keepAct_1 : decode cX12_keepAct 1 = .ok (.getfield 241, 3) := by decide +kernel
theorem dX12_keepAct_4 : decode cX12_keepAct 4 = .ok (.bipush 12, 2) := by decide +kernel
theorem dX12_keepAct_6 : decode cX12_keepAct 6 = .ok (.if_icmp .ne 44, 3) := by decide +kernel
theorem dX12_keepAct_9 : decode cX12_keepAct 9 = .ok (.iconst 0, 1) := by decide +kernel
theorem dX12_keepAct_10 : decode cX12_keepAct 10 = .ok (.istore_n 1, 1) := by decide +kernel
theorem dX12_keepAct_11 : decode cX12_keepAct 11 = .ok (.iload_n 1, 1) := by decide +kernel
theorem dX12_keepAct_12 : decode cX12_keepAct 12 = .ok (.ldc_w 486, 3) := by decide +kernel
theorem dX12_keepAct_15 : decode cX12_keepAct 15 = .ok (.if_icmp .ge 25, 3) := by decide +kernel
theorem dX12_keepAct_18 : decode cX12_keepAct 18 = .ok (.aload_n 0, 1) := by decide +kernel
theorem dX12_keepAct_19 : decode cX12_keepAct 19 = .ok (.getfield 121, 3) := by decide +kernel
theorem dX12_keepAct_22 : decode cX12_keepAct 22 = .ok (.iload_n 1, 1) := by decide +kernel
theorem dX12_keepAct_23 : decode cX12_keepAct 23 = .ok (.aload_n 0, 1) := by decide +kernel
theorem dX12_keepAct_24 : decode cX12_keepAct 24 = .ok (.getfield 121, 3) := by decide +kernel
theorem dX12_keepAct_27 : decode cX12_keepAct 27 = .ok (.iload_n 1, 1) := by decide +kernel
theorem dX12_keepAct_28 : decode cX12_keepAct 28 = .ok (.sipush 9685, 3) := by decide +kernel
theorem dX12_keepAct_31 : decode cX12_keepAct 31 = .ok (.iadd, 1) := by decide +kernel
theorem dX12_keepAct_32 : decode cX12_keepAct 32 = .ok (.iaload, 1) := by decide +kernel
theorem dX12_keepAct_33 : decode cX12_keepAct 33 = .ok (.iastore, 1) := by decide +kernel
theorem dX12_keepAct_34 : decode cX12_keepAct 34 = .ok (.iinc 1 1, 3) := by decide +kernel
theorem dX12_keepAct_37 : decode cX12_keepAct 37 = .ok (.goto (-26), 3) := by decide +kernel
theorem dX12_keepAct_40 : decode cX12_keepAct 40 = .ok (.aload_n 0, 1) := by decide +kernel
theorem dX12_keepAct_41 : decode cX12_keepAct 41 = .ok (.dup, 1) := by decide +kernel
theorem dX12_keepAct_42 : decode cX12_keepAct 42 = .ok (.getfield 241, 3) := by decide +kernel
theorem dX12_keepAct_45 : decode cX12_keepAct 45 = .ok (.iconst 1, 1) := by decide +kernel
theorem dX12_keepAct_46 : decode cX12_keepAct 46 = .ok (.isub, 1) := by decide +kernel
theorem dX12_keepAct_47 : decode cX12_keepAct 47 = .ok (.putfield 241, 3) := by decide +kernel
theorem dX12_keepAct_50 : decode cX12_keepAct 50 = .ok (.iconst 0, 1) := by decide +kernel
theorem dX12_keepAct_51 : decode cX12_keepAct 51 = .ok (.istore_n 1, 1) := by decide +kernel
theorem dX12_keepAct_52 : decode cX12_keepAct 52 = .ok (.iload_n 1, 1) := by decide +kernel
theorem dX12_keepAct_53 : decode cX12_keepAct 53 = .ok (.sipush 9685, 3) := by decide +kernel
theorem dX12_keepAct_56 : decode cX12_keepAct 56 = .ok (.if_icmp .ge 30, 3) := by decide +kernel
theorem dX12_keepAct_59 : decode cX12_keepAct 59 = .ok (.aload_n 0, 1) := by decide +kernel
theorem dX12_keepAct_60 : decode cX12_keepAct 60 = .ok (.getfield 121, 3) := by decide +kernel
theorem dX12_keepAct_63 : decode cX12_keepAct 63 = .ok (.sipush 9685, 3) := by decide +kernel
theorem dX12_keepAct_66 : decode cX12_keepAct 66 = .ok (.aload_n 0, 1) := by decide +kernel
theorem dX12_keepAct_67 : decode cX12_keepAct 67 = .ok (.getfield 241, 3) := by decide +kernel
theorem dX12_keepAct_70 : decode cX12_keepAct 70 = .ok (.imul, 1) := by decide +kernel
theorem dX12_keepAct_71 : decode cX12_keepAct 71 = .ok (.iload_n 1, 1) := by decide +kernel
theorem dX12_keepAct_72 : decode cX12_keepAct 72 = .ok (.iadd, 1) := by decide +kernel
theorem dX12_keepAct_73 : decode cX12_keepAct 73 = .ok (.aload_n 0, 1) := by decide +kernel
theorem dX12_keepAct_74 : decode cX12_keepAct 74 = .ok (.getfield 7, 3) := by decide +kernel
theorem dX12_keepAct_77 : decode cX12_keepAct 77 = .ok (.iload_n 1, 1) := by decide +kernel
theorem dX12_keepAct_78 : decode cX12_keepAct 78 = .ok (.iaload, 1) := by decide +kernel
theorem dX12_keepAct_79 : decode cX12_keepAct 79 = .ok (.iastore, 1) := by decide +kernel
theorem dX12_keepAct_80 : decode cX12_keepAct 80 = .ok (.iinc 1 1, 3) := by decide +kernel
theorem dX12_keepAct_83 : decode cX12_keepAct 83 = .ok (.goto (-31), 3) := by decide +kernel
theorem dX12_keepAct_86 : decode cX12_keepAct 86 = .ok (.aload_n 0, 1) := by decide +kernel
theorem dX12_keepAct_87 : decode cX12_keepAct 87 = .ok (.dup, 1) := by decide +kernel
theorem dX12_keepAct_88 : decode cX12_keepAct 88 = .ok (.getfield 241, 3) := by decide +kernel
theorem dX12_keepAct_91 : decode cX12_keepAct 91 = .ok (.iconst 1, 1) := by decide +kernel
theorem dX12_keepAct_92 : decode cX12_keepAct 92 = .ok (.iadd, 1) := by decide +kernel
theorem dX12_keepAct_93 : decode cX12_keepAct 93 = .ok (.putfield 241, 3) := by decide +kernel
theorem dX12_keepAct_96 : decode cX12_keepAct 96 = .ok (.aload_n 0, 1) := by decide +kernel
theorem dX12_keepAct_97 : decode cX12_keepAct 97 = .ok (.iconst 0, 1) := by decide +kernel
theorem dX12_keepAct_98 : decode cX12_keepAct 98 = .ok (.putfield 244, 3) := by decide +kernel
theorem dX12_keepAct_101 : decode cX12_keepAct 101 = .ok (.return_, 1) := by decide +kernel
theorem dX12_swapAll_0 : decode cX12_swapAll 0 = .ok (.iconst 0, 1) := by decide +kernel
theorem dX12_swapAll_1 : decode cX12_swapAll 1 = .ok (.istore_n 1, 1) := by decide +kernel
theorem dX12_swapAll_2 : decode cX12_swapAll 2 = .ok (.iload_n 1, 1) := by decide +kernel
theorem dX12_swapAll_3 : decode cX12_swapAll 3 = .ok (.sipush 9685, 3) := by decide +kernel
theorem dX12_swapAll_6 : decode cX12_swapAll 6 = .ok (.if_icmp .ge 53, 3) := by decide +kernel
theorem dX12_swapAll_9 : decode cX12_swapAll 9 = .ok (.aload_n 0, 1) := by decide +kernel
theorem dX12_swapAll_10 : decode cX12_swapAll 10 = .ok (.getfield 121, 3) := by decide +kernel
theorem dX12_swapAll_13 : decode cX12_swapAll 13 = .ok (.sipush 9685, 3) := by decide +kernel
theorem dX12_swapAll_16 : decode cX12_swapAll 16 = .ok (.aload_n 0, 1) := by decide +kernel
theorem dX12_swapAll_17 : decode cX12_swapAll 17 = .ok (.getfield 241, 3) := by decide +kernel
theorem dX12_swapAll_20 : decode cX12_swapAll 20 = .ok (.imul, 1) := by decide +kernel
theorem dX12_swapAll_21 : decode cX12_swapAll 21 = .ok (.iload_n 1, 1) := by decide +kernel
theorem dX12_swapAll_22 : decode cX12_swapAll 22 = .ok (.iadd, 1) := by decide +kernel
theorem dX12_swapAll_23 : decode cX12_swapAll 23 = .ok (.iaload, 1) := by decide +kernel
theorem dX12_swapAll_24 : decode cX12_swapAll 24 = .ok (.istore_n 2, 1) := by decide +kernel
theorem dX12_swapAll_25 : decode cX12_swapAll 25 = .ok (.aload_n 0, 1) := by decide +kernel
theorem dX12_swapAll_26 : decode cX12_swapAll 26 = .ok (.getfield 121, 3) := by decide +kernel
theorem dX12_swapAll_29 : decode cX12_swapAll 29 = .ok (.sipush 9685, 3) := by decide +kernel
theorem dX12_swapAll_32 : decode cX12_swapAll 32 = .ok (.aload_n 0, 1) := by decide +kernel
theorem dX12_swapAll_33 : decode cX12_swapAll 33 = .ok (.getfield 241, 3) := by decide +kernel
theorem dX12_swapAll_36 : decode cX12_swapAll 36 = .ok (.imul, 1) := by decide +kernel
theorem dX12_swapAll_37 : decode cX12_swapAll 37 = .ok (.iload_n 1, 1) := by decide +kernel
theorem dX12_swapAll_38 : decode cX12_swapAll 38 = .ok (.iadd, 1) := by decide +kernel
theorem dX12_swapAll_39 : decode cX12_swapAll 39 = .ok (.aload_n 0, 1) := by decide +kernel
theorem dX12_swapAll_40 : decode cX12_swapAll 40 = .ok (.getfield 7, 3) := by decide +kernel
theorem dX12_swapAll_43 : decode cX12_swapAll 43 = .ok (.iload_n 1, 1) := by decide +kernel
theorem dX12_swapAll_44 : decode cX12_swapAll 44 = .ok (.iaload, 1) := by decide +kernel
theorem dX12_swapAll_45 : decode cX12_swapAll 45 = .ok (.iastore, 1) := by decide +kernel
theorem dX12_swapAll_46 : decode cX12_swapAll 46 = .ok (.aload_n 0, 1) := by decide +kernel
theorem dX12_swapAll_47 : decode cX12_swapAll 47 = .ok (.getfield 7, 3) := by decide +kernel
theorem dX12_swapAll_50 : decode cX12_swapAll 50 = .ok (.iload_n 1, 1) := by decide +kernel
theorem dX12_swapAll_51 : decode cX12_swapAll 51 = .ok (.iload_n 2, 1) := by decide +kernel
theorem dX12_swapAll_52 : decode cX12_swapAll 52 = .ok (.iastore, 1) := by decide +kernel
theorem dX12_swapAll_53 : decode cX12_swapAll 53 = .ok (.iinc 1 1, 3) := by decide +kernel
theorem dX12_swapAll_56 : decode cX12_swapAll 56 = .ok (.goto (-54), 3) := by decide +kernel
theorem dX12_swapAll_59 : decode cX12_swapAll 59 = .ok (.return_, 1) := by decide +kernel
theorem dX12_undo_0 : decode cX12_undo 0 = .ok (.aload_n 0, 1) := by decide +kernel
theorem dX12_undo_1 : decode cX12_undo 1 = .ok (.getfield 241, 3) := by decide +kernel
theorem dX12_undo_4 : decode cX12_undo 4 = .ok (.ifCond .ne 5, 3) := by decide +kernel
theorem dX12_undo_7 : decode cX12_undo 7 = .ok (.iconst 0, 1) := by decide +kernel
theorem dX12_undo_8 : decode cX12_undo 8 = .ok (.ireturn, 1) := by decide +kernel
theorem dX12_undo_9 : decode cX12_undo 9 = .ok (.aload_n 0, 1) := by decide +kernel
theorem dX12_undo_10 : decode cX12_undo 10 = .ok (.dup, 1) := by decide +kernel
theorem dX12_undo_11 : decode cX12_undo 11 = .ok (.getfield 241, 3) := by decide +kernel
theorem dX12_undo_14 : decode cX12_undo 14 = .ok (.iconst 1, 1) := by decide +kernel
theorem dX12_undo_15 : decode cX12_undo 15 = .ok (.isub, 1) := by decide +kernel
theorem dX12_undo_16 : decode cX12_undo 16 = .ok (.putfield 241, 3) := by decide +kernel
theorem dX12_undo_19 : decode cX12_undo 19 = .ok (.aload_n 0, 1) := by decide +kernel
theorem dX12_undo_20 : decode cX12_undo 20 = .ok (.dup, 1) := by decide +kernel
theorem dX12_undo_21 : decode cX12_undo 21 = .ok (.getfield 244, 3) := by decide +kernel
theorem dX12_undo_24 : decode cX12_undo 24 = .ok (.iconst 1, 1) := by decide +kernel
theorem dX12_undo_25 : decode cX12_undo 25 = .ok (.iadd, 1) := by decide +kernel
theorem dX12_undo_26 : decode cX12_undo 26 = .ok (.putfield 244, 3) := by decide +kernel
theorem dX12_undo_29 : decode cX12_undo 29 = .ok (.aload_n 0, 1) := by decide +kernel
theorem dX12_undo_30 : decode cX12_undo 30 = .ok (.invokevirtual 487, 3) := by decide +kernel
theorem dX12_undo_33 : decode cX12_undo 33 = .ok (.iconst 1, 1) := by decide +kernel
theorem dX12_undo_34 : decode cX12_undo 34 = .ok (.ireturn, 1) := by decide +kernel
theorem dX12_redo_0 : decode cX12_redo 0 = .ok (.aload_n 0, 1) := by decide +kernel
theorem dX12_redo_1 : decode cX12_redo 1 = .ok (.getfield 244, 3) := by decide +kernel
theorem dX12_redo_4 : decode cX12_redo 4 = .ok (.ifCond .ne 5, 3) := by decide +kernel
theorem dX12_redo_7 : decode cX12_redo 7 = .ok (.iconst 0, 1) := by decide +kernel
theorem dX12_redo_8 : decode cX12_redo 8 = .ok (.ireturn, 1) := by decide +kernel
theorem dX12_redo_9 : decode cX12_redo 9 = .ok (.aload_n 0, 1) := by decide +kernel
theorem dX12_redo_10 : decode cX12_redo 10 = .ok (.invokevirtual 487, 3) := by decide +kernel
theorem dX12_redo_13 : decode cX12_redo 13 = .ok (.aload_n 0, 1) := by decide +kernel
theorem dX12_redo_14 : decode cX12_redo 14 = .ok (.dup, 1) := by decide +kernel
theorem dX12_redo_15 : decode cX12_redo 15 = .ok (.getfield 241, 3) := by decide +kernel
theorem dX12_redo_18 : decode cX12_redo 18 = .ok (.iconst 1, 1) := by decide +kernel
theorem dX12_redo_19 : decode cX12_redo 19 = .ok (.iadd, 1) := by decide +kernel
theorem dX12_redo_20 : decode cX12_redo 20 = .ok (.putfield 241, 3) := by decide +kernel
theorem dX12_redo_23 : decode cX12_redo 23 = .ok (.aload_n 0, 1) := by decide +kernel
theorem dX12_redo_24 : decode cX12_redo 24 = .ok (.dup, 1) := by decide +kernel
theorem dX12_redo_25 : decode cX12_redo 25 = .ok (.getfield 244, 3) := by decide +kernel
theorem dX12_redo_28 : decode cX12_redo 28 = .ok (.iconst 1, 1) := by decide +kernel
theorem dX12_redo_29 : decode cX12_redo 29 = .ok (.isub, 1) := by decide +kernel
theorem dX12_redo_30 : decode cX12_redo 30 = .ok (.putfield 244, 3) := by decide +kernel
theorem dX12_redo_33 : decode cX12_redo 33 = .ok (.iconst 1, 1) := by decide +kernel
theorem dX12_redo_34 : decode cX12_redo 34 = .ok (.ireturn, 1) := by decide +kernel
theorem dX12_image_0 : decode cX12_image 0 = .ok (.iload_n 1, 1) := by decide +kernel
theorem dX12_image_1 : decode cX12_image 1 = .ok (.iconst 0, 1) := by decide +kernel
theorem dX12_image_2 : decode cX12_image 2 = .ok (.iconst 1, 1) := by decide +kernel
theorem dX12_image_3 : decode cX12_image 3 = .ok (.invokestatic 225, 3) := by decide +kernel
theorem dX12_image_6 : decode cX12_image 6 = .ok (.ifCond .ne 5, 3) := by decide +kernel
theorem dX12_image_9 : decode cX12_image 9 = .ok (.iconst (-1), 1) := by decide +kernel
theorem dX12_image_10 : decode cX12_image 10 = .ok (.ireturn, 1) := by decide +kernel
theorem dX12_image_11 : decode cX12_image 11 = .ok (.iconst 0, 1) := by decide +kernel
theorem dX12_image_12 : decode cX12_image 12 = .ok (.istore_n 2, 1) := by decide +kernel
theorem dX12_image_13 : decode cX12_image 13 = .ok (.iload_n 2, 1) := by decide +kernel
theorem dX12_image_14 : decode cX12_image 14 = .ok (.sipush 9685, 3) := by decide +kernel
theorem dX12_image_17 : decode cX12_image 17 = .ok (.if_icmp .ge 27, 3) := by decide +kernel
theorem dX12_image_20 : decode cX12_image 20 = .ok (.aload_n 0, 1) := by decide +kernel
theorem dX12_image_21 : decode cX12_image 21 = .ok (.getfield 124, 3) := by decide +kernel
theorem dX12_image_24 : decode cX12_image 24 = .ok (.sipush 9685, 3) := by decide +kernel
theorem dX12_image_27 : decode cX12_image 27 = .ok (.iload_n 1, 1) := by decide +kernel
theorem dX12_image_28 : decode cX12_image 28 = .ok (.imul, 1) := by decide +kernel
theorem dX12_image_29 : decode cX12_image 29 = .ok (.iload_n 2, 1) := by decide +kernel
theorem dX12_image_30 : decode cX12_image 30 = .ok (.iadd, 1) := by decide +kernel
theorem dX12_image_31 : decode cX12_image 31 = .ok (.aload_n 0, 1) := by decide +kernel
theorem dX12_image_32 : decode cX12_image 32 = .ok (.getfield 7, 3) := by decide +kernel
theorem dX12_image_35 : decode cX12_image 35 = .ok (.iload_n 2, 1) := by decide +kernel
theorem dX12_image_36 : decode cX12_image 36 = .ok (.iaload, 1) := by decide +kernel
theorem dX12_image_37 : decode cX12_image 37 = .ok (.iastore, 1) := by decide +kernel
theorem dX12_image_38 : decode cX12_image 38 = .ok (.iinc 2 1, 3) := by decide +kernel
theorem dX12_image_41 : decode cX12_image 41 = .ok (.goto (-28), 3) := by decide +kernel
theorem dX12_image_44 : decode cX12_image 44 = .ok (.aload_n 0, 1) := by decide +kernel
theorem dX12_image_45 : decode cX12_image 45 = .ok (.getfield 127, 3) := by decide +kernel
theorem dX12_image_48 : decode cX12_image 48 = .ok (.iload_n 1, 1) := by decide +kernel
theorem dX12_image_49 : decode cX12_image 49 = .ok (.iconst 1, 1) := by decide +kernel
theorem dX12_image_50 : decode cX12_image 50 = .ok (.bastore, 1) := by decide +kernel
theorem dX12_image_51 : decode cX12_image 51 = .ok (.aload_n 0, 1) := by decide +kernel
theorem dX12_image_52 : decode cX12_image 52 = .ok (.getfield 7, 3) := by decide +kernel
theorem dX12_image_55 : decode cX12_image 55 = .ok (.sipush 272, 3) := by decide +kernel
theorem dX12_image_58 : decode cX12_image 58 = .ok (.iaload, 1) := by decide +kernel
theorem dX12_image_59 : decode cX12_image 59 = .ok (.ireturn, 1) := by decide +kernel
theorem dX12_back_0 : decode cX12_back 0 = .ok (.iload_n 1, 1) := by decide +kernel
theorem dX12_back_1 : decode cX12_back 1 = .ok (.iconst 0, 1) := by decide +kernel
theorem dX12_back_2 : decode cX12_back 2 = .ok (.iconst 1, 1) := by decide +kernel
theorem dX12_back_3 : decode cX12_back 3 = .ok (.invokestatic 225, 3) := by decide +kernel
theorem dX12_back_6 : decode cX12_back 6 = .ok (.ifCond .eq 12, 3) := by decide +kernel
theorem dX12_back_9 : decode cX12_back 9 = .ok (.aload_n 0, 1) := by decide +kernel
theorem dX12_back_10 : decode cX12_back 10 = .ok (.getfield 127, 3) := by decide +kernel
theorem dX12_back_13 : decode cX12_back 13 = .ok (.iload_n 1, 1) := by decide +kernel
theorem dX12_back_14 : decode cX12_back 14 = .ok (.baload, 1) := by decide +kernel
theorem dX12_back_15 : decode cX12_back 15 = .ok (.ifCond .ne 5, 3) := by decide +kernel
theorem dX12_back_18 : decode cX12_back 18 = .ok (.iconst (-1), 1) := by decide +kernel
theorem dX12_back_19 : decode cX12_back 19 = .ok (.ireturn, 1) := by decide +kernel
theorem dX12_back_20 : decode cX12_back 20 = .ok (.iconst 0, 1) := by decide +kernel
theorem dX12_back_21 : decode cX12_back 21 = .ok (.istore_n 2, 1) := by decide +kernel
theorem dX12_back_22 : decode cX12_back 22 = .ok (.iload_n 2, 1) := by decide +kernel
theorem dX12_back_23 : decode cX12_back 23 = .ok (.sipush 9685, 3) := by decide +kernel
theorem dX12_back_26 : decode cX12_back 26 = .ok (.if_icmp .ge 27, 3) := by decide +kernel
theorem dX12_back_29 : decode cX12_back 29 = .ok (.aload_n 0, 1) := by decide +kernel
theorem dX12_back_30 : decode cX12_back 30 = .ok (.getfield 7, 3) := by decide +kernel
theorem dX12_back_33 : decode cX12_back 33 = .ok (.iload_n 2, 1) := by decide +kernel
theorem dX12_back_34 : decode cX12_back 34 = .ok (.aload_n 0, 1) := by decide +kernel
theorem dX12_back_35 : decode cX12_back 35 = .ok (.getfield 124, 3) := by decide +kernel
theorem dX12_back_38 : decode cX12_back 38 = .ok (.sipush 9685, 3) := by decide +kernel
theorem dX12_back_41 : decode cX12_back 41 = .ok (.iload_n 1, 1) := by decide +kernel
theorem dX12_back_42 : decode cX12_back 42 = .ok (.imul, 1) := by decide +kernel
theorem dX12_back_43 : decode cX12_back 43 = .ok (.iload_n 2, 1) := by decide +kernel
theorem dX12_back_44 : decode cX12_back 44 = .ok (.iadd, 1) := by decide +kernel
theorem dX12_back_45 : decode cX12_back 45 = .ok (.iaload, 1) := by decide +kernel
theorem dX12_back_46 : decode cX12_back 46 = .ok (.iastore, 1) := by decide +kernel
theorem dX12_back_47 : decode cX12_back 47 = .ok (.iinc 2 1, 3) := by decide +kernel
theorem dX12_back_50 : decode cX12_back 50 = .ok (.goto (-28), 3) := by decide +kernel
theorem dX12_back_53 : decode cX12_back 53 = .ok (.aload_n 0, 1) := by decide +kernel
theorem dX12_back_54 : decode cX12_back 54 = .ok (.iconst 0, 1) := by decide +kernel
theorem dX12_back_55 : decode cX12_back 55 = .ok (.putfield 241, 3) := by decide +kernel
theorem dX12_back_58 : decode cX12_back 58 = .ok (.aload_n 0, 1) := by decide +kernel
theorem dX12_back_59 : decode cX12_back 59 = .ok (.iconst 0, 1) := by decide +kernel
theorem dX12_back_60 : decode cX12_back 60 = .ok (.putfield 244, 3) := by decide +kernel
theorem dX12_back_63 : decode cX12_back 63 = .ok (.aload_n 0, 1) := by decide +kernel
theorem dX12_back_64 : decode cX12_back 64 = .ok (.getfield 7, 3) := by decide +kernel
theorem dX12_back_67 : decode cX12_back 67 = .ok (.sipush 272, 3) := by decide +kernel
theorem dX12_back_70 : decode cX12_back 70 = .ok (.iaload, 1) := by decide +kernel
theorem dX12_back_71 : decode cX12_back 71 = .ok (.ireturn, 1) := by decide +kernel
theorem dX12_runsAll_0 : decode cX12_runsAll 0 = .ok (.iconst 0, 1) := by decide +kernel
theorem dX12_runsAll_1 : decode cX12_runsAll 1 = .ok (.istore_n 1, 1) := by decide +kernel
theorem dX12_runsAll_2 : decode cX12_runsAll 2 = .ok (.iconst 0, 1) := by decide +kernel
theorem dX12_runsAll_3 : decode cX12_runsAll 3 = .ok (.istore_n 2, 1) := by decide +kernel
theorem dX12_runsAll_4 : decode cX12_runsAll 4 = .ok (.iload_n 2, 1) := by decide +kernel
theorem dX12_runsAll_5 : decode cX12_runsAll 5 = .ok (.bipush 6, 2) := by decide +kernel
theorem dX12_runsAll_7 : decode cX12_runsAll 7 = .ok (.if_icmp .ge 22, 3) := by decide +kernel
theorem dX12_runsAll_10 : decode cX12_runsAll 10 = .ok (.iload_n 1, 1) := by decide +kernel
theorem dX12_runsAll_11 : decode cX12_runsAll 11 = .ok (.aload_n 0, 1) := by decide +kernel
theorem dX12_runsAll_12 : decode cX12_runsAll 12 = .ok (.getfield 7, 3) := by decide +kernel
theorem dX12_runsAll_15 : decode cX12_runsAll 15 = .ok (.sipush 1533, 3) := by decide +kernel
theorem dX12_runsAll_18 : decode cX12_runsAll 18 = .ok (.iload_n 2, 1) := by decide +kernel
theorem dX12_runsAll_19 : decode cX12_runsAll 19 = .ok (.iadd, 1) := by decide +kernel
theorem dX12_runsAll_20 : decode cX12_runsAll 20 = .ok (.iaload, 1) := by decide +kernel
theorem dX12_runsAll_21 : decode cX12_runsAll 21 = .ok (.iadd, 1) := by decide +kernel
theorem dX12_runsAll_22 : decode cX12_runsAll 22 = .ok (.istore_n 1, 1) := by decide +kernel
theorem dX12_runsAll_23 : decode cX12_runsAll 23 = .ok (.iinc 2 1, 3) := by decide +kernel
theorem dX12_runsAll_26 : decode cX12_runsAll 26 = .ok (.goto (-22), 3) := by decide +kernel
theorem dX12_runsAll_29 : decode cX12_runsAll 29 = .ok (.iload_n 1, 1) := by decide +kernel
theorem dX12_runsAll_30 : decode cX12_runsAll 30 = .ok (.ireturn, 1) := by decide +kernel
theorem dX12_about_0 : decode cX12_about 0 = .ok (.iload_n 1, 1) := by decide +kernel
theorem dX12_about_1 : decode cX12_about 1 = .ok (.tableswitch 141 0 10 #[59, 69, 79, 89, 94, 103, 112, 121, 126, 131, 136], 59) := by decide +kernel
theorem dX12_about_60 : decode cX12_about 60 = .ok (.aload_n 0, 1) := by decide +kernel
theorem dX12_about_61 : decode cX12_about 61 = .ok (.getfield 13, 3) := by decide +kernel
theorem dX12_about_64 : decode cX12_about 64 = .ok (.aload_n 0, 1) := by decide +kernel
theorem dX12_about_65 : decode cX12_about 65 = .ok (.getfield 229, 3) := by decide +kernel
theorem dX12_about_68 : decode cX12_about 68 = .ok (.iaload, 1) := by decide +kernel
theorem dX12_about_69 : decode cX12_about 69 = .ok (.ireturn, 1) := by decide +kernel
theorem dX12_about_70 : decode cX12_about 70 = .ok (.aload_n 0, 1) := by decide +kernel
theorem dX12_about_71 : decode cX12_about 71 = .ok (.getfield 16, 3) := by decide +kernel
theorem dX12_about_74 : decode cX12_about 74 = .ok (.aload_n 0, 1) := by decide +kernel
theorem dX12_about_75 : decode cX12_about 75 = .ok (.getfield 229, 3) := by decide +kernel
theorem dX12_about_78 : decode cX12_about 78 = .ok (.iaload, 1) := by decide +kernel
theorem dX12_about_79 : decode cX12_about 79 = .ok (.ireturn, 1) := by decide +kernel
theorem dX12_about_80 : decode cX12_about 80 = .ok (.aload_n 0, 1) := by decide +kernel
theorem dX12_about_81 : decode cX12_about 81 = .ok (.getfield 19, 3) := by decide +kernel
theorem dX12_about_84 : decode cX12_about 84 = .ok (.aload_n 0, 1) := by decide +kernel
theorem dX12_about_85 : decode cX12_about 85 = .ok (.getfield 229, 3) := by decide +kernel
theorem dX12_about_88 : decode cX12_about 88 = .ok (.iaload, 1) := by decide +kernel
theorem dX12_about_89 : decode cX12_about 89 = .ok (.ireturn, 1) := by decide +kernel
theorem dX12_about_90 : decode cX12_about 90 = .ok (.aload_n 0, 1) := by decide +kernel
theorem dX12_about_91 : decode cX12_about 91 = .ok (.invokevirtual 358, 3) := by decide +kernel
theorem dX12_about_94 : decode cX12_about 94 = .ok (.ireturn, 1) := by decide +kernel
theorem dX12_about_95 : decode cX12_about 95 = .ok (.aload_n 0, 1) := by decide +kernel
theorem dX12_about_96 : decode cX12_about 96 = .ok (.getfield 7, 3) := by decide +kernel
theorem dX12_about_99 : decode cX12_about 99 = .ok (.sipush 272, 3) := by decide +kernel
theorem dX12_about_102 : decode cX12_about 102 = .ok (.iaload, 1) := by decide +kernel
theorem dX12_about_103 : decode cX12_about 103 = .ok (.ireturn, 1) := by decide +kernel
theorem dX12_about_104 : decode cX12_about 104 = .ok (.aload_n 0, 1) := by decide +kernel
theorem dX12_about_105 : decode cX12_about 105 = .ok (.getfield 7, 3) := by decide +kernel
theorem dX12_about_108 : decode cX12_about 108 = .ok (.sipush 1539, 3) := by decide +kernel
theorem dX12_about_111 : decode cX12_about 111 = .ok (.iaload, 1) := by decide +kernel
theorem dX12_about_112 : decode cX12_about 112 = .ok (.ireturn, 1) := by decide +kernel
theorem dX12_about_113 : decode cX12_about 113 = .ok (.aload_n 0, 1) := by decide +kernel
theorem dX12_about_114 : decode cX12_about 114 = .ok (.getfield 7, 3) := by decide +kernel
theorem dX12_about_117 : decode cX12_about 117 = .ok (.sipush 1540, 3) := by decide +kernel
theorem dX12_about_120 : decode cX12_about 120 = .ok (.iaload, 1) := by decide +kernel
theorem dX12_about_121 : decode cX12_about 121 = .ok (.ireturn, 1) := by decide +kernel
theorem dX12_about_122 : decode cX12_about 122 = .ok (.aload_n 0, 1) := by decide +kernel
theorem dX12_about_123 : decode cX12_about 123 = .ok (.invokevirtual 490, 3) := by decide +kernel
theorem dX12_about_126 : decode cX12_about 126 = .ok (.ireturn, 1) := by decide +kernel
theorem dX12_about_127 : decode cX12_about 127 = .ok (.aload_n 0, 1) := by decide +kernel
theorem dX12_about_128 : decode cX12_about 128 = .ok (.getfield 241, 3) := by decide +kernel
theorem dX12_about_131 : decode cX12_about 131 = .ok (.ireturn, 1) := by decide +kernel
theorem dX12_about_132 : decode cX12_about 132 = .ok (.aload_n 0, 1) := by decide +kernel
theorem dX12_about_133 : decode cX12_about 133 = .ok (.getfield 244, 3) := by decide +kernel
theorem dX12_about_136 : decode cX12_about 136 = .ok (.ireturn, 1) := by decide +kernel
theorem dX12_about_137 : decode cX12_about 137 = .ok (.aload_n 0, 1) := by decide +kernel
theorem dX12_about_138 : decode cX12_about 138 = .ok (.getfield 138, 3) := by decide +kernel
theorem dX12_about_141 : decode cX12_about 141 = .ok (.ireturn, 1) := by decide +kernel
theorem dX12_about_142 : decode cX12_about 142 = .ok (.iconst (-1), 1) := by decide +kernel
theorem dX12_about_143 : decode cX12_about 143 = .ok (.ireturn, 1) := by decide +kernel
theorem dJ6_bitCount_0f7a4_0 : decode cJ6_bitCount_0f7a4 0 = .ok (.iload_n 0, 1) := by decide +kernel
theorem dJ6_bitCount_0f7a4_1 : decode cJ6_bitCount_0f7a4 1 = .ok (.iload_n 0, 1) := by decide +kernel
theorem dJ6_bitCount_0f7a4_2 : decode cJ6_bitCount_0f7a4 2 = .ok (.iconst 1, 1) := by decide +kernel
theorem dJ6_bitCount_0f7a4_3 : decode cJ6_bitCount_0f7a4 3 = .ok (.iushr, 1) := by decide +kernel
theorem dJ6_bitCount_0f7a4_4 : decode cJ6_bitCount_0f7a4 4 = .ok (.ldc_w 265, 3) := by decide +kernel
theorem dJ6_bitCount_0f7a4_7 : decode cJ6_bitCount_0f7a4 7 = .ok (.iand, 1) := by decide +kernel
theorem dJ6_bitCount_0f7a4_8 : decode cJ6_bitCount_0f7a4 8 = .ok (.isub, 1) := by decide +kernel
theorem dJ6_bitCount_0f7a4_9 : decode cJ6_bitCount_0f7a4 9 = .ok (.istore_n 0, 1) := by decide +kernel
theorem dJ6_bitCount_0f7a4_10 : decode cJ6_bitCount_0f7a4 10 = .ok (.iload_n 0, 1) := by decide +kernel
theorem dJ6_bitCount_0f7a4_11 : decode cJ6_bitCount_0f7a4 11 = .ok (.ldc_w 266, 3) := by decide +kernel
theorem dJ6_bitCount_0f7a4_14 : decode cJ6_bitCount_0f7a4 14 = .ok (.iand, 1) := by decide +kernel
theorem dJ6_bitCount_0f7a4_15 : decode cJ6_bitCount_0f7a4 15 = .ok (.iload_n 0, 1) := by decide +kernel
theorem dJ6_bitCount_0f7a4_16 : decode cJ6_bitCount_0f7a4 16 = .ok (.iconst 2, 1) := by decide +kernel
theorem dJ6_bitCount_0f7a4_17 : decode cJ6_bitCount_0f7a4 17 = .ok (.iushr, 1) := by decide +kernel
theorem dJ6_bitCount_0f7a4_18 : decode cJ6_bitCount_0f7a4 18 = .ok (.ldc_w 266, 3) := by decide +kernel
theorem dJ6_bitCount_0f7a4_21 : decode cJ6_bitCount_0f7a4 21 = .ok (.iand, 1) := by decide +kernel
theorem dJ6_bitCount_0f7a4_22 : decode cJ6_bitCount_0f7a4 22 = .ok (.iadd, 1) := by decide +kernel
theorem dJ6_bitCount_0f7a4_23 : decode cJ6_bitCount_0f7a4 23 = .ok (.istore_n 0, 1) := by decide +kernel
theorem dJ6_bitCount_0f7a4_24 : decode cJ6_bitCount_0f7a4 24 = .ok (.iload_n 0, 1) := by decide +kernel
theorem dJ6_bitCount_0f7a4_25 : decode cJ6_bitCount_0f7a4 25 = .ok (.iload_n 0, 1) := by decide +kernel
theorem dJ6_bitCount_0f7a4_26 : decode cJ6_bitCount_0f7a4 26 = .ok (.iconst 4, 1) := by decide +kernel
theorem dJ6_bitCount_0f7a4_27 : decode cJ6_bitCount_0f7a4 27 = .ok (.iushr, 1) := by decide +kernel
theorem dJ6_bitCount_0f7a4_28 : decode cJ6_bitCount_0f7a4 28 = .ok (.iadd, 1) := by decide +kernel
theorem dJ6_bitCount_0f7a4_29 : decode cJ6_bitCount_0f7a4 29 = .ok (.ldc_w 267, 3) := by decide +kernel
theorem dJ6_bitCount_0f7a4_32 : decode cJ6_bitCount_0f7a4 32 = .ok (.iand, 1) := by decide +kernel
theorem dJ6_bitCount_0f7a4_33 : decode cJ6_bitCount_0f7a4 33 = .ok (.istore_n 0, 1) := by decide +kernel
theorem dJ6_bitCount_0f7a4_34 : decode cJ6_bitCount_0f7a4 34 = .ok (.iload_n 0, 1) := by decide +kernel
theorem dJ6_bitCount_0f7a4_35 : decode cJ6_bitCount_0f7a4 35 = .ok (.iload_n 0, 1) := by decide +kernel
theorem dJ6_bitCount_0f7a4_36 : decode cJ6_bitCount_0f7a4 36 = .ok (.bipush 8, 2) := by decide +kernel
theorem dJ6_bitCount_0f7a4_38 : decode cJ6_bitCount_0f7a4 38 = .ok (.iushr, 1) := by decide +kernel
theorem dJ6_bitCount_0f7a4_39 : decode cJ6_bitCount_0f7a4 39 = .ok (.iadd, 1) := by decide +kernel
theorem dJ6_bitCount_0f7a4_40 : decode cJ6_bitCount_0f7a4 40 = .ok (.istore_n 0, 1) := by decide +kernel
theorem dJ6_bitCount_0f7a4_41 : decode cJ6_bitCount_0f7a4 41 = .ok (.iload_n 0, 1) := by decide +kernel
theorem dJ6_bitCount_0f7a4_42 : decode cJ6_bitCount_0f7a4 42 = .ok (.iload_n 0, 1) := by decide +kernel
theorem dJ6_bitCount_0f7a4_43 : decode cJ6_bitCount_0f7a4 43 = .ok (.bipush 16, 2) := by decide +kernel
theorem dJ6_bitCount_0f7a4_45 : decode cJ6_bitCount_0f7a4 45 = .ok (.iushr, 1) := by decide +kernel
theorem dJ6_bitCount_0f7a4_46 : decode cJ6_bitCount_0f7a4 46 = .ok (.iadd, 1) := by decide +kernel
theorem dJ6_bitCount_0f7a4_47 : decode cJ6_bitCount_0f7a4 47 = .ok (.istore_n 0, 1) := by decide +kernel
theorem dJ6_bitCount_0f7a4_48 : decode cJ6_bitCount_0f7a4 48 = .ok (.iload_n 0, 1) := by decide +kernel
theorem dJ6_bitCount_0f7a4_49 : decode cJ6_bitCount_0f7a4 49 = .ok (.bipush 63, 2) := by decide +kernel
theorem dJ6_bitCount_0f7a4_51 : decode cJ6_bitCount_0f7a4 51 = .ok (.iand, 1) := by decide +kernel
theorem dJ6_bitCount_0f7a4_52 : decode cJ6_bitCount_0f7a4 52 = .ok (.ireturn, 1) := by decide +kernel
theorem dJ9_max_7cf53_0 : decode cJ9_max_7cf53 0 = .ok (.iload_n 0, 1) := by decide +kernel
theorem dJ9_max_7cf53_1 : decode cJ9_max_7cf53 1 = .ok (.iload_n 1, 1) := by decide +kernel
theorem dJ9_max_7cf53_2 : decode cJ9_max_7cf53 2 = .ok (.if_icmp .lt 7, 3) := by decide +kernel
theorem dJ9_max_7cf53_5 : decode cJ9_max_7cf53 5 = .ok (.iload_n 0, 1) := by decide +kernel
theorem dJ9_max_7cf53_6 : decode cJ9_max_7cf53 6 = .ok (.goto 4, 3) := by decide +kernel
theorem dJ9_max_7cf53_9 : decode cJ9_max_7cf53 9 = .ok (.iload_n 1, 1) := by decide +kernel
theorem dJ9_max_7cf53_10 : decode cJ9_max_7cf53 10 = .ok (.ireturn, 1) := by decide +kernel
theorem dJ9_min_7cf53_0 : decode cJ9_min_7cf53 0 = .ok (.iload_n 0, 1) := by decide +kernel
theorem dJ9_min_7cf53_1 : decode cJ9_min_7cf53 1 = .ok (.iload_n 1, 1) := by decide +kernel
theorem dJ9_min_7cf53_2 : decode cJ9_min_7cf53 2 = .ok (.if_icmp .gt 7, 3) := by decide +kernel
theorem dJ9_min_7cf53_5 : decode cJ9_min_7cf53 5 = .ok (.iload_n 0, 1) := by decide +kernel
theorem dJ9_min_7cf53_6 : decode cJ9_min_7cf53 6 = .ok (.goto 4, 3) := by decide +kernel
theorem dJ9_min_7cf53_9 : decode cJ9_min_7cf53 9 = .ok (.iload_n 1, 1) := by decide +kernel
theorem dJ9_min_7cf53_10 : decode cJ9_min_7cf53 10 = .ok (.ireturn, 1) := by decide +kernel
theorem dJ0_length_8abf5_0 : decode cJ0_length_8abf5 0 = .ok (.aload_n 0, 1) := by decide +kernel
theorem dJ0_length_8abf5_1 : decode cJ0_length_8abf5 1 = .ok (.getfield 9, 3) := by decide +kernel
theorem dJ0_length_8abf5_4 : decode cJ0_length_8abf5 4 = .ok (.arraylength, 1) := by decide +kernel
theorem dJ0_length_8abf5_5 : decode cJ0_length_8abf5 5 = .ok (.aload_n 0, 1) := by decide +kernel
theorem dJ0_length_8abf5_6 : decode cJ0_length_8abf5 6 = .ok (.invokevirtual 335, 3) := by decide +kernel
theorem dJ0_length_8abf5_9 : decode cJ0_length_8abf5 9 = .ok (.ishr, 1) := by decide +kernel
theorem dJ0_length_8abf5_10 : decode cJ0_length_8abf5 10 = .ok (.ireturn, 1) := by decide +kernel
theorem dJ0_charAt_5068e_0 : decode cJ0_charAt_5068e 0 = .ok (.aload_n 0, 1) := by decide +kernel
theorem dJ0_charAt_5068e_1 : decode cJ0_charAt_5068e 1 = .ok (.invokevirtual 492, 3) := by decide +kernel
theorem dJ0_charAt_5068e_4 : decode cJ0_charAt_5068e 4 = .ok (.ifCond .eq 12, 3) := by decide +kernel
theorem dJ0_charAt_5068e_7 : decode cJ0_charAt_5068e 7 = .ok (.aload_n 0, 1) := by decide +kernel
theorem dJ0_charAt_5068e_8 : decode cJ0_charAt_5068e 8 = .ok (.getfield 9, 3) := by decide +kernel
theorem dJ0_charAt_5068e_11 : decode cJ0_charAt_5068e 11 = .ok (.iload_n 1, 1) := by decide +kernel
theorem dJ0_charAt_5068e_12 : decode cJ0_charAt_5068e 12 = .ok (.invokestatic 495, 3) := by decide +kernel
theorem dJ0_charAt_5068e_15 : decode cJ0_charAt_5068e 15 = .ok (.ireturn, 1) := by decide +kernel
theorem dJ0_charAt_5068e_16 : decode cJ0_charAt_5068e 16 = .ok (.aload_n 0, 1) := by decide +kernel
theorem dJ0_charAt_5068e_17 : decode cJ0_charAt_5068e 17 = .ok (.getfield 9, 3) := by decide +kernel
theorem dJ0_charAt_5068e_20 : decode cJ0_charAt_5068e 20 = .ok (.iload_n 1, 1) := by decide +kernel
theorem dJ0_charAt_5068e_21 : decode cJ0_charAt_5068e 21 = .ok (.invokestatic 498, 3) := by decide +kernel
theorem dJ0_charAt_5068e_24 : decode cJ0_charAt_5068e 24 = .ok (.ireturn, 1) := by decide +kernel
theorem dJ0_coder_7d493_0 : decode cJ0_coder_7d493 0 = .ok (.getstatic 38, 3) := by decide +kernel
theorem dJ0_coder_7d493_3 : decode cJ0_coder_7d493 3 = .ok (.ifCond .eq 10, 3) := by decide +kernel
theorem dJ0_coder_7d493_6 : decode cJ0_coder_7d493 6 = .ok (.aload_n 0, 1) := by decide +kernel
theorem dJ0_coder_7d493_7 : decode cJ0_coder_7d493 7 = .ok (.getfield 15, 3) := by decide +kernel
theorem dJ0_coder_7d493_10 : decode cJ0_coder_7d493 10 = .ok (.goto 4, 3) := by decide +kernel
theorem dJ0_coder_7d493_13 : decode cJ0_coder_7d493 13 = .ok (.iconst 1, 1) := by decide +kernel
theorem dJ0_coder_7d493_14 : decode cJ0_coder_7d493 14 = .ok (.ireturn, 1) := by decide +kernel
theorem dJ0_isLatin1_aae02_0 : decode cJ0_isLatin1_aae02 0 = .ok (.getstatic 38, 3) := by decide +kernel
theorem dJ0_isLatin1_aae02_3 : decode cJ0_isLatin1_aae02 3 = .ok (.ifCond .eq 14, 3) := by decide +kernel
theorem dJ0_isLatin1_aae02_6 : decode cJ0_isLatin1_aae02 6 = .ok (.aload_n 0, 1) := by decide +kernel
theorem dJ0_isLatin1_aae02_7 : decode cJ0_isLatin1_aae02 7 = .ok (.getfield 15, 3) := by decide +kernel
theorem dJ0_isLatin1_aae02_10 : decode cJ0_isLatin1_aae02 10 = .ok (.ifCond .ne 7, 3) := by decide +kernel
theorem dJ0_isLatin1_aae02_13 : decode cJ0_isLatin1_aae02 13 = .ok (.iconst 1, 1) := by decide +kernel
theorem dJ0_isLatin1_aae02_14 : decode cJ0_isLatin1_aae02 14 = .ok (.goto 4, 3) := by decide +kernel
