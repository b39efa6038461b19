theorem dX12_tuned_23 : decode cX12_tuned 23 = .ok (.iconst (-1), 1) := by decide +kernel
theorem dX12_tuned_24 : decode cX12_tuned 24 = .ok (.ireturn, 1) := by decide +kernel
theorem dX12_tuned_25 : decode cX12_tuned 25 = .ok (.iconst (-1), 1) := by decide +kernel
theorem dX12_tuned_26 : decode cX12_tuned 26 = .ok (.istore_n 3, 1) := by decide +kernel
theorem dX12_tuned_27 : decode cX12_tuned 27 = .ok (.iconst 0, 1) := by decide +kernel
theorem dX12_tuned_28 : decode cX12_tuned 28 = .ok (.istore 4, 2) := by decide +kernel
theorem dX12_tuned_30 : decode cX12_tuned 30 = .ok (.iconst 0, 1) := by decide +kernel
theorem dX12_tuned_31 : decode cX12_tuned 31 = .ok (.istore 5, 2) := by decide +kernel
theorem dX12_tuned_33 : decode cX12_tuned 33 = .ok (.iconst 0, 1) := by decide +kernel
theorem dX12_tuned_34 : decode cX12_tuned 34 = .ok (.istore 6, 2) := by decide +kernel
theorem dX12_tuned_36 : decode cX12_tuned 36 = .ok (.bipush 8, 2) := by decide +kernel
theorem dX12_tuned_38 : decode cX12_tuned 38 = .ok (.aload_n 0, 1) := by decide +kernel
theorem dX12_tuned_39 : decode cX12_tuned 39 = .ok (.getfield 17, 3) := by decide +kernel
theorem dX12_tuned_42 : decode cX12_tuned 42 = .ok (.iconst 0, 1) := by decide +kernel
theorem dX12_tuned_43 : decode cX12_tuned 43 = .ok (.iaload, 1) := by decide +kernel
theorem dX12_tuned_44 : decode cX12_tuned 44 = .ok (.bipush 6, 2) := by decide +kernel
theorem dX12_tuned_46 : decode cX12_tuned 46 = .ok (.isub, 1) := by decide +kernel
theorem dX12_tuned_47 : decode cX12_tuned 47 = .ok (.invokestatic 233, 3) := by decide +kernel
theorem dX12_tuned_50 : decode cX12_tuned 50 = .ok (.istore 7, 2) := by decide +kernel
theorem dX12_tuned_52 : decode cX12_tuned 52 = .ok (.iload 7, 2) := by decide +kernel
theorem dX12_tuned_54 : decode cX12_tuned 54 = .ok (.bipush 60, 2) := by decide +kernel
theorem dX12_tuned_56 : decode cX12_tuned 56 = .ok (.aload_n 0, 1) := by decide +kernel
theorem dX12_tuned_57 : decode cX12_tuned 57 = .ok (.getfield 17, 3) := by decide +kernel
theorem dX12_tuned_60 : decode cX12_tuned 60 = .ok (.iconst 0, 1) := by decide +kernel
theorem dX12_tuned_61 : decode cX12_tuned 61 = .ok (.iaload, 1) := by decide +kernel
theorem dX12_tuned_62 : decode cX12_tuned 62 = .ok (.bipush 6, 2) := by decide +kernel
theorem dX12_tuned_64 : decode cX12_tuned 64 = .ok (.iadd, 1) := by decide +kernel
theorem dX12_tuned_65 : decode cX12_tuned 65 = .ok (.invokestatic 236, 3) := by decide +kernel
theorem dX12_tuned_68 : decode cX12_tuned 68 = .ok (.if_icmp .gt 129, 3) := by decide +kernel
theorem dX12_tuned_71 : decode cX12_tuned 71 = .ok (.iconst 0, 1) := by decide +kernel
theorem dX12_tuned_72 : decode cX12_tuned 72 = .ok (.istore 8, 2) := by decide +kernel
theorem dX12_tuned_74 : decode cX12_tuned 74 = .ok (.iload 8, 2) := by decide +kernel
theorem dX12_tuned_76 : decode cX12_tuned 76 = .ok (.bipush 8, 2) := by decide +kernel
theorem dX12_tuned_78 : decode cX12_tuned 78 = .ok (.if_icmp .gt 113, 3) := by decide +kernel
theorem dX12_tuned_81 : decode cX12_tuned 81 = .ok (.aload_n 0, 1) := by decide +kernel
theorem dX12_tuned_82 : decode cX12_tuned 82 = .ok (.iload_n 1, 1) := by decide +kernel
theorem dX12_tuned_83 : decode cX12_tuned 83 = .ok (.iload 7, 2) := by decide +kernel
theorem dX12_tuned_85 : decode cX12_tuned 85 = .ok (.iload 8, 2) := by decide +kernel
theorem dX12_tuned_87 : decode cX12_tuned 87 = .ok (.invokevirtual 224, 3) := by decide +kernel
theorem dX12_tuned_90 : decode cX12_tuned 90 = .ok (.iconst 0, 1) := by decide +kernel
theorem dX12_tuned_91 : decode cX12_tuned 91 = .ok (.istore 9, 2) := by decide +kernel
theorem dX12_tuned_93 : decode cX12_tuned 93 = .ok (.iconst 0, 1) := by decide +kernel
theorem dX12_tuned_94 : decode cX12_tuned 94 = .ok (.istore 10, 2) := by decide +kernel
theorem dX12_tuned_96 : decode cX12_tuned 96 = .ok (.iconst 0, 1) := by decide +kernel
theorem dX12_tuned_97 : decode cX12_tuned 97 = .ok (.istore 11, 2) := by decide +kernel
theorem dX12_tuned_99 : decode cX12_tuned 99 = .ok (.iload 11, 2) := by decide +kernel
theorem dX12_tuned_101 : decode cX12_tuned 101 = .ok (.aload_n 0, 1) := by decide +kernel
theorem dX12_tuned_102 : decode cX12_tuned 102 = .ok (.getfield 201, 3) := by decide +kernel
theorem dX12_tuned_105 : decode cX12_tuned 105 = .ok (.if_icmp .ge 36, 3) := by decide +kernel
theorem dX12_tuned_108 : decode cX12_tuned 108 = .ok (.aload_n 0, 1) := by decide +kernel
theorem dX12_tuned_109 : decode cX12_tuned 109 = .ok (.iload 11, 2) := by decide +kernel
theorem dX12_tuned_111 : decode cX12_tuned 111 = .ok (.invokevirtual 239, 3) := by decide +kernel
theorem dX12_tuned_114 : decode cX12_tuned 114 = .ok (.ifCond .ne 6, 3) := by decide +kernel
theorem dX12_tuned_117 : decode cX12_tuned 117 = .ok (.goto 18, 3) := by decide +kernel
theorem dX12_tuned_120 : decode cX12_tuned 120 = .ok (.iinc 9 1, 3) := by decide +kernel
theorem dX12_tuned_123 : decode cX12_tuned 123 = .ok (.iload 10, 2) := by decide +kernel
theorem dX12_tuned_125 : decode cX12_tuned 125 = .ok (.aload_n 0, 1) := by decide +kernel
theorem dX12_tuned_126 : decode cX12_tuned 126 = .ok (.getfield 51, 3) := by decide +kernel
theorem dX12_tuned_129 : decode cX12_tuned 129 = .ok (.iload 11, 2) := by decide +kernel
theorem dX12_tuned_131 : decode cX12_tuned 131 = .ok (.iaload, 1) := by decide +kernel
theorem dX12_tuned_132 : decode cX12_tuned 132 = .ok (.iadd, 1) := by decide +kernel
theorem dX12_tuned_133 : decode cX12_tuned 133 = .ok (.istore 10, 2) := by decide +kernel
theorem dX12_tuned_135 : decode cX12_tuned 135 = .ok (.iinc 11 1, 3) := by decide +kernel
theorem dX12_tuned_138 : decode cX12_tuned 138 = .ok (.goto (-39), 3) := by decide +kernel
theorem dX12_tuned_141 : decode cX12_tuned 141 = .ok (.iload_n 3, 1) := by decide +kernel
theorem dX12_tuned_142 : decode cX12_tuned 142 = .ok (.iconst (-1), 1) := by decide +kernel
theorem dX12_tuned_143 : decode cX12_tuned 143 = .ok (.if_icmp .eq 27, 3) := by decide +kernel
theorem dX12_tuned_146 : decode cX12_tuned 146 = .ok (.iload 9, 2) := by decide +kernel
theorem dX12_tuned_148 : decode cX12_tuned 148 = .ok (.iload 5, 2) := by decide +kernel
theorem dX12_tuned_150 : decode cX12_tuned 150 = .ok (.if_icmp .lt 35, 3) := by decide +kernel
theorem dX12_tuned_153 : decode cX12_tuned 153 = .ok (.iload 9, 2) := by decide +kernel
theorem dX12_tuned_155 : decode cX12_tuned 155 = .ok (.iload 5, 2) := by decide +kernel
theorem dX12_tuned_157 : decode cX12_tuned 157 = .ok (.if_icmp .ne 13, 3) := by decide +kernel
theorem dX12_tuned_160 : decode cX12_tuned 160 = .ok (.iload 10, 2) := by decide +kernel
theorem dX12_tuned_162 : decode cX12_tuned 162 = .ok (.iload 6, 2) := by decide +kernel
theorem dX12_tuned_164 : decode cX12_tuned 164 = .ok (.if_icmp .lt 6, 3) := by decide +kernel
theorem dX12_tuned_167 : decode cX12_tuned 167 = .ok (.goto 18, 3) := by decide +kernel
theorem dX12_tuned_170 : decode cX12_tuned 170 = .ok (.iload 7, 2) := by decide +kernel
theorem dX12_tuned_172 : decode cX12_tuned 172 = .ok (.istore_n 3, 1) := by decide +kernel
theorem dX12_tuned_173 : decode cX12_tuned 173 = .ok (.iload 8, 2) := by decide +kernel
theorem dX12_tuned_175 : decode cX12_tuned 175 = .ok (.istore 4, 2) := by decide +kernel
theorem dX12_tuned_177 : decode cX12_tuned 177 = .ok (.iload 9, 2) := by decide +kernel
theorem dX12_tuned_179 : decode cX12_tuned 179 = .ok (.istore 5, 2) := by decide +kernel
theorem dX12_tuned_181 : decode cX12_tuned 181 = .ok (.iload 10, 2) := by decide +kernel
theorem dX12_tuned_183 : decode cX12_tuned 183 = .ok (.istore 6, 2) := by decide +kernel
theorem dX12_tuned_185 : decode cX12_tuned 185 = .ok (.iinc 8 1, 3) := by decide +kernel
theorem dX12_tuned_188 : decode cX12_tuned 188 = .ok (.goto (-114), 3) := by decide +kernel
theorem dX12_tuned_191 : decode cX12_tuned 191 = .ok (.iinc 7 1, 3) := by decide +kernel
theorem dX12_tuned_194 : decode cX12_tuned 194 = .ok (.goto (-142), 3) := by decide +kernel
theorem dX12_tuned_197 : decode cX12_tuned 197 = .ok (.iload_n 2, 1) := by decide +kernel
theorem dX12_tuned_198 : decode cX12_tuned 198 = .ok (.ifCond .ne 7, 3) := by decide +kernel
theorem dX12_tuned_201 : decode cX12_tuned 201 = .ok (.iload_n 3, 1) := by decide +kernel
theorem dX12_tuned_202 : decode cX12_tuned 202 = .ok (.goto 25, 3) := by decide +kernel
theorem dX12_tuned_205 : decode cX12_tuned 205 = .ok (.iload_n 2, 1) := by decide +kernel
theorem dX12_tuned_206 : decode cX12_tuned 206 = .ok (.iconst 1, 1) := by decide +kernel
theorem dX12_tuned_207 : decode cX12_tuned 207 = .ok (.if_icmp .ne 8, 3) := by decide +kernel
theorem dX12_tuned_210 : decode cX12_tuned 210 = .ok (.iload 4, 2) := by decide +kernel
theorem dX12_tuned_212 : decode cX12_tuned 212 = .ok (.goto 15, 3) := by decide +kernel
theorem dX12_tuned_215 : decode cX12_tuned 215 = .ok (.iload_n 2, 1) := by decide +kernel
theorem dX12_tuned_216 : decode cX12_tuned 216 = .ok (.iconst 2, 1) := by decide +kernel
theorem dX12_tuned_217 : decode cX12_tuned 217 = .ok (.if_icmp .ne 8, 3) := by decide +kernel
theorem dX12_tuned_220 : decode cX12_tuned 220 = .ok (.iload 5, 2) := by decide +kernel
theorem dX12_tuned_222 : decode cX12_tuned 222 = .ok (.goto 5, 3) := by decide +kernel
theorem dX12_tuned_225 : decode cX12_tuned 225 = .ok (.iload 6, 2) := by decide +kernel
theorem dX12_tuned_227 : decode cX12_tuned 227 = .ok (.ireturn, 1) := by decide +kernel
theorem dX12_gathers_0 : decode cX12_gathers 0 = .ok (.aload_n 0, 1) := by decide +kernel
theorem dX12_gathers_1 : decode cX12_gathers 1 = .ok (.iconst 0, 1) := by decide +kernel
theorem dX12_gathers_2 : decode cX12_gathers 2 = .ok (.putfield 242, 3) := by decide +kernel
theorem dX12_gathers_5 : decode cX12_gathers 5 = .ok (.iconst 0, 1) := by decide +kernel
theorem dX12_gathers_6 : decode cX12_gathers 6 = .ok (.istore_n 3, 1) := by decide +kernel
theorem dX12_gathers_7 : decode cX12_gathers 7 = .ok (.iload_n 3, 1) := by decide +kernel
theorem dX12_gathers_8 : decode cX12_gathers 8 = .ok (.aload_n 0, 1) := by decide +kernel
theorem dX12_gathers_9 : decode cX12_gathers 9 = .ok (.getfield 175, 3) := by decide +kernel
theorem dX12_gathers_12 : decode cX12_gathers 12 = .ok (.if_icmp .ge 138, 3) := by decide +kernel
theorem dX12_gathers_15 : decode cX12_gathers 15 = .ok (.aload_n 0, 1) := by decide +kernel
theorem dX12_gathers_16 : decode cX12_gathers 16 = .ok (.iload_n 3, 1) := by decide +kernel
theorem dX12_gathers_17 : decode cX12_gathers 17 = .ok (.aload_n 0, 1) := by decide +kernel
theorem dX12_gathers_18 : decode cX12_gathers 18 = .ok (.getfield 17, 3) := by decide +kernel
theorem dX12_gathers_21 : decode cX12_gathers 21 = .ok (.iconst 0, 1) := by decide +kernel
theorem dX12_gathers_22 : decode cX12_gathers 22 = .ok (.iaload, 1) := by decide +kernel
theorem dX12_gathers_23 : decode cX12_gathers 23 = .ok (.aload_n 0, 1) := by decide +kernel
theorem dX12_gathers_24 : decode cX12_gathers 24 = .ok (.getfield 17, 3) := by decide +kernel
theorem dX12_gathers_27 : decode cX12_gathers 27 = .ok (.iconst 1, 1) := by decide +kernel
theorem dX12_gathers_28 : decode cX12_gathers 28 = .ok (.iaload, 1) := by decide +kernel
theorem dX12_gathers_29 : decode cX12_gathers 29 = .ok (.invokevirtual 224, 3) := by decide +kernel
theorem dX12_gathers_32 : decode cX12_gathers 32 = .ok (.iconst 0, 1) := by decide +kernel
theorem dX12_gathers_33 : decode cX12_gathers 33 = .ok (.istore 4, 2) := by decide +kernel
theorem dX12_gathers_35 : decode cX12_gathers 35 = .ok (.iload 4, 2) := by decide +kernel
theorem dX12_gathers_37 : decode cX12_gathers 37 = .ok (.aload_n 0, 1) := by decide +kernel
theorem dX12_gathers_38 : decode cX12_gathers 38 = .ok (.getfield 201, 3) := by decide +kernel
theorem dX12_gathers_41 : decode cX12_gathers 41 = .ok (.if_icmp .ge 103, 3) := by decide +kernel
theorem dX12_gathers_44 : decode cX12_gathers 44 = .ok (.aload_n 0, 1) := by decide +kernel
theorem dX12_gathers_45 : decode cX12_gathers 45 = .ok (.iload 4, 2) := by decide +kernel
theorem dX12_gathers_47 : decode cX12_gathers 47 = .ok (.invokevirtual 227, 3) := by decide +kernel
theorem dX12_gathers_50 : decode cX12_gathers 50 = .ok (.iload_n 1, 1) := by decide +kernel
theorem dX12_gathers_51 : decode cX12_gathers 51 = .ok (.if_icmp .ne 87, 3) := by decide +kernel
theorem dX12_gathers_54 : decode cX12_gathers 54 = .ok (.aload_n 0, 1) := by decide +kernel
theorem dX12_gathers_55 : decode cX12_gathers 55 = .ok (.iload 4, 2) := by decide +kernel
theorem dX12_gathers_57 : decode cX12_gathers 57 = .ok (.invokevirtual 230, 3) := by decide +kernel
theorem dX12_gathers_60 : decode cX12_gathers 60 = .ok (.iload_n 2, 1) := by decide +kernel
theorem dX12_gathers_61 : decode cX12_gathers 61 = .ok (.if_icmp .eq 6, 3) := by decide +kernel
theorem dX12_gathers_64 : decode cX12_gathers 64 = .ok (.goto 74, 3) := by decide +kernel
theorem dX12_gathers_67 : decode cX12_gathers 67 = .ok (.iconst 0, 1) := by decide +kernel
theorem dX12_gathers_68 : decode cX12_gathers 68 = .ok (.istore 5, 2) := by decide +kernel
theorem dX12_gathers_70 : decode cX12_gathers 70 = .ok (.iload 5, 2) := by decide +kernel
theorem dX12_gathers_72 : decode cX12_gathers 72 = .ok (.aload_n 0, 1) := by decide +kernel
theorem dX12_gathers_73 : decode cX12_gathers 73 = .ok (.invokevirtual 204, 3) := by decide +kernel
theorem dX12_gathers_76 : decode cX12_gathers 76 = .ok (.if_icmp .ge 37, 3) := by decide +kernel
theorem dX12_gathers_79 : decode cX12_gathers 79 = .ok (.aload_n 0, 1) := by decide +kernel
theorem dX12_gathers_80 : decode cX12_gathers 80 = .ok (.getfield 57, 3) := by decide +kernel
theorem dX12_gathers_83 : decode cX12_gathers 83 = .ok (.bipush 12, 2) := by decide +kernel
theorem dX12_gathers_85 : decode cX12_gathers 85 = .ok (.aload_n 0, 1) := by decide +kernel
theorem dX12_gathers_86 : decode cX12_gathers 86 = .ok (.getfield 242, 3) := by decide +kernel
theorem dX12_gathers_89 : decode cX12_gathers 89 = .ok (.imul, 1) := by decide +kernel
theorem dX12_gathers_90 : decode cX12_gathers 90 = .ok (.iload 5, 2) := by decide +kernel
theorem dX12_gathers_92 : decode cX12_gathers 92 = .ok (.iadd, 1) := by decide +kernel
theorem dX12_gathers_93 : decode cX12_gathers 93 = .ok (.aload_n 0, 1) := by decide +kernel
theorem dX12_gathers_94 : decode cX12_gathers 94 = .ok (.getfield 48, 3) := by decide +kernel
theorem dX12_gathers_97 : decode cX12_gathers 97 = .ok (.bipush 12, 2) := by decide +kernel
theorem dX12_gathers_99 : decode cX12_gathers 99 = .ok (.iload 4, 2) := by decide +kernel
theorem dX12_gathers_101 : decode cX12_gathers 101 = .ok (.imul, 1) := by decide +kernel
theorem dX12_gathers_102 : decode cX12_gathers 102 = .ok (.iload 5, 2) := by decide +kernel
theorem dX12_gathers_104 : decode cX12_gathers 104 = .ok (.iadd, 1) := by decide +kernel
theorem dX12_gathers_105 : decode cX12_gathers 105 = .ok (.iaload, 1) := by decide +kernel
theorem dX12_gathers_106 : decode cX12_gathers 106 = .ok (.iastore, 1) := by decide +kernel
theorem dX12_gathers_107 : decode cX12_gathers 107 = .ok (.iinc 5 1, 3) := by decide +kernel
theorem dX12_gathers_110 : decode cX12_gathers 110 = .ok (.goto (-40), 3) := by decide +kernel
theorem dX12_gathers_113 : decode cX12_gathers 113 = .ok (.aload_n 0, 1) := by decide +kernel
theorem dX12_gathers_114 : decode cX12_gathers 114 = .ok (.getfield 60, 3) := by decide +kernel
theorem dX12_gathers_117 : decode cX12_gathers 117 = .ok (.aload_n 0, 1) := by decide +kernel
theorem dX12_gathers_118 : decode cX12_gathers 118 = .ok (.getfield 242, 3) := by decide +kernel
theorem dX12_gathers_121 : decode cX12_gathers 121 = .ok (.aload_n 0, 1) := by decide +kernel
theorem dX12_gathers_122 : decode cX12_gathers 122 = .ok (.iload 4, 2) := by decide +kernel
theorem dX12_gathers_124 : decode cX12_gathers 124 = .ok (.invokevirtual 239, 3) := by decide +kernel
theorem dX12_gathers_127 : decode cX12_gathers 127 = .ok (.bastore, 1) := by decide +kernel
theorem dX12_gathers_128 : decode cX12_gathers 128 = .ok (.aload_n 0, 1) := by decide +kernel
theorem dX12_gathers_129 : decode cX12_gathers 129 = .ok (.dup, 1) := by decide +kernel
theorem dX12_gathers_130 : decode cX12_gathers 130 = .ok (.getfield 242, 3) := by decide +kernel
theorem dX12_gathers_133 : decode cX12_gathers 133 = .ok (.iconst 1, 1) := by decide +kernel
theorem dX12_gathers_134 : decode cX12_gathers 134 = .ok (.iadd, 1) := by decide +kernel
theorem dX12_gathers_135 : decode cX12_gathers 135 = .ok (.putfield 242, 3) := by decide +kernel
theorem dX12_gathers_138 : decode cX12_gathers 138 = .ok (.iinc 4 1, 3) := by decide +kernel
theorem dX12_gathers_141 : decode cX12_gathers 141 = .ok (.goto (-106), 3) := by decide +kernel
theorem dX12_gathers_144 : decode cX12_gathers 144 = .ok (.iinc 3 1, 3) := by decide +kernel
theorem dX12_gathers_147 : decode cX12_gathers 147 = .ok (.goto (-140), 3) := by decide +kernel
theorem dX12_gathers_150 : decode cX12_gathers 150 = .ok (.return_, 1) := by decide +kernel
theorem dX12_isAhead_0 : decode cX12_isAhead 0 = .ok (.iconst 0, 1) := by decide +kernel
theorem dX12_isAhead_1 : decode cX12_isAhead 1 = .ok (.istore_n 3, 1) := by decide +kernel
theorem dX12_isAhead_2 : decode cX12_isAhead 2 = .ok (.iload_n 3, 1) := by decide +kernel
theorem dX12_isAhead_3 : decode cX12_isAhead 3 = .ok (.iload_n 2, 1) := by decide +kernel
theorem dX12_isAhead_4 : decode cX12_isAhead 4 = .ok (.if_icmp .ge 36, 3) := by decide +kernel
theorem dX12_isAhead_7 : decode cX12_isAhead 7 = .ok (.aload_n 0, 1) := by decide +kernel
theorem dX12_isAhead_8 : decode cX12_isAhead 8 = .ok (.getfield 57, 3) := by decide +kernel
theorem dX12_isAhead_11 : decode cX12_isAhead 11 = .ok (.bipush 12, 2) := by decide +kernel
theorem dX12_isAhead_13 : decode cX12_isAhead 13 = .ok (.iload_n 3, 1) := by decide +kernel
theorem dX12_isAhead_14 : decode cX12_isAhead 14 = .ok (.imul, 1) := by decide +kernel
theorem dX12_isAhead_15 : decode cX12_isAhead 15 = .ok (.iload_n 1, 1) := by decide +kernel
theorem dX12_isAhead_16 : decode cX12_isAhead 16 = .ok (.iadd, 1) := by decide +kernel
theorem dX12_isAhead_17 : decode cX12_isAhead 17 = .ok (.iaload, 1) := by decide +kernel
theorem dX12_isAhead_18 : decode cX12_isAhead 18 = .ok (.aload_n 0, 1) := by decide +kernel
theorem dX12_isAhead_19 : decode cX12_isAhead 19 = .ok (.getfield 57, 3) := by decide +kernel
theorem dX12_isAhead_22 : decode cX12_isAhead 22 = .ok (.bipush 12, 2) := by decide +kernel
theorem dX12_isAhead_24 : decode cX12_isAhead 24 = .ok (.iload_n 2, 1) := by decide +kernel
theorem dX12_isAhead_25 : decode cX12_isAhead 25 = .ok (.imul, 1) := by decide +kernel
theorem dX12_isAhead_26 : decode cX12_isAhead 26 = .ok (.iload_n 1, 1) := by decide +kernel
theorem dX12_isAhead_27 : decode cX12_isAhead 27 = .ok (.iadd, 1) := by decide +kernel
theorem dX12_isAhead_28 : decode cX12_isAhead 28 = .ok (.iaload, 1) := by decide +kernel
theorem dX12_isAhead_29 : decode cX12_isAhead 29 = .ok (.if_icmp .ne 5, 3) := by decide +kernel
theorem dX12_isAhead_32 : decode cX12_isAhead 32 = .ok (.iconst 1, 1) := by decide +kernel
theorem dX12_isAhead_33 : decode cX12_isAhead 33 = .ok (.ireturn, 1) := by decide +kernel
theorem dX12_isAhead_34 : decode cX12_isAhead 34 = .ok (.iinc 3 1, 3) := by decide +kernel
theorem dX12_isAhead_37 : decode cX12_isAhead 37 = .ok (.goto (-35), 3) := by decide +kernel
theorem dX12_isAhead_40 : decode cX12_isAhead 40 = .ok (.iconst 0, 1) := by decide +kernel
theorem dX12_isAhead_41 : decode cX12_isAhead 41 = .ok (.ireturn, 1) := by decide +kernel
theorem dX12_mends_0 : decode cX12_mends 0 = .ok (.iconst 1, 1) := by decide +kernel
theorem dX12_mends_1 : decode cX12_mends 1 = .ok (.istore_n 1, 1) := by decide +kernel
theorem dX12_mends_2 : decode cX12_mends 2 = .ok (.iconst 0, 1) := by decide +kernel
theorem dX12_mends_3 : decode cX12_mends 3 = .ok (.istore_n 2, 1) := by decide +kernel
theorem dX12_mends_4 : decode cX12_mends 4 = .ok (.iload_n 2, 1) := by decide +kernel
theorem dX12_mends_5 : decode cX12_mends 5 = .ok (.aload_n 0, 1) := by decide +kernel
theorem dX12_mends_6 : decode cX12_mends 6 = .ok (.invokevirtual 204, 3) := by decide +kernel
theorem dX12_mends_9 : decode cX12_mends 9 = .ok (.if_icmp .ge 101, 3) := by decide +kernel
theorem dX12_mends_12 : decode cX12_mends 12 = .ok (.aload_n 0, 1) := by decide +kernel
theorem dX12_mends_13 : decode cX12_mends 13 = .ok (.getfield 69, 3) := by decide +kernel
theorem dX12_mends_16 : decode cX12_mends 16 = .ok (.iload_n 2, 1) := by decide +kernel
theorem dX12_mends_17 : decode cX12_mends 17 = .ok (.iconst 0, 1) := by decide +kernel
theorem dX12_mends_18 : decode cX12_mends 18 = .ok (.iastore, 1) := by decide +kernel
theorem dX12_mends_19 : decode cX12_mends 19 = .ok (.iconst 0, 1) := by decide +kernel
theorem dX12_mends_20 : decode cX12_mends 20 = .ok (.istore_n 3, 1) := by decide +kernel
theorem dX12_mends_21 : decode cX12_mends 21 = .ok (.iload_n 3, 1) := by decide +kernel
theorem dX12_mends_22 : decode cX12_mends 22 = .ok (.aload_n 0, 1) := by decide +kernel
theorem dX12_mends_23 : decode cX12_mends 23 = .ok (.getfield 242, 3) := by decide +kernel
theorem dX12_mends_26 : decode cX12_mends 26 = .ok (.if_icmp .ge 58, 3) := by decide +kernel
theorem dX12_mends_29 : decode cX12_mends 29 = .ok (.aload_n 0, 1) := by decide +kernel
theorem dX12_mends_30 : decode cX12_mends 30 = .ok (.iload_n 2, 1) := by decide +kernel
theorem dX12_mends_31 : decode cX12_mends 31 = .ok (.iload_n 3, 1) := by decide +kernel
theorem dX12_mends_32 : decode cX12_mends 32 = .ok (.invokevirtual 245, 3) := by decide +kernel
theorem dX12_mends_35 : decode cX12_mends 35 = .ok (.ifCond .eq 6, 3) := by decide +kernel
theorem dX12_mends_38 : decode cX12_mends 38 = .ok (.goto 40, 3) := by decide +kernel
theorem dX12_mends_41 : decode cX12_mends 41 = .ok (.aload_n 0, 1) := by decide +kernel
theorem dX12_mends_42 : decode cX12_mends 42 = .ok (.getfield 66, 3) := by decide +kernel
theorem dX12_mends_45 : decode cX12_mends 45 = .ok (.bipush 80, 2) := by decide +kernel
theorem dX12_mends_47 : decode cX12_mends 47 = .ok (.iload_n 2, 1) := by decide +kernel
theorem dX12_mends_48 : decode cX12_mends 48 = .ok (.imul, 1) := by decide +kernel
theorem dX12_mends_49 : decode cX12_mends 49 = .ok (.aload_n 0, 1) := by decide +kernel
theorem dX12_mends_50 : decode cX12_mends 50 = .ok (.getfield 69, 3) := by decide +kernel
theorem dX12_mends_53 : decode cX12_mends 53 = .ok (.iload_n 2, 1) := by decide +kernel
theorem dX12_mends_54 : decode cX12_mends 54 = .ok (.iaload, 1) := by decide +kernel
theorem dX12_mends_55 : decode cX12_mends 55 = .ok (.iadd, 1) := by decide +kernel
theorem dX12_mends_56 : decode cX12_mends 56 = .ok (.aload_n 0, 1) := by decide +kernel
theorem dX12_mends_57 : decode cX12_mends 57 = .ok (.getfield 57, 3) := by decide +kernel
theorem dX12_mends_60 : decode cX12_mends 60 = .ok (.bipush 12, 2) := by decide +kernel
theorem dX12_mends_62 : decode cX12_mends 62 = .ok (.iload_n 3, 1) := by decide +kernel
theorem dX12_mends_63 : decode cX12_mends 63 = .ok (.imul, 1) := by decide +kernel
theorem dX12_mends_64 : decode cX12_mends 64 = .ok (.iload_n 2, 1) := by decide +kernel
theorem dX12_mends_65 : decode cX12_mends 65 = .ok (.iadd, 1) := by decide +kernel
theorem dX12_mends_66 : decode cX12_mends 66 = .ok (.iaload, 1) := by decide +kernel
theorem dX12_mends_67 : decode cX12_mends 67 = .ok (.iastore, 1) := by decide +kernel
theorem dX12_mends_68 : decode cX12_mends 68 = .ok (.aload_n 0, 1) := by decide +kernel
theorem dX12_mends_69 : decode cX12_mends 69 = .ok (.getfield 69, 3) := by decide +kernel
theorem dX12_mends_72 : decode cX12_mends 72 = .ok (.iload_n 2, 1) := by decide +kernel
theorem dX12_mends_73 : decode cX12_mends 73 = .ok (.dup2, 1) := by decide +kernel
theorem dX12_mends_74 : decode cX12_mends 74 = .ok (.iaload, 1) := by decide +kernel
theorem dX12_mends_75 : decode cX12_mends 75 = .ok (.iconst 1, 1) := by decide +kernel
theorem dX12_mends_76 : decode cX12_mends 76 = .ok (.iadd, 1) := by decide +kernel
theorem dX12_mends_77 : decode cX12_mends 77 = .ok (.iastore, 1) := by decide +kernel
theorem dX12_mends_78 : decode cX12_mends 78 = .ok (.iinc 3 1, 3) := by decide +kernel
theorem dX12_mends_81 : decode cX12_mends 81 = .ok (.goto (-60), 3) := by decide +kernel
theorem dX12_mends_84 : decode cX12_mends 84 = .ok (.iload_n 1, 1) := by decide +kernel
theorem dX12_mends_85 : decode cX12_mends 85 = .ok (.sipush 4096, 3) := by decide +kernel
theorem dX12_mends_88 : decode cX12_mends 88 = .ok (.if_icmp .le 7, 3) := by decide +kernel
theorem dX12_mends_91 : decode cX12_mends 91 = .ok (.iload_n 1, 1) := by decide +kernel
theorem dX12_mends_92 : decode cX12_mends 92 = .ok (.goto 11, 3) := by decide +kernel
theorem dX12_mends_95 : decode cX12_mends 95 = .ok (.iload_n 1, 1) := by decide +kernel
theorem dX12_mends_96 : decode cX12_mends 96 = .ok (.aload_n 0, 1) := by decide +kernel
theorem dX12_mends_97 : decode cX12_mends 97 = .ok (.getfield 69, 3) := by decide +kernel
theorem dX12_mends_100 : decode cX12_mends 100 = .ok (.iload_n 2, 1) := by decide +kernel
theorem dX12_mends_101 : decode cX12_mends 101 = .ok (.iaload, 1) := by decide +kernel
theorem dX12_mends_102 : decode cX12_mends 102 = .ok (.imul, 1) := by decide +kernel
theorem dX12_mends_103 : decode cX12_mends 103 = .ok (.istore_n 1, 1) := by decide +kernel
theorem dX12_mends_104 : decode cX12_mends 104 = .ok (.iinc 2 1, 3) := by decide +kernel
theorem dX12_mends_107 : decode cX12_mends 107 = .ok (.goto (-103), 3) := by decide +kernel
theorem dX12_mends_110 : decode cX12_mends 110 = .ok (.iconst 0, 1) := by decide +kernel
theorem dX12_mends_111 : decode cX12_mends 111 = .ok (.istore_n 2, 1) := by decide +kernel
theorem dX12_mends_112 : decode cX12_mends 112 = .ok (.iconst 0, 1) := by decide +kernel
theorem dX12_mends_113 : decode cX12_mends 113 = .ok (.istore_n 3, 1) := by decide +kernel
theorem dX12_mends_114 : decode cX12_mends 114 = .ok (.iload_n 3, 1) := by decide +kernel
theorem dX12_mends_115 : decode cX12_mends 115 = .ok (.iload_n 1, 1) := by decide +kernel
theorem dX12_mends_116 : decode cX12_mends 116 = .ok (.if_icmp .ge 154, 3) := by decide +kernel
theorem dX12_mends_119 : decode cX12_mends 119 = .ok (.iload_n 1, 1) := by decide +kernel
theorem dX12_mends_120 : decode cX12_mends 120 = .ok (.sipush 4096, 3) := by decide +kernel
theorem dX12_mends_123 : decode cX12_mends 123 = .ok (.if_icmp .gt 147, 3) := by decide +kernel
theorem dX12_mends_126 : decode cX12_mends 126 = .ok (.iload_n 2, 1) := by decide +kernel
theorem dX12_mends_127 : decode cX12_mends 127 = .ok (.iconst 2, 1) := by decide +kernel
theorem dX12_mends_128 : decode cX12_mends 128 = .ok (.if_icmp .ge 142, 3) := by decide +kernel
theorem dX12_mends_131 : decode cX12_mends 131 = .ok (.iload_n 3, 1) := by decide +kernel
theorem dX12_mends_132 : decode cX12_mends 132 = .ok (.istore 4, 2) := by decide +kernel
theorem dX12_mends_134 : decode cX12_mends 134 = .ok (.iconst 0, 1) := by decide +kernel
theorem dX12_mends_135 : decode cX12_mends 135 = .ok (.istore 5, 2) := by decide +kernel
theorem dX12_mends_137 : decode cX12_mends 137 = .ok (.iload 5, 2) := by decide +kernel
theorem dX12_mends_139 : decode cX12_mends 139 = .ok (.aload_n 0, 1) := by decide +kernel
theorem dX12_mends_140 : decode cX12_mends 140 = .ok (.invokevirtual 204, 3) := by decide +kernel
theorem dX12_mends_143 : decode cX12_mends 143 = .ok (.if_icmp .ge 49, 3) := by decide +kernel
theorem dX12_mends_146 : decode cX12_mends 146 = .ok (.aload_n 0, 1) := by decide +kernel
theorem dX12_mends_147 : decode cX12_mends 147 = .ok (.getfield 54, 3) := by decide +kernel
theorem dX12_mends_150 : decode cX12_mends 150 = .ok (.iload 5, 2) := by decide +kernel
theorem dX12_mends_152 : decode cX12_mends 152 = .ok (.aload_n 0, 1) := by decide +kernel
theorem dX12_mends_153 : decode cX12_mends 153 = .ok (.getfield 66, 3) := by decide +kernel
theorem dX12_mends_156 : decode cX12_mends 156 = .ok (.bipush 80, 2) := by decide +kernel
theorem dX12_mends_158 : decode cX12_mends 158 = .ok (.iload 5, 2) := by decide +kernel
theorem dX12_mends_160 : decode cX12_mends 160 = .ok (.imul, 1) := by decide +kernel
theorem dX12_mends_161 : decode cX12_mends 161 = .ok (.iload 4, 2) := by decide +kernel
theorem dX12_mends_163 : decode cX12_mends 163 = .ok (.aload_n 0, 1) := by decide +kernel
theorem dX12_mends_164 : decode cX12_mends 164 = .ok (.getfield 69, 3) := by decide +kernel
theorem dX12_mends_167 : decode cX12_mends 167 = .ok (.iload 5, 2) := by decide +kernel
theorem dX12_mends_169 : decode cX12_mends 169 = .ok (.iaload, 1) := by decide +kernel
theorem dX12_mends_170 : decode cX12_mends 170 = .ok (.irem, 1) := by decide +kernel
theorem dX12_mends_171 : decode cX12_mends 171 = .ok (.iadd, 1) := by decide +kernel
theorem dX12_mends_172 : decode cX12_mends 172 = .ok (.iaload, 1) := by decide +kernel
theorem dX12_mends_173 : decode cX12_mends 173 = .ok (.iastore, 1) := by decide +kernel
theorem dX12_mends_174 : decode cX12_mends 174 = .ok (.iload 4, 2) := by decide +kernel
theorem dX12_mends_176 : decode cX12_mends 176 = .ok (.aload_n 0, 1) := by decide +kernel
theorem dX12_mends_177 : decode cX12_mends 177 = .ok (.getfield 69, 3) := by decide +kernel
theorem dX12_mends_180 : decode cX12_mends 180 = .ok (.iload 5, 2) := by decide +kernel
theorem dX12_mends_182 : decode cX12_mends 182 = .ok (.iaload, 1) := by decide +kernel
theorem dX12_mends_183 : decode cX12_mends 183 = .ok (.idiv, 1) := by decide +kernel
theorem dX12_mends_184 : decode cX12_mends 184 = .ok (.istore 4, 2) := by decide +kernel
theorem dX12_mends_186 : decode cX12_mends 186 = .ok (.iinc 5 1, 3) := by decide +kernel
theorem dX12_mends_189 : decode cX12_mends 189 = .ok (.goto (-52), 3) := by decide +kernel
theorem dX12_mends_192 : decode cX12_mends 192 = .ok (.aload_n 0, 1) := by decide +kernel
theorem dX12_mends_193 : decode cX12_mends 193 = .ok (.invokevirtual 214, 3) := by decide +kernel
theorem dX12_mends_196 : decode cX12_mends 196 = .ok (.sipush 256, 3) := by decide +kernel
theorem dX12_mends_199 : decode cX12_mends 199 = .ok (.aload_n 0, 1) := by decide +kernel
theorem dX12_mends_200 : decode cX12_mends 200 = .ok (.getfield 54, 3) := by decide +kernel
theorem dX12_mends_203 : decode cX12_mends 203 = .ok (.aload_n 0, 1) := by decide +kernel
theorem dX12_mends_204 : decode cX12_mends 204 = .ok (.invokevirtual 204, 3) := by decide +kernel
theorem dX12_mends_207 : decode cX12_mends 207 = .ok (.iconst 2, 1) := by decide +kernel
theorem dX12_mends_208 : decode cX12_mends 208 = .ok (.isub, 1) := by decide +kernel
theorem dX12_mends_209 : decode cX12_mends 209 = .ok (.iaload, 1) := by decide +kernel
theorem dX12_mends_210 : decode cX12_mends 210 = .ok (.imul, 1) := by decide +kernel
theorem dX12_mends_211 : decode cX12_mends 211 = .ok (.aload_n 0, 1) := by decide +kernel
theorem dX12_mends_212 : decode cX12_mends 212 = .ok (.getfield 54, 3) := by decide +kernel
theorem dX12_mends_215 : decode cX12_mends 215 = .ok (.aload_n 0, 1) := by decide +kernel
theorem dX12_mends_216 : decode cX12_mends 216 = .ok (.invokevirtual 204, 3) := by decide +kernel
theorem dX12_mends_219 : decode cX12_mends 219 = .ok (.iconst 1, 1) := by decide +kernel
theorem dX12_mends_220 : decode cX12_mends 220 = .ok (.isub, 1) := by decide +kernel
theorem dX12_mends_221 : decode cX12_mends 221 = .ok (.iaload, 1) := by decide +kernel
theorem dX12_mends_222 : decode cX12_mends 222 = .ok (.iadd, 1) := by decide +kernel
theorem dX12_mends_223 : decode cX12_mends 223 = .ok (.if_icmp .eq 6, 3) := by decide +kernel
theorem dX12_mends_226 : decode cX12_mends 226 = .ok (.goto 38, 3) := by decide +kernel
theorem dX12_mends_229 : decode cX12_mends 229 = .ok (.iinc 2 1, 3) := by decide +kernel
theorem dX12_mends_232 : decode cX12_mends 232 = .ok (.iconst 0, 1) := by decide +kernel
theorem dX12_mends_233 : decode cX12_mends 233 = .ok (.istore 5, 2) := by decide +kernel
theorem dX12_mends_235 : decode cX12_mends 235 = .ok (.iload 5, 2) := by decide +kernel
theorem dX12_mends_237 : decode cX12_mends 237 = .ok (.aload_n 0, 1) := by decide +kernel
theorem dX12_mends_238 : decode cX12_mends 238 = .ok (.invokevirtual 204, 3) := by decide +kernel
theorem dX12_mends_241 : decode cX12_mends 241 = .ok (.if_icmp .ge 23, 3) := by decide +kernel
theorem dX12_mends_244 : decode cX12_mends 244 = .ok (.aload_n 0, 1) := by decide +kernel
theorem dX12_mends_245 : decode cX12_mends 245 = .ok (.getfield 63, 3) := by decide +kernel
theorem dX12_mends_248 : decode cX12_mends 248 = .ok (.iload 5, 2) := by decide +kernel
theorem dX12_mends_250 : decode cX12_mends 250 = .ok (.aload_n 0, 1) := by decide +kernel
theorem dX12_mends_251 : decode cX12_mends 251 = .ok (.getfield 54, 3) := by decide +kernel
theorem dX12_mends_254 : decode cX12_mends 254 = .ok (.iload 5, 2) := by decide +kernel
theorem dX12_mends_256 : decode cX12_mends 256 = .ok (.iaload, 1) := by decide +kernel
theorem dX12_mends_257 : decode cX12_mends 257 = .ok (.iastore, 1) := by decide +kernel
theorem dX12_mends_258 : decode cX12_mends 258 = .ok (.iinc 5 1, 3) := by decide +kernel
theorem dX12_mends_261 : decode cX12_mends 261 = .ok (.goto (-26), 3) := by decide +kernel
theorem dX12_mends_264 : decode cX12_mends 264 = .ok (.iinc 3 1, 3) := by decide +kernel
theorem dX12_mends_267 : decode cX12_mends 267 = .ok (.goto (-153), 3) := by decide +kernel
theorem dX12_mends_270 : decode cX12_mends 270 = .ok (.iload_n 2, 1) := by decide +kernel
theorem dX12_mends_271 : decode cX12_mends 271 = .ok (.ireturn, 1) := by decide +kernel
theorem dX12_statusOf_0 : decode cX12_statusOf 0 = .ok (.aload_n 0, 1) := by decide +kernel
theorem dX12_statusOf_1 : decode cX12_statusOf 1 = .ok (.iload_n 1, 1) := by decide +kernel
theorem dX12_statusOf_2 : decode cX12_statusOf 2 = .ok (.iload_n 2, 1) := by decide +kernel
theorem dX12_statusOf_3 : decode cX12_statusOf 3 = .ok (.invokevirtual 249, 3) := by decide +kernel
theorem dX12_statusOf_6 : decode cX12_statusOf 6 = .ok (.aload_n 0, 1) := by decide +kernel
theorem dX12_statusOf_7 : decode cX12_statusOf 7 = .ok (.getfield 242, 3) := by decide +kernel
theorem dX12_statusOf_10 : decode cX12_statusOf 10 = .ok (.ifCond .ne 5, 3) := by decide +kernel
theorem dX12_statusOf_13 : decode cX12_statusOf 13 = .ok (.iconst 0, 1) := by decide +kernel
theorem dX12_statusOf_14 : decode cX12_statusOf 14 = .ok (.ireturn, 1) := by decide +kernel
theorem dX12_statusOf_15 : decode cX12_statusOf 15 = .ok (.iconst (-1), 1) := by decide +kernel
theorem dX12_statusOf_16 : decode cX12_statusOf 16 = .ok (.istore_n 3, 1) := by decide +kernel
theorem dX12_statusOf_17 : decode cX12_statusOf 17 = .ok (.iconst 0, 1) := by decide +kernel
theorem dX12_statusOf_18 : decode cX12_statusOf 18 = .ok (.istore 4, 2) := by decide +kernel
theorem dX12_statusOf_20 : decode cX12_statusOf 20 = .ok (.iconst 0, 1) := by decide +kernel
theorem dX12_statusOf_21 : decode cX12_statusOf 21 = .ok (.istore 5, 2) := by decide +kernel
theorem dX12_statusOf_23 : decode cX12_statusOf 23 = .ok (.iload 5, 2) := by decide +kernel
theorem dX12_statusOf_25 : decode cX12_statusOf 25 = .ok (.aload_n 0, 1) := by decide +kernel
theorem dX12_statusOf_26 : decode cX12_statusOf 26 = .ok (.getfield 242, 3) := by decide +kernel
theorem dX12_statusOf_29 : decode cX12_statusOf 29 = .ok (.if_icmp .ge 88, 3) := by decide +kernel
theorem dX12_statusOf_32 : decode cX12_statusOf 32 = .ok (.aload_n 0, 1) := by decide +kernel
theorem dX12_statusOf_33 : decode cX12_statusOf 33 = .ok (.getfield 60, 3) := by decide +kernel
theorem dX12_statusOf_36 : decode cX12_statusOf 36 = .ok (.iload 5, 2) := by decide +kernel
theorem dX12_statusOf_38 : decode cX12_statusOf 38 = .ok (.baload, 1) := by decide +kernel
theorem dX12_statusOf_39 : decode cX12_statusOf 39 = .ok (.ifCond .ne 6, 3) := by decide +kernel
theorem dX12_statusOf_42 : decode cX12_statusOf 42 = .ok (.goto 69, 3) := by decide +kernel
theorem dX12_statusOf_45 : decode cX12_statusOf 45 = .ok (.iload_n 3, 1) := by decide +kernel
theorem dX12_statusOf_46 : decode cX12_statusOf 46 = .ok (.iconst (-1), 1) := by decide +kernel
theorem dX12_statusOf_47 : decode cX12_statusOf 47 = .ok (.if_icmp .ne 6, 3) := by decide +kernel
theorem dX12_statusOf_50 : decode cX12_statusOf 50 = .ok (.iload 5, 2) := by decide +kernel
theorem dX12_statusOf_52 : decode cX12_statusOf 52 = .ok (.istore_n 3, 1) := by decide +kernel
theorem dX12_statusOf_53 : decode cX12_statusOf 53 = .ok (.iconst 2, 1) := by decide +kernel
theorem dX12_statusOf_54 : decode cX12_statusOf 54 = .ok (.istore 6, 2) := by decide +kernel
theorem dX12_statusOf_56 : decode cX12_statusOf 56 = .ok (.iload 6, 2) := by decide +kernel
theorem dX12_statusOf_58 : decode cX12_statusOf 58 = .ok (.aload_n 0, 1) := by decide +kernel
theorem dX12_statusOf_59 : decode cX12_statusOf 59 = .ok (.invokevirtual 204, 3) := by decide +kernel
theorem dX12_statusOf_62 : decode cX12_statusOf 62 = .ok (.iconst 2, 1) := by decide +kernel
theorem dX12_statusOf_63 : decode cX12_statusOf 63 = .ok (.isub, 1) := by decide +kernel
theorem dX12_statusOf_64 : decode cX12_statusOf 64 = .ok (.if_icmp .ge 47, 3) := by decide +kernel
theorem dX12_statusOf_67 : decode cX12_statusOf 67 = .ok (.iload 4, 2) := by decide +kernel
theorem dX12_statusOf_69 : decode cX12_statusOf 69 = .ok (.aload_n 0, 1) := by decide +kernel
theorem dX12_statusOf_70 : decode cX12_statusOf 70 = .ok (.getfield 57, 3) := by decide +kernel
theorem dX12_statusOf_73 : decode cX12_statusOf 73 = .ok (.bipush 12, 2) := by decide +kernel
theorem dX12_statusOf_75 : decode cX12_statusOf 75 = .ok (.iload 5, 2) := by decide +kernel
theorem dX12_statusOf_77 : decode cX12_statusOf 77 = .ok (.imul, 1) := by decide +kernel
theorem dX12_statusOf_78 : decode cX12_statusOf 78 = .ok (.iload 6, 2) := by decide +kernel
theorem dX12_statusOf_80 : decode cX12_statusOf 80 = .ok (.iadd, 1) := by decide +kernel
theorem dX12_statusOf_81 : decode cX12_statusOf 81 = .ok (.iaload, 1) := by decide +kernel
theorem dX12_statusOf_82 : decode cX12_statusOf 82 = .ok (.aload_n 0, 1) := by decide +kernel
theorem dX12_statusOf_83 : decode cX12_statusOf 83 = .ok (.getfield 57, 3) := by decide +kernel
theorem dX12_statusOf_86 : decode cX12_statusOf 86 = .ok (.bipush 12, 2) := by decide +kernel
theorem dX12_statusOf_88 : decode cX12_statusOf 88 = .ok (.iload_n 3, 1) := by decide +kernel
theorem dX12_statusOf_89 : decode cX12_statusOf 89 = .ok (.imul, 1) := by decide +kernel
theorem dX12_statusOf_90 : decode cX12_statusOf 90 = .ok (.iload 6, 2) := by decide +kernel
theorem dX12_statusOf_92 : decode cX12_statusOf 92 = .ok (.iadd, 1) := by decide +kernel
theorem dX12_statusOf_93 : decode cX12_statusOf 93 = .ok (.iaload, 1) := by decide +kernel
theorem dX12_statusOf_94 : decode cX12_statusOf 94 = .ok (.if_icmp .eq 7, 3) := by decide +kernel
theorem dX12_statusOf_97 : decode cX12_statusOf 97 = .ok (.iconst 1, 1) := by decide +kernel
theorem dX12_statusOf_98 : decode cX12_statusOf 98 = .ok (.goto 4, 3) := by decide +kernel
theorem dX12_statusOf_101 : decode cX12_statusOf 101 = .ok (.iconst 0, 1) := by decide +kernel
theorem dX12_statusOf_102 : decode cX12_statusOf 102 = .ok (.ior, 1) := by decide +kernel
theorem dX12_statusOf_103 : decode cX12_statusOf 103 = .ok (.istore 4, 2) := by decide +kernel
theorem dX12_statusOf_105 : decode cX12_statusOf 105 = .ok (.iinc 6 1, 3) := by decide +kernel
theorem dX12_statusOf_108 : decode cX12_statusOf 108 = .ok (.goto (-52), 3) := by decide +kernel
theorem dX12_statusOf_111 : decode cX12_statusOf 111 = .ok (.iinc 5 1, 3) := by decide +kernel
theorem dX12_statusOf_114 : decode cX12_statusOf 114 = .ok (.goto (-91), 3) := by decide +kernel
theorem dX12_statusOf_117 : decode cX12_statusOf 117 = .ok (.iload_n 3, 1) := by decide +kernel
theorem dX12_statusOf_118 : decode cX12_statusOf 118 = .ok (.iconst (-1), 1) := by decide +kernel
theorem dX12_statusOf_119 : decode cX12_statusOf 119 = .ok (.if_icmp .ne 17, 3) := by decide +kernel
theorem dX12_statusOf_122 : decode cX12_statusOf 122 = .ok (.aload_n 0, 1) := by decide +kernel
theorem dX12_statusOf_123 : decode cX12_statusOf 123 = .ok (.invokevirtual 253, 3) := by decide +kernel
theorem dX12_statusOf_126 : decode cX12_statusOf 126 = .ok (.iconst 1, 1) := by decide +kernel
theorem dX12_statusOf_127 : decode cX12_statusOf 127 = .ok (.if_icmp .ne 7, 3) := by decide +kernel
theorem dX12_statusOf_130 : decode cX12_statusOf 130 = .ok (.iconst 3, 1) := by decide +kernel
theorem dX12_statusOf_131 : decode cX12_statusOf 131 = .ok (.goto 4, 3) := by decide +kernel
theorem dX12_statusOf_134 : decode cX12_statusOf 134 = .ok (.iconst 4, 1) := by decide +kernel
theorem dX12_statusOf_135 : decode cX12_statusOf 135 = .ok (.ireturn, 1) := by decide +kernel
theorem dX12_statusOf_136 : decode cX12_statusOf 136 = .ok (.iconst 0, 1) := by decide +kernel
theorem dX12_statusOf_137 : decode cX12_statusOf 137 = .ok (.istore 5, 2) := by decide +kernel
theorem dX12_statusOf_139 : decode cX12_statusOf 139 = .ok (.iload 5, 2) := by decide +kernel
theorem dX12_statusOf_141 : decode cX12_statusOf 141 = .ok (.aload_n 0, 1) := by decide +kernel
theorem dX12_statusOf_142 : decode cX12_statusOf 142 = .ok (.invokevirtual 204, 3) := by decide +kernel
theorem dX12_statusOf_145 : decode cX12_statusOf 145 = .ok (.if_icmp .ge 28, 3) := by decide +kernel
theorem dX12_statusOf_148 : decode cX12_statusOf 148 = .ok (.aload_n 0, 1) := by decide +kernel
theorem dX12_statusOf_149 : decode cX12_statusOf 149 = .ok (.getfield 63, 3) := by decide +kernel
theorem dX12_statusOf_152 : decode cX12_statusOf 152 = .ok (.iload 5, 2) := by decide +kernel
theorem dX12_statusOf_154 : decode cX12_statusOf 154 = .ok (.aload_n 0, 1) := by decide +kernel
theorem dX12_statusOf_155 : decode cX12_statusOf 155 = .ok (.getfield 57, 3) := by decide +kernel
theorem dX12_statusOf_158 : decode cX12_statusOf 158 = .ok (.bipush 12, 2) := by decide +kernel
theorem dX12_statusOf_160 : decode cX12_statusOf 160 = .ok (.iload_n 3, 1) := by decide +kernel
theorem dX12_statusOf_161 : decode cX12_statusOf 161 = .ok (.imul, 1) := by decide +kernel
theorem dX12_statusOf_162 : decode cX12_statusOf 162 = .ok (.iload 5, 2) := by decide +kernel
theorem dX12_statusOf_164 : decode cX12_statusOf 164 = .ok (.iadd, 1) := by decide +kernel
theorem dX12_statusOf_165 : decode cX12_statusOf 165 = .ok (.iaload, 1) := by decide +kernel
theorem dX12_statusOf_166 : decode cX12_statusOf 166 = .ok (.iastore, 1) := by decide +kernel
theorem dX12_statusOf_167 : decode cX12_statusOf 167 = .ok (.iinc 5 1, 3) := by decide +kernel
theorem dX12_statusOf_170 : decode cX12_statusOf 170 = .ok (.goto (-31), 3) := by decide +kernel
theorem dX12_statusOf_173 : decode cX12_statusOf 173 = .ok (.iload 4, 2) := by decide +kernel
theorem dX12_statusOf_175 : decode cX12_statusOf 175 = .ok (.ifCond .eq 7, 3) := by decide +kernel
theorem dX12_statusOf_178 : decode cX12_statusOf 178 = .ok (.iconst 2, 1) := by decide +kernel
theorem dX12_statusOf_179 : decode cX12_statusOf 179 = .ok (.goto 4, 3) := by decide +kernel
theorem dX12_statusOf_182 : decode cX12_statusOf 182 = .ok (.iconst 1, 1) := by decide +kernel
theorem dX12_statusOf_183 : decode cX12_statusOf 183 = .ok (.ireturn, 1) := by decide +kernel
theorem dX12_isWhole_0 : decode cX12_isWhole 0 = .ok (.iload_n 0, 1) := by decide +kernel
theorem dX12_isWhole_1 : decode cX12_isWhole 1 = .ok (.iconst 1, 1) := by decide +kernel
theorem dX12_isWhole_2 : decode cX12_isWhole 2 = .ok (.if_icmp .eq 8, 3) := by decide +kernel
theorem dX12_isWhole_5 : decode cX12_isWhole 5 = .ok (.iload_n 0, 1) := by decide +kernel
theorem dX12_isWhole_6 : decode cX12_isWhole 6 = .ok (.iconst 3, 1) := by decide +kernel
theorem dX12_isWhole_7 : decode cX12_isWhole 7 = .ok (.if_icmp .ne 7, 3) := by decide +kernel
theorem dX12_isWhole_10 : decode cX12_isWhole 10 = .ok (.iconst 1, 1) := by decide +kernel
theorem dX12_isWhole_11 : decode cX12_isWhole 11 = .ok (.goto 4, 3) := by decide +kernel
theorem dX12_isWhole_14 : decode cX12_isWhole 14 = .ok (.iconst 0, 1) := by decide +kernel
theorem dX12_isWhole_15 : decode cX12_isWhole 15 = .ok (.ireturn, 1) := by decide +kernel
theorem dX12_isSector_0 : decode cX12_isSector 0 = .ok (.aload_n 0, 1) := by decide +kernel
theorem dX12_isSector_1 : decode cX12_isSector 1 = .ok (.getfield 171, 3) := by decide +kernel
theorem dX12_isSector_4 : decode cX12_isSector 4 = .ok (.ifCond .eq 29, 3) := by decide +kernel
theorem dX12_isSector_7 : decode cX12_isSector 7 = .ok (.iload_n 1, 1) := by decide +kernel
theorem dX12_isSector_8 : decode cX12_isSector 8 = .ok (.iconst 0, 1) := by decide +kernel
theorem dX12_isSector_9 : decode cX12_isSector 9 = .ok (.sipush 255, 3) := by decide +kernel
theorem dX12_isSector_12 : decode cX12_isSector 12 = .ok (.invokestatic 85, 3) := by decide +kernel
theorem dX12_isSector_15 : decode cX12_isSector 15 = .ok (.ifCond .eq 18, 3) := by decide +kernel
theorem dX12_isSector_18 : decode cX12_isSector 18 = .ok (.iload_n 2, 1) := by decide +kernel
theorem dX12_isSector_19 : decode cX12_isSector 19 = .ok (.iconst 0, 1) := by decide +kernel
theorem dX12_isSector_20 : decode cX12_isSector 20 = .ok (.sipush 255, 3) := by decide +kernel
theorem dX12_isSector_23 : decode cX12_isSector 23 = .ok (.invokestatic 85, 3) := by decide +kernel
theorem dX12_isSector_26 : decode cX12_isSector 26 = .ok (.ifCond .eq 7, 3) := by decide +kernel
theorem dX12_isSector_29 : decode cX12_isSector 29 = .ok (.iconst 1, 1) := by decide +kernel
theorem dX12_isSector_30 : decode cX12_isSector 30 = .ok (.goto 4, 3) := by decide +kernel
theorem dX12_isSector_33 : decode cX12_isSector 33 = .ok (.iconst 0, 1) := by decide +kernel
theorem dX12_isSector_34 : decode cX12_isSector 34 = .ok (.ireturn, 1) := by decide +kernel
theorem dX12_status_0 : decode cX12_status 0 = .ok (.aload_n 0, 1) := by decide +kernel
theorem dX12_status_1 : decode cX12_status 1 = .ok (.iload_n 1, 1) := by decide +kernel
theorem dX12_status_2 : decode cX12_status 2 = .ok (.iload_n 2, 1) := by decide +kernel
theorem dX12_status_3 : decode cX12_status 3 = .ok (.invokevirtual 256, 3) := by decide +kernel
theorem dX12_status_6 : decode cX12_status 6 = .ok (.ifCond .eq 12, 3) := by decide +kernel
theorem dX12_status_9 : decode cX12_status 9 = .ok (.iload_n 3, 1) := by decide +kernel
theorem dX12_status_10 : decode cX12_status 10 = .ok (.iconst 0, 1) := by decide +kernel
theorem dX12_status_11 : decode cX12_status 11 = .ok (.iconst 2, 1) := by decide +kernel
theorem dX12_status_12 : decode cX12_status 12 = .ok (.invokestatic 85, 3) := by decide +kernel
theorem dX12_status_15 : decode cX12_status 15 = .ok (.ifCond .ne 5, 3) := by decide +kernel
theorem dX12_status_18 : decode cX12_status 18 = .ok (.iconst (-1), 1) := by decide +kernel
theorem dX12_status_19 : decode cX12_status 19 = .ok (.ireturn, 1) := by decide +kernel
theorem dX12_status_20 : decode cX12_status 20 = .ok (.aload_n 0, 1) := by decide +kernel
theorem dX12_status_21 : decode cX12_status 21 = .ok (.iload_n 1, 1) := by decide +kernel
theorem dX12_status_22 : decode cX12_status 22 = .ok (.iload_n 2, 1) := by decide +kernel
theorem dX12_status_23 : decode cX12_status 23 = .ok (.invokevirtual 259, 3) := by decide +kernel
theorem dX12_status_26 : decode cX12_status 26 = .ok (.istore 4, 2) := by decide +kernel
theorem dX12_status_28 : decode cX12_status 28 = .ok (.iconst 0, 1) := by decide +kernel
theorem dX12_status_29 : decode cX12_status 29 = .ok (.istore 5, 2) := by decide +kernel
theorem dX12_status_31 : decode cX12_status 31 = .ok (.iconst 0, 1) := by decide +kernel
theorem dX12_status_32 : decode cX12_status 32 = .ok (.istore 6, 2) := by decide +kernel
theorem dX12_status_34 : decode cX12_status 34 = .ok (.iload 6, 2) := by decide +kernel
theorem dX12_status_36 : decode cX12_status 36 = .ok (.aload_n 0, 1) := by decide +kernel
theorem dX12_status_37 : decode cX12_status 37 = .ok (.getfield 242, 3) := by decide +kernel
theorem dX12_status_40 : decode cX12_status 40 = .ok (.if_icmp .ge 29, 3) := by decide +kernel
theorem dX12_status_43 : decode cX12_status 43 = .ok (.iload 5, 2) := by decide +kernel
theorem dX12_status_45 : decode cX12_status 45 = .ok (.aload_n 0, 1) := by decide +kernel
theorem dX12_status_46 : decode cX12_status 46 = .ok (.getfield 60, 3) := by decide +kernel
theorem dX12_status_49 : decode cX12_status 49 = .ok (.iload 6, 2) := by decide +kernel
theorem dX12_status_51 : decode cX12_status 51 = .ok (.baload, 1) := by decide +kernel
theorem dX12_status_52 : decode cX12_status 52 = .ok (.ifCond .eq 7, 3) := by decide +kernel
theorem dX12_status_55 : decode cX12_status 55 = .ok (.iconst 1, 1) := by decide +kernel
theorem dX12_status_56 : decode cX12_status 56 = .ok (.goto 4, 3) := by decide +kernel
theorem dX12_status_59 : decode cX12_status 59 = .ok (.iconst 0, 1) := by decide +kernel
theorem dX12_status_60 : decode cX12_status 60 = .ok (.iadd, 1) := by decide +kernel
theorem dX12_status_61 : decode cX12_status 61 = .ok (.istore 5, 2) := by decide +kernel
theorem dX12_status_63 : decode cX12_status 63 = .ok (.iinc 6 1, 3) := by decide +kernel
theorem dX12_status_66 : decode cX12_status 66 = .ok (.goto (-32), 3) := by decide +kernel
theorem dX12_status_69 : decode cX12_status 69 = .ok (.iload_n 3, 1) := by decide +kernel
theorem dX12_status_70 : decode cX12_status 70 = .ok (.ifCond .ne 8, 3) := by decide +kernel
theorem dX12_status_73 : decode cX12_status 73 = .ok (.iload 4, 2) := by decide +kernel
theorem dX12_status_75 : decode cX12_status 75 = .ok (.goto 17, 3) := by decide +kernel
theorem dX12_status_78 : decode cX12_status 78 = .ok (.iload_n 3, 1) := by decide +kernel
theorem dX12_status_79 : decode cX12_status 79 = .ok (.iconst 1, 1) := by decide +kernel
theorem dX12_status_80 : decode cX12_status 80 = .ok (.if_icmp .ne 10, 3) := by decide +kernel
theorem dX12_status_83 : decode cX12_status 83 = .ok (.aload_n 0, 1) := by decide +kernel
theorem dX12_status_84 : decode cX12_status 84 = .ok (.getfield 242, 3) := by decide +kernel
theorem dX12_status_87 : decode cX12_status 87 = .ok (.goto 5, 3) := by decide +kernel
theorem dX12_status_90 : decode cX12_status 90 = .ok (.iload 5, 2) := by decide +kernel
theorem dX12_status_92 : decode cX12_status 92 = .ok (.ireturn, 1) := by decide +kernel
theorem dX12_value_0 : decode cX12_value 0 = .ok (.aload_n 0, 1) := by decide +kernel
theorem dX12_value_1 : decode cX12_value 1 = .ok (.iload_n 1, 1) := by decide +kernel
theorem dX12_value_2 : decode cX12_value 2 = .ok (.iload_n 2, 1) := by decide +kernel
theorem dX12_value_3 : decode cX12_value 3 = .ok (.invokevirtual 256, 3) := by decide +kernel
theorem dX12_value_6 : decode cX12_value 6 = .ok (.ifCond .eq 19, 3) := by decide +kernel
theorem dX12_value_9 : decode cX12_value 9 = .ok (.iload_n 3, 1) := by decide +kernel
theorem dX12_value_10 : decode cX12_value 10 = .ok (.iconst 0, 1) := by decide +kernel
theorem dX12_value_11 : decode cX12_value 11 = .ok (.aload_n 0, 1) := by decide +kernel
theorem dX12_value_12 : decode cX12_value 12 = .ok (.getfield 17, 3) := by decide +kernel
theorem dX12_value_15 : decode cX12_value 15 = .ok (.iconst 4, 1) := by decide +kernel
theorem dX12_value_16 : decode cX12_value 16 = .ok (.iaload, 1) := by decide +kernel
theorem dX12_value_17 : decode cX12_value 17 = .ok (.iconst 1, 1) := by decide +kernel
theorem dX12_value_18 : decode cX12_value 18 = .ok (.isub, 1) := by decide +kernel
theorem dX12_value_19 : decode cX12_value 19 = .ok (.invokestatic 85, 3) := by decide +kernel
theorem dX12_value_22 : decode cX12_value 22 = .ok (.ifCond .ne 5, 3) := by decide +kernel
theorem dX12_value_25 : decode cX12_value 25 = .ok (.iconst (-1), 1) := by decide +kernel
theorem dX12_value_26 : decode cX12_value 26 = .ok (.ireturn, 1) := by decide +kernel
theorem dX12_value_27 : decode cX12_value 27 = .ok (.aload_n 0, 1) := by decide +kernel
theorem dX12_value_28 : decode cX12_value 28 = .ok (.iload_n 1, 1) := by decide +kernel
theorem dX12_value_29 : decode cX12_value 29 = .ok (.iload_n 2, 1) := by decide +kernel
theorem dX12_value_30 : decode cX12_value 30 = .ok (.invokevirtual 259, 3) := by decide +kernel
theorem dX12_value_33 : decode cX12_value 33 = .ok (.istore 4, 2) := by decide +kernel
theorem dX12_value_35 : decode cX12_value 35 = .ok (.aload_n 0, 1) := by decide +kernel
theorem dX12_value_36 : decode cX12_value 36 = .ok (.getfield 242, 3) := by decide +kernel
theorem dX12_value_39 : decode cX12_value 39 = .ok (.ifCond .ne 5, 3) := by decide +kernel
theorem dX12_value_42 : decode cX12_value 42 = .ok (.iconst (-1), 1) := by decide +kernel
theorem dX12_value_43 : decode cX12_value 43 = .ok (.ireturn, 1) := by decide +kernel
theorem dX12_value_44 : decode cX12_value 44 = .ok (.iload 4, 2) := by decide +kernel
theorem dX12_value_46 : decode cX12_value 46 = .ok (.invokestatic 262, 3) := by decide +kernel
theorem dX12_value_49 : decode cX12_value 49 = .ok (.ifCond .eq 16, 3) := by decide +kernel
theorem dX12_value_52 : decode cX12_value 52 = .ok (.sipush 256, 3) := by decide +kernel
theorem dX12_value_55 : decode cX12_value 55 = .ok (.aload_n 0, 1) := by decide +kernel
theorem dX12_value_56 : decode cX12_value 56 = .ok (.getfield 63, 3) := by decide +kernel
theorem dX12_value_59 : decode cX12_value 59 = .ok (.iconst 2, 1) := by decide +kernel
theorem dX12_value_60 : decode cX12_value 60 = .ok (.iload_n 3, 1) := by decide +kernel
theorem dX12_value_61 : decode cX12_value 61 = .ok (.iadd, 1) := by decide +kernel
theorem dX12_value_62 : decode cX12_value 62 = .ok (.iaload, 1) := by decide +kernel
theorem dX12_value_63 : decode cX12_value 63 = .ok (.iadd, 1) := by decide +kernel
theorem dX12_value_64 : decode cX12_value 64 = .ok (.ireturn, 1) := by decide +kernel
theorem dX12_value_65 : decode cX12_value 65 = .ok (.iconst 0, 1) := by decide +kernel
theorem dX12_value_66 : decode cX12_value 66 = .ok (.istore 5, 2) := by decide +kernel
theorem dX12_value_68 : decode cX12_value 68 = .ok (.iconst 0, 1) := by decide +kernel
theorem dX12_value_69 : decode cX12_value 69 = .ok (.istore 6, 2) := by decide +kernel
theorem dX12_value_71 : decode cX12_value 71 = .ok (.iconst 0, 1) := by decide +kernel
theorem dX12_value_72 : decode cX12_value 72 = .ok (.istore 7, 2) := by decide +kernel
theorem dX12_value_74 : decode cX12_value 74 = .ok (.iload 7, 2) := by decide +kernel
theorem dX12_value_76 : decode cX12_value 76 = .ok (.sipush 256, 3) := by decide +kernel
theorem dX12_value_79 : decode cX12_value 79 = .ok (.if_icmp .ge 77, 3) := by decide +kernel
theorem dX12_value_82 : decode cX12_value 82 = .ok (.iconst 0, 1) := by decide +kernel
theorem dX12_value_83 : decode cX12_value 83 = .ok (.istore 8, 2) := by decide +kernel
theorem dX12_value_85 : decode cX12_value 85 = .ok (.iconst 0, 1) := by decide +kernel
theorem dX12_value_86 : decode cX12_value 86 = .ok (.istore 9, 2) := by decide +kernel
theorem dX12_value_88 : decode cX12_value 88 = .ok (.iload 9, 2) := by decide +kernel
theorem dX12_value_90 : decode cX12_value 90 = .ok (.aload_n 0, 1) := by decide +kernel
theorem dX12_value_91 : decode cX12_value 91 = .ok (.getfield 242, 3) := by decide +kernel
theorem dX12_value_94 : decode cX12_value 94 = .ok (.if_icmp .ge 38, 3) := by decide +kernel
theorem dX12_value_97 : decode cX12_value 97 = .ok (.iload 8, 2) := by decide +kernel
theorem dX12_value_99 : decode cX12_value 99 = .ok (.aload_n 0, 1) := by decide +kernel
theorem dX12_value_100 : decode cX12_value 100 = .ok (.getfield 57, 3) := by decide +kernel
theorem dX12_value_103 : decode cX12_value 103 = .ok (.bipush 12, 2) := by decide +kernel
theorem dX12_value_105 : decode cX12_value 105 = .ok (.iload 9, 2) := by decide +kernel
theorem dX12_value_107 : decode cX12_value 107 = .ok (.imul, 1) := by decide +kernel
theorem dX12_value_108 : decode cX12_value 108 = .ok (.iconst 2, 1) := by decide +kernel
theorem dX12_value_109 : decode cX12_value 109 = .ok (.iadd, 1) := by decide +kernel
theorem dX12_value_110 : decode cX12_value 110 = .ok (.iload_n 3, 1) := by decide +kernel
theorem dX12_value_111 : decode cX12_value 111 = .ok (.iadd, 1) := by decide +kernel
theorem dX12_value_112 : decode cX12_value 112 = .ok (.iaload, 1) := by decide +kernel
theorem dX12_value_113 : decode cX12_value 113 = .ok (.iload 7, 2) := by decide +kernel
theorem dX12_value_115 : decode cX12_value 115 = .ok (.if_icmp .ne 7, 3) := by decide +kernel
theorem dX12_value_118 : decode cX12_value 118 = .ok (.iconst 1, 1) := by decide +kernel
theorem dX12_value_119 : decode cX12_value 119 = .ok (.goto 4, 3) := by decide +kernel
theorem dX12_value_122 : decode cX12_value 122 = .ok (.iconst 0, 1) := by decide +kernel
theorem dX12_value_123 : decode cX12_value 123 = .ok (.iadd, 1) := by decide +kernel
theorem dX12_value_124 : decode cX12_value 124 = .ok (.istore 8, 2) := by decide +kernel
theorem dX12_value_126 : decode cX12_value 126 = .ok (.iinc 9 1, 3) := by decide +kernel
theorem dX12_value_129 : decode cX12_value 129 = .ok (.goto (-41), 3) := by decide +kernel
theorem dX12_value_132 : decode cX12_value 132 = .ok (.iload 8, 2) := by decide +kernel
theorem dX12_value_134 : decode cX12_value 134 = .ok (.iload 6, 2) := by decide +kernel
theorem dX12_value_136 : decode cX12_value 136 = .ok (.if_icmp .gt 6, 3) := by decide +kernel
theorem dX12_value_139 : decode cX12_value 139 = .ok (.goto 11, 3) := by decide +kernel
theorem dX12_value_142 : decode cX12_value 142 = .ok (.iload 8, 2) := by decide +kernel
theorem dX12_value_144 : decode cX12_value 144 = .ok (.istore 6, 2) := by decide +kernel
theorem dX12_value_146 : decode cX12_value 146 = .ok (.iload 7, 2) := by decide +kernel
theorem dX12_value_148 : decode cX12_value 148 = .ok (.istore 5, 2) := by decide +kernel
theorem dX12_value_150 : decode cX12_value 150 = .ok (.iinc 7 1, 3) := by decide +kernel
theorem dX12_value_153 : decode cX12_value 153 = .ok (.goto (-79), 3) := by decide +kernel
theorem dX12_value_156 : decode cX12_value 156 = .ok (.iconst 2, 1) := by decide +kernel
theorem dX12_value_157 : decode cX12_value 157 = .ok (.iload 6, 2) := by decide +kernel
theorem dX12_value_159 : decode cX12_value 159 = .ok (.imul, 1) := by decide +kernel
theorem dX12_value_160 : decode cX12_value 160 = .ok (.aload_n 0, 1) := by decide +kernel
theorem dX12_value_161 : decode cX12_value 161 = .ok (.getfield 242, 3) := by decide +kernel
theorem dX12_value_164 : decode cX12_value 164 = .ok (.if_icmp .le 12, 3) := by decide +kernel
theorem dX12_value_167 : decode cX12_value 167 = .ok (.sipush 256, 3) := by decide +kernel
theorem dX12_value_170 : decode cX12_value 170 = .ok (.iload 5, 2) := by decide +kernel
theorem dX12_value_172 : decode cX12_value 172 = .ok (.iadd, 1) := by decide +kernel
theorem dX12_value_173 : decode cX12_value 173 = .ok (.goto 5, 3) := by decide +kernel
theorem dX12_value_176 : decode cX12_value 176 = .ok (.iload 5, 2) := by decide +kernel
theorem dX12_value_178 : decode cX12_value 178 = .ok (.ireturn, 1) := by decide +kernel
theorem dX12_isCluster_0 : decode cX12_isCluster 0 = .ok (.iload_n 0, 1) := by decide +kernel
theorem dX12_isCluster_1 : decode cX12_isCluster 1 = .ok (.iconst 0, 1) := by decide +kernel
theorem dX12_isCluster_2 : decode cX12_isCluster 2 = .ok (.bipush 23, 2) := by decide +kernel
theorem dX12_isCluster_4 : decode cX12_isCluster 4 = .ok (.invokestatic 85, 3) := by decide +kernel
theorem dX12_isCluster_7 : decode cX12_isCluster 7 = .ok (.ireturn, 1) := by decide +kernel
theorem dX12_tell_0 : decode cX12_tell 0 = .ok (.iload_n 1, 1) := by decide +kernel
theorem dX12_tell_1 : decode cX12_tell 1 = .ok (.iconst 0, 1) := by decide +kernel
theorem dX12_tell_2 : decode cX12_tell 2 = .ok (.iconst 1, 1) := by decide +kernel
theorem dX12_tell_3 : decode cX12_tell 3 = .ok (.invokestatic 85, 3) := by decide +kernel
theorem dX12_tell_6 : decode cX12_tell 6 = .ok (.ifCond .eq 20, 3) := by decide +kernel
theorem dX12_tell_9 : decode cX12_tell 9 = .ok (.iload_n 2, 1) := by decide +kernel
theorem dX12_tell_10 : decode cX12_tell 10 = .ok (.invokestatic 265, 3) := by decide +kernel
theorem dX12_tell_13 : decode cX12_tell 13 = .ok (.ifCond .eq 13, 3) := by decide +kernel
theorem dX12_tell_16 : decode cX12_tell 16 = .ok (.iload_n 3, 1) := by decide +kernel
theorem dX12_tell_17 : decode cX12_tell 17 = .ok (.iconst 0, 1) := by decide +kernel
theorem dX12_tell_18 : decode cX12_tell 18 = .ok (.bipush 26, 2) := by decide +kernel
theorem dX12_tell_20 : decode cX12_tell 20 = .ok (.invokestatic 85, 3) := by decide +kernel
theorem dX12_tell_23 : decode cX12_tell 23 = .ok (.ifCond .ne 5, 3) := by decide +kernel
theorem dX12_tell_26 : decode cX12_tell 26 = .ok (.iconst 0, 1) := by decide +kernel
theorem dX12_tell_27 : decode cX12_tell 27 = .ok (.ireturn, 1) := by decide +kernel
theorem dX12_tell_28 : decode cX12_tell 28 = .ok (.aload_n 0, 1) := by decide +kernel
theorem dX12_tell_29 : decode cX12_tell 29 = .ok (.getfield 32, 3) := by decide +kernel
theorem dX12_tell_32 : decode cX12_tell 32 = .ok (.bipush 24, 2) := by decide +kernel
theorem dX12_tell_34 : decode cX12_tell 34 = .ok (.iload_n 1, 1) := by decide +kernel
theorem dX12_tell_35 : decode cX12_tell 35 = .ok (.imul, 1) := by decide +kernel
theorem dX12_tell_36 : decode cX12_tell 36 = .ok (.iload_n 2, 1) := by decide +kernel
theorem dX12_tell_37 : decode cX12_tell 37 = .ok (.iadd, 1) := by decide +kernel
theorem dX12_tell_38 : decode cX12_tell 38 = .ok (.iload_n 3, 1) := by decide +kernel
theorem dX12_tell_39 : decode cX12_tell 39 = .ok (.iastore, 1) := by decide +kernel
theorem dX12_tell_40 : decode cX12_tell 40 = .ok (.iconst 1, 1) := by decide +kernel
theorem dX12_tell_41 : decode cX12_tell 41 = .ok (.ireturn, 1) := by decide +kernel
theorem dX12_file_0 : decode cX12_file 0 = .ok (.iload_n 1, 1) := by decide +kernel
theorem dX12_file_1 : decode cX12_file 1 = .ok (.invokestatic 265, 3) := by decide +kernel
theorem dX12_file_4 : decode cX12_file 4 = .ok (.ifCond .eq 22, 3) := by decide +kernel
theorem dX12_file_7 : decode cX12_file 7 = .ok (.iload_n 2, 1) := by decide +kernel
theorem dX12_file_8 : decode cX12_file 8 = .ok (.iconst 1, 1) := by decide +kernel
theorem dX12_file_9 : decode cX12_file 9 = .ok (.bipush 24, 2) := by decide +kernel
theorem dX12_file_11 : decode cX12_file 11 = .ok (.invokestatic 85, 3) := by decide +kernel
theorem dX12_file_14 : decode cX12_file 14 = .ok (.ifCond .eq 12, 3) := by decide +kernel
theorem dX12_file_17 : decode cX12_file 17 = .ok (.aload_n 0, 1) := by decide +kernel
theorem dX12_file_18 : decode cX12_file 18 = .ok (.getfield 268, 3) := by decide +kernel
theorem dX12_file_21 : decode cX12_file 21 = .ok (.bipush 6, 2) := by decide +kernel
theorem dX12_file_23 : decode cX12_file 23 = .ok (.if_icmp .ne 5, 3) := by decide +kernel
theorem dX12_file_26 : decode cX12_file 26 = .ok (.iconst (-1), 1) := by decide +kernel
theorem dX12_file_27 : decode cX12_file 27 = .ok (.ireturn, 1) := by decide +kernel
theorem dX12_file_28 : decode cX12_file 28 = .ok (.aload_n 0, 1) := by decide +kernel
theorem dX12_file_29 : decode cX12_file 29 = .ok (.getfield 35, 3) := by decide +kernel
theorem dX12_file_32 : decode cX12_file 32 = .ok (.aload_n 0, 1) := by decide +kernel
theorem dX12_file_33 : decode cX12_file 33 = .ok (.getfield 268, 3) := by decide +kernel
theorem dX12_file_36 : decode cX12_file 36 = .ok (.iload_n 1, 1) := by decide +kernel
theorem dX12_file_37 : decode cX12_file 37 = .ok (.iastore, 1) := by decide +kernel
theorem dX12_file_38 : decode cX12_file 38 = .ok (.aload_n 0, 1) := by decide +kernel
theorem dX12_file_39 : decode cX12_file 39 = .ok (.getfield 38, 3) := by decide +kernel
theorem dX12_file_42 : decode cX12_file 42 = .ok (.aload_n 0, 1) := by decide +kernel
theorem dX12_file_43 : decode cX12_file 43 = .ok (.getfield 268, 3) := by decide +kernel
theorem dX12_file_46 : decode cX12_file 46 = .ok (.iload_n 2, 1) := by decide +kernel
theorem dX12_file_47 : decode cX12_file 47 = .ok (.iastore, 1) := by decide +kernel
theorem dX12_file_48 : decode cX12_file 48 = .ok (.aload_n 0, 1) := by decide +kernel
theorem dX12_file_49 : decode cX12_file 49 = .ok (.dup, 1) := by decide +kernel
theorem dX12_file_50 : decode cX12_file 50 = .ok (.getfield 268, 3) := by decide +kernel
theorem dX12_file_53 : decode cX12_file 53 = .ok (.iconst 1, 1) := by decide +kernel
theorem dX12_file_54 : decode cX12_file 54 = .ok (.iadd, 1) := by decide +kernel
theorem dX12_file_55 : decode cX12_file 55 = .ok (.putfield 268, 3) := by decide +kernel
theorem dX12_file_58 : decode cX12_file 58 = .ok (.aload_n 0, 1) := by decide +kernel
theorem dX12_file_59 : decode cX12_file 59 = .ok (.getfield 268, 3) := by decide +kernel
theorem dX12_file_62 : decode cX12_file 62 = .ok (.iconst 1, 1) := by decide +kernel
theorem dX12_file_63 : decode cX12_file 63 = .ok (.isub, 1) := by decide +kernel
theorem dX12_file_64 : decode cX12_file 64 = .ok (.ireturn, 1) := by decide +kernel
theorem dX12_chains_0 : decode cX12_chains 0 = .ok (.aload_n 0, 1) := by decide +kernel
theorem dX12_chains_1 : decode cX12_chains 1 = .ok (.iconst 0, 1) := by decide +kernel
theorem dX12_chains_2 : decode cX12_chains 2 = .ok (.putfield 271, 3) := by decide +kernel
theorem dX12_chains_5 : decode cX12_chains 5 = .ok (.aload_n 0, 1) := by decide +kernel
theorem dX12_chains_6 : decode cX12_chains 6 = .ok (.getfield 35, 3) := by decide +kernel
theorem dX12_chains_9 : decode cX12_chains 9 = .ok (.iload_n 1, 1) := by decide +kernel
theorem dX12_chains_10 : decode cX12_chains 10 = .ok (.iaload, 1) := by decide +kernel
theorem dX12_chains_11 : decode cX12_chains 11 = .ok (.istore_n 2, 1) := by decide +kernel
theorem dX12_chains_12 : decode cX12_chains 12 = .ok (.iconst 0, 1) := by decide +kernel
theorem dX12_chains_13 : decode cX12_chains 13 = .ok (.istore_n 3, 1) := by decide +kernel
theorem dX12_chains_14 : decode cX12_chains 14 = .ok (.iload_n 2, 1) := by decide +kernel
theorem dX12_chains_15 : decode cX12_chains 15 = .ok (.invokestatic 265, 3) := by decide +kernel
theorem dX12_chains_18 : decode cX12_chains 18 = .ok (.ifCond .eq 47, 3) := by decide +kernel
theorem dX12_chains_21 : decode cX12_chains 21 = .ok (.iload_n 3, 1) := by decide +kernel
theorem dX12_chains_22 : decode cX12_chains 22 = .ok (.iload_n 2, 1) := by decide +kernel
theorem dX12_chains_23 : decode cX12_chains 23 = .ok (.ishr, 1) := by decide +kernel
theorem dX12_chains_24 : decode cX12_chains 24 = .ok (.iconst 1, 1) := by decide +kernel
theorem dX12_chains_25 : decode cX12_chains 25 = .ok (.iand, 1) := by decide +kernel
theorem dX12_chains_26 : decode cX12_chains 26 = .ok (.ifCond .ne 39, 3) := by decide +kernel
theorem dX12_chains_29 : decode cX12_chains 29 = .ok (.iload_n 3, 1) := by decide +kernel
theorem dX12_chains_30 : decode cX12_chains 30 = .ok (.iconst 1, 1) := by decide +kernel
theorem dX12_chains_31 : decode cX12_chains 31 = .ok (.iload_n 2, 1) := by decide +kernel
theorem dX12_chains_32 : decode cX12_chains 32 = .ok (.ishl, 1) := by decide +kernel
theorem dX12_chains_33 : decode cX12_chains 33 = .ok (.ior, 1) := by decide +kernel
theorem dX12_chains_34 : decode cX12_chains 34 = .ok (.istore_n 3, 1) := by decide +kernel
theorem dX12_chains_35 : decode cX12_chains 35 = .ok (.aload_n 0, 1) := by decide +kernel
theorem dX12_chains_36 : decode cX12_chains 36 = .ok (.getfield 75, 3) := by decide +kernel
theorem dX12_chains_39 : decode cX12_chains 39 = .ok (.aload_n 0, 1) := by decide +kernel
theorem dX12_chains_40 : decode cX12_chains 40 = .ok (.getfield 271, 3) := by decide +kernel
theorem dX12_chains_43 : decode cX12_chains 43 = .ok (.iload_n 2, 1) := by decide +kernel
theorem dX12_chains_44 : decode cX12_chains 44 = .ok (.iastore, 1) := by decide +kernel
theorem dX12_chains_45 : decode cX12_chains 45 = .ok (.aload_n 0, 1) := by decide +kernel
theorem dX12_chains_46 : decode cX12_chains 46 = .ok (.dup, 1) := by decide +kernel
theorem dX12_chains_47 : decode cX12_chains 47 = .ok (.getfield 271, 3) := by decide +kernel
theorem dX12_chains_50 : decode cX12_chains 50 = .ok (.iconst 1, 1) := by decide +kernel
theorem dX12_chains_51 : decode cX12_chains 51 = .ok (.iadd, 1) := by decide +kernel
theorem dX12_chains_52 : decode cX12_chains 52 = .ok (.putfield 271, 3) := by decide +kernel
theorem dX12_chains_55 : decode cX12_chains 55 = .ok (.aload_n 0, 1) := by decide +kernel
theorem dX12_chains_56 : decode cX12_chains 56 = .ok (.getfield 72, 3) := by decide +kernel
theorem dX12_chains_59 : decode cX12_chains 59 = .ok (.iload_n 2, 1) := by decide +kernel
theorem dX12_chains_60 : decode cX12_chains 60 = .ok (.iaload, 1) := by decide +kernel
theorem dX12_chains_61 : decode cX12_chains 61 = .ok (.istore_n 2, 1) := by decide +kernel
theorem dX12_chains_62 : decode cX12_chains 62 = .ok (.goto (-48), 3) := by decide +kernel
theorem dX12_chains_65 : decode cX12_chains 65 = .ok (.return_, 1) := by decide +kernel
theorem dX12_mishapsNow_0 : decode cX12_mishapsNow 0 = .ok (.iconst 0, 1) := by decide +kernel
theorem dX12_mishapsNow_1 : decode cX12_mishapsNow 1 = .ok (.istore_n 1, 1) := by decide +kernel
theorem dX12_mishapsNow_2 : decode cX12_mishapsNow 2 = .ok (.iconst 0, 1) := by decide +kernel
theorem dX12_mishapsNow_3 : decode cX12_mishapsNow 3 = .ok (.istore_n 2, 1) := by decide +kernel
theorem dX12_mishapsNow_4 : decode cX12_mishapsNow 4 = .ok (.iconst 0, 1) := by decide +kernel
theorem dX12_mishapsNow_5 : decode cX12_mishapsNow 5 = .ok (.istore_n 3, 1) := by decide +kernel
theorem dX12_mishapsNow_6 : decode cX12_mishapsNow 6 = .ok (.iload_n 3, 1) := by decide +kernel
theorem dX12_mishapsNow_7 : decode cX12_mishapsNow 7 = .ok (.aload_n 0, 1) := by decide +kernel
theorem dX12_mishapsNow_8 : decode cX12_mishapsNow 8 = .ok (.getfield 268, 3) := by decide +kernel
theorem dX12_mishapsNow_11 : decode cX12_mishapsNow 11 = .ok (.if_icmp .ge 108, 3) := by decide +kernel
theorem dX12_mishapsNow_14 : decode cX12_mishapsNow 14 = .ok (.aload_n 0, 1) := by decide +kernel
theorem dX12_mishapsNow_15 : decode cX12_mishapsNow 15 = .ok (.iload_n 3, 1) := by decide +kernel
theorem dX12_mishapsNow_16 : decode cX12_mishapsNow 16 = .ok (.invokevirtual 274, 3) := by decide +kernel
theorem dX12_mishapsNow_19 : decode cX12_mishapsNow 19 = .ok (.iload_n 1, 1) := by decide +kernel
theorem dX12_mishapsNow_20 : decode cX12_mishapsNow 20 = .ok (.aload_n 0, 1) := by decide +kernel
theorem dX12_mishapsNow_21 : decode cX12_mishapsNow 21 = .ok (.getfield 271, 3) := by decide +kernel
theorem dX12_mishapsNow_24 : decode cX12_mishapsNow 24 = .ok (.aload_n 0, 1) := by decide +kernel
theorem dX12_mishapsNow_25 : decode cX12_mishapsNow 25 = .ok (.getfield 38, 3) := by decide +kernel
theorem dX12_mishapsNow_28 : decode cX12_mishapsNow 28 = .ok (.iload_n 3, 1) := by decide +kernel
theorem dX12_mishapsNow_29 : decode cX12_mishapsNow 29 = .ok (.iaload, 1) := by decide +kernel
theorem dX12_mishapsNow_30 : decode cX12_mishapsNow 30 = .ok (.if_icmp .ne 7, 3) := by decide +kernel
theorem dX12_mishapsNow_33 : decode cX12_mishapsNow 33 = .ok (.iconst 0, 1) := by decide +kernel
theorem dX12_mishapsNow_34 : decode cX12_mishapsNow 34 = .ok (.goto 4, 3) := by decide +kernel
theorem dX12_mishapsNow_37 : decode cX12_mishapsNow 37 = .ok (.iconst 1, 1) := by decide +kernel
theorem dX12_mishapsNow_38 : decode cX12_mishapsNow 38 = .ok (.iadd, 1) := by decide +kernel
theorem dX12_mishapsNow_39 : decode cX12_mishapsNow 39 = .ok (.istore_n 1, 1) := by decide +kernel
theorem dX12_mishapsNow_40 : decode cX12_mishapsNow 40 = .ok (.iload_n 1, 1) := by decide +kernel
theorem dX12_mishapsNow_41 : decode cX12_mishapsNow 41 = .ok (.aload_n 0, 1) := by decide +kernel
theorem dX12_mishapsNow_42 : decode cX12_mishapsNow 42 = .ok (.getfield 72, 3) := by decide +kernel
theorem dX12_mishapsNow_45 : decode cX12_mishapsNow 45 = .ok (.aload_n 0, 1) := by decide +kernel
theorem dX12_mishapsNow_46 : decode cX12_mishapsNow 46 = .ok (.getfield 75, 3) := by decide +kernel
theorem dX12_mishapsNow_49 : decode cX12_mishapsNow 49 = .ok (.aload_n 0, 1) := by decide +kernel
theorem dX12_mishapsNow_50 : decode cX12_mishapsNow 50 = .ok (.getfield 271, 3) := by decide +kernel
theorem dX12_mishapsNow_53 : decode cX12_mishapsNow 53 = .ok (.iconst 1, 1) := by decide +kernel
theorem dX12_mishapsNow_54 : decode cX12_mishapsNow 54 = .ok (.isub, 1) := by decide +kernel
theorem dX12_mishapsNow_55 : decode cX12_mishapsNow 55 = .ok (.iaload, 1) := by decide +kernel
theorem dX12_mishapsNow_56 : decode cX12_mishapsNow 56 = .ok (.iaload, 1) := by decide +kernel
theorem dX12_mishapsNow_57 : decode cX12_mishapsNow 57 = .ok (.bipush 24, 2) := by decide +kernel
theorem dX12_mishapsNow_59 : decode cX12_mishapsNow 59 = .ok (.if_icmp .ne 7, 3) := by decide +kernel
theorem dX12_mishapsNow_62 : decode cX12_mishapsNow 62 = .ok (.iconst 0, 1) := by decide +kernel
theorem dX12_mishapsNow_63 : decode cX12_mishapsNow 63 = .ok (.goto 4, 3) := by decide +kernel
theorem dX12_mishapsNow_66 : decode cX12_mishapsNow 66 = .ok (.iconst 1, 1) := by decide +kernel
theorem dX12_mishapsNow_67 : decode cX12_mishapsNow 67 = .ok (.iadd, 1) := by decide +kernel
theorem dX12_mishapsNow_68 : decode cX12_mishapsNow 68 = .ok (.istore_n 1, 1) := by decide +kernel
theorem dX12_mishapsNow_69 : decode cX12_mishapsNow 69 = .ok (.iconst 0, 1) := by decide +kernel
theorem dX12_mishapsNow_70 : decode cX12_mishapsNow 70 = .ok (.istore 4, 2) := by decide +kernel
theorem dX12_mishapsNow_72 : decode cX12_mishapsNow 72 = .ok (.iload 4, 2) := by decide +kernel
theorem dX12_mishapsNow_74 : decode cX12_mishapsNow 74 = .ok (.aload_n 0, 1) := by decide +kernel
theorem dX12_mishapsNow_75 : decode cX12_mishapsNow 75 = .ok (.getfield 271, 3) := by decide +kernel
theorem dX12_mishapsNow_78 : decode cX12_mishapsNow 78 = .ok (.if_icmp .ge 35, 3) := by decide +kernel
theorem dX12_mishapsNow_81 : decode cX12_mishapsNow 81 = .ok (.iload_n 1, 1) := by decide +kernel
theorem dX12_mishapsNow_82 : decode cX12_mishapsNow 82 = .ok (.iload_n 2, 1) := by decide +kernel
theorem dX12_mishapsNow_83 : decode cX12_mishapsNow 83 = .ok (.aload_n 0, 1) := by decide +kernel
theorem dX12_mishapsNow_84 : decode cX12_mishapsNow 84 = .ok (.getfield 75, 3) := by decide +kernel
theorem dX12_mishapsNow_87 : decode cX12_mishapsNow 87 = .ok (.iload 4, 2) := by decide +kernel
theorem dX12_mishapsNow_89 : decode cX12_mishapsNow 89 = .ok (.iaload, 1) := by decide +kernel
theorem dX12_mishapsNow_90 : decode cX12_mishapsNow 90 = .ok (.ishr, 1) := by decide +kernel
theorem dX12_mishapsNow_91 : decode cX12_mishapsNow 91 = .ok (.iconst 1, 1) := by decide +kernel
theorem dX12_mishapsNow_92 : decode cX12_mishapsNow 92 = .ok (.iand, 1) := by decide +kernel
theorem dX12_mishapsNow_93 : decode cX12_mishapsNow 93 = .ok (.iadd, 1) := by decide +kernel
theorem dX12_mishapsNow_94 : decode cX12_mishapsNow 94 = .ok (.istore_n 1, 1) := by decide +kernel
theorem dX12_mishapsNow_95 : decode cX12_mishapsNow 95 = .ok (.iload_n 2, 1) := by decide +kernel
theorem dX12_mishapsNow_96 : decode cX12_mishapsNow 96 = .ok (.iconst 1, 1) := by decide +kernel
theorem dX12_mishapsNow_97 : decode cX12_mishapsNow 97 = .ok (.aload_n 0, 1) := by decide +kernel
theorem dX12_mishapsNow_98 : decode cX12_mishapsNow 98 = .ok (.getfield 75, 3) := by decide +kernel
theorem dX12_mishapsNow_101 : decode cX12_mishapsNow 101 = .ok (.iload 4, 2) := by decide +kernel
theorem dX12_mishapsNow_103 : decode cX12_mishapsNow 103 = .ok (.iaload, 1) := by decide +kernel
theorem dX12_mishapsNow_104 : decode cX12_mishapsNow 104 = .ok (.ishl, 1) := by decide +kernel
theorem dX12_mishapsNow_105 : decode cX12_mishapsNow 105 = .ok (.ior, 1) := by decide +kernel
theorem dX12_mishapsNow_106 : decode cX12_mishapsNow 106 = .ok (.istore_n 2, 1) := by decide +kernel
theorem dX12_mishapsNow_107 : decode cX12_mishapsNow 107 = .ok (.iinc 4 1, 3) := by decide +kernel
theorem dX12_mishapsNow_110 : decode cX12_mishapsNow 110 = .ok (.goto (-38), 3) := by decide +kernel
theorem dX12_mishapsNow_113 : decode cX12_mishapsNow 113 = .ok (.iinc 3 1, 3) := by decide +kernel
theorem dX12_mishapsNow_116 : decode cX12_mishapsNow 116 = .ok (.goto (-110), 3) := by decide +kernel
theorem dX12_mishapsNow_119 : decode cX12_mishapsNow 119 = .ok (.iconst 0, 1) := by decide +kernel
theorem dX12_mishapsNow_120 : decode cX12_mishapsNow 120 = .ok (.istore_n 3, 1) := by decide +kernel
theorem dX12_mishapsNow_121 : decode cX12_mishapsNow 121 = .ok (.iload_n 3, 1) := by decide +kernel
theorem dX12_mishapsNow_122 : decode cX12_mishapsNow 122 = .ok (.bipush 24, 2) := by decide +kernel
theorem dX12_mishapsNow_124 : decode cX12_mishapsNow 124 = .ok (.if_icmp .ge 47, 3) := by decide +kernel
theorem dX12_mishapsNow_127 : decode cX12_mishapsNow 127 = .ok (.iload_n 1, 1) := by decide +kernel
theorem dX12_mishapsNow_128 : decode cX12_mishapsNow 128 = .ok (.iload_n 2, 1) := by decide +kernel
theorem dX12_mishapsNow_129 : decode cX12_mishapsNow 129 = .ok (.iload_n 3, 1) := by decide +kernel
theorem dX12_mishapsNow_130 : decode cX12_mishapsNow 130 = .ok (.ishr, 1) := by decide +kernel
theorem dX12_mishapsNow_131 : decode cX12_mishapsNow 131 = .ok (.iconst 1, 1) := by decide +kernel
theorem dX12_mishapsNow_132 : decode cX12_mishapsNow 132 = .ok (.iand, 1) := by decide +kernel
theorem dX12_mishapsNow_133 : decode cX12_mishapsNow 133 = .ok (.ifCond .ne 29, 3) := by decide +kernel
theorem dX12_mishapsNow_136 : decode cX12_mishapsNow 136 = .ok (.aload_n 0, 1) := by decide +kernel
theorem dX12_mishapsNow_137 : decode cX12_mishapsNow 137 = .ok (.getfield 72, 3) := by decide +kernel
theorem dX12_mishapsNow_140 : decode cX12_mishapsNow 140 = .ok (.iload_n 3, 1) := by decide +kernel
theorem dX12_mishapsNow_141 : decode cX12_mishapsNow 141 = .ok (.iaload, 1) := by decide +kernel
theorem dX12_mishapsNow_142 : decode cX12_mishapsNow 142 = .ok (.bipush 25, 2) := by decide +kernel
theorem dX12_mishapsNow_144 : decode cX12_mishapsNow 144 = .ok (.if_icmp .eq 18, 3) := by decide +kernel
theorem dX12_mishapsNow_147 : decode cX12_mishapsNow 147 = .ok (.aload_n 0, 1) := by decide +kernel
theorem dX12_mishapsNow_148 : decode cX12_mishapsNow 148 = .ok (.getfield 72, 3) := by decide +kernel
theorem dX12_mishapsNow_151 : decode cX12_mishapsNow 151 = .ok (.iload_n 3, 1) := by decide +kernel
theorem dX12_mishapsNow_152 : decode cX12_mishapsNow 152 = .ok (.iaload, 1) := by decide +kernel
theorem dX12_mishapsNow_153 : decode cX12_mishapsNow 153 = .ok (.bipush 26, 2) := by decide +kernel
theorem dX12_mishapsNow_155 : decode cX12_mishapsNow 155 = .ok (.if_icmp .eq 7, 3) := by decide +kernel
theorem dX12_mishapsNow_158 : decode cX12_mishapsNow 158 = .ok (.iconst 1, 1) := by decide +kernel
theorem dX12_mishapsNow_159 : decode cX12_mishapsNow 159 = .ok (.goto 4, 3) := by decide +kernel
theorem dX12_mishapsNow_162 : decode cX12_mishapsNow 162 = .ok (.iconst 0, 1) := by decide +kernel
theorem dX12_mishapsNow_163 : decode cX12_mishapsNow 163 = .ok (.iadd, 1) := by decide +kernel
theorem dX12_mishapsNow_164 : decode cX12_mishapsNow 164 = .ok (.istore_n 1, 1) := by decide +kernel
theorem dX12_mishapsNow_165 : decode cX12_mishapsNow 165 = .ok (.iinc 3 1, 3) := by decide +kernel
theorem dX12_mishapsNow_168 : decode cX12_mishapsNow 168 = .ok (.goto (-47), 3) := by decide +kernel
theorem dX12_mishapsNow_171 : decode cX12_mishapsNow 171 = .ok (.iload_n 1, 1) := by decide +kernel
theorem dX12_mishapsNow_172 : decode cX12_mishapsNow 172 = .ok (.ireturn, 1) := by decide +kernel
theorem dX12_takesFrom_0 : decode cX12_takesFrom 0 = .ok (.iconst 0, 1) := by decide +kernel
theorem dX12_takesFrom_1 : decode cX12_takesFrom 1 = .ok (.istore_n 2, 1) := by decide +kernel
theorem dX12_takesFrom_2 : decode cX12_takesFrom 2 = .ok (.iload_n 2, 1) := by decide +kernel
theorem dX12_takesFrom_3 : decode cX12_takesFrom 3 = .ok (.bipush 24, 2) := by decide +kernel
theorem dX12_takesFrom_5 : decode cX12_takesFrom 5 = .ok (.if_icmp .ge 30, 3) := by decide +kernel
theorem dX12_takesFrom_8 : decode cX12_takesFrom 8 = .ok (.aload_n 0, 1) := by decide +kernel
theorem dX12_takesFrom_9 : decode cX12_takesFrom 9 = .ok (.getfield 72, 3) := by decide +kernel
theorem dX12_takesFrom_12 : decode cX12_takesFrom 12 = .ok (.iload_n 2, 1) := by decide +kernel
theorem dX12_takesFrom_13 : decode cX12_takesFrom 13 = .ok (.aload_n 0, 1) := by decide +kernel
theorem dX12_takesFrom_14 : decode cX12_takesFrom 14 = .ok (.getfield 32, 3) := by decide +kernel
theorem dX12_takesFrom_17 : decode cX12_takesFrom 17 = .ok (.bipush 24, 2) := by decide +kernel
theorem dX12_takesFrom_19 : decode cX12_takesFrom 19 = .ok (.iload_n 1, 1) := by decide +kernel
theorem dX12_takesFrom_20 : decode cX12_takesFrom 20 = .ok (.iload_n 2, 1) := by decide +kernel
theorem dX12_takesFrom_21 : decode cX12_takesFrom 21 = .ok (.ishr, 1) := by decide +kernel
theorem dX12_takesFrom_22 : decode cX12_takesFrom 22 = .ok (.iconst 1, 1) := by decide +kernel
theorem dX12_takesFrom_23 : decode cX12_takesFrom 23 = .ok (.iand, 1) := by decide +kernel
theorem dX12_takesFrom_24 : decode cX12_takesFrom 24 = .ok (.imul, 1) := by decide +kernel
theorem dX12_takesFrom_25 : decode cX12_takesFrom 25 = .ok (.iload_n 2, 1) := by decide +kernel
theorem dX12_takesFrom_26 : decode cX12_takesFrom 26 = .ok (.iadd, 1) := by decide +kernel
theorem dX12_takesFrom_27 : decode cX12_takesFrom 27 = .ok (.iaload, 1) := by decide +kernel
theorem dX12_takesFrom_28 : decode cX12_takesFrom 28 = .ok (.iastore, 1) := by decide +kernel
theorem dX12_takesFrom_29 : decode cX12_takesFrom 29 = .ok (.iinc 2 1, 3) := by decide +kernel
theorem dX12_takesFrom_32 : decode cX12_takesFrom 32 = .ok (.goto (-30), 3) := by decide +kernel
theorem dX12_takesFrom_35 : decode cX12_takesFrom 35 = .ok (.return_, 1) := by decide +kernel
theorem dX12_ones_0 : decode cX12_ones 0 = .ok (.iconst 0, 1) := by decide +kernel
theorem dX12_ones_1 : decode cX12_ones 1 = .ok (.istore_n 1, 1) := by decide +kernel
theorem dX12_ones_2 : decode cX12_ones 2 = .ok (.iconst 0, 1) := by decide +kernel
theorem dX12_ones_3 : decode cX12_ones 3 = .ok (.istore_n 2, 1) := by decide +kernel
theorem dX12_ones_4 : decode cX12_ones 4 = .ok (.iload_n 2, 1) := by decide +kernel
theorem dX12_ones_5 : decode cX12_ones 5 = .ok (.bipush 24, 2) := by decide +kernel
theorem dX12_ones_7 : decode cX12_ones 7 = .ok (.if_icmp .ge 17, 3) := by decide +kernel
theorem dX12_ones_10 : decode cX12_ones 10 = .ok (.iload_n 1, 1) := by decide +kernel
theorem dX12_ones_11 : decode cX12_ones 11 = .ok (.iload_n 0, 1) := by decide +kernel
theorem dX12_ones_12 : decode cX12_ones 12 = .ok (.iload_n 2, 1) := by decide +kernel
theorem dX12_ones_13 : decode cX12_ones 13 = .ok (.ishr, 1) := by decide +kernel
theorem dX12_ones_14 : decode cX12_ones 14 = .ok (.iconst 1, 1) := by decide +kernel
theorem dX12_ones_15 : decode cX12_ones 15 = .ok (.iand, 1) := by decide +kernel
theorem dX12_ones_16 : decode cX12_ones 16 = .ok (.iadd, 1) := by decide +kernel
theorem dX12_ones_17 : decode cX12_ones 17 = .ok (.istore_n 1, 1) := by decide +kernel
theorem dX12_ones_18 : decode cX12_ones 18 = .ok (.iinc 2 1, 3) := by decide +kernel
theorem dX12_ones_21 : decode cX12_ones 21 = .ok (.goto (-17), 3) := by decide +kernel
theorem dX12_ones_24 : decode cX12_ones 24 = .ok (.iload_n 1, 1) := by decide +kernel
theorem dX12_ones_25 : decode cX12_ones 25 = .ok (.ireturn, 1) := by decide +kernel
theorem dX12_asks_0 : decode cX12_asks 0 = .ok (.iload_n 1, 1) := by decide +kernel
theorem dX12_asks_1 : decode cX12_asks 1 = .ok (.iconst 0, 1) := by decide +kernel
theorem dX12_asks_2 : decode cX12_asks 2 = .ok (.iconst 2, 1) := by decide +kernel
theorem dX12_asks_3 : decode cX12_asks 3 = .ok (.invokestatic 85, 3) := by decide +kernel
theorem dX12_asks_6 : decode cX12_asks 6 = .ok (.ifCond .ne 5, 3) := by decide +kernel
theorem dX12_asks_9 : decode cX12_asks 9 = .ok (.iconst 0, 1) := by decide +kernel
theorem dX12_asks_10 : decode cX12_asks 10 = .ok (.ireturn, 1) := by decide +kernel
theorem dX12_asks_11 : decode cX12_asks 11 = .ok (.iload_n 1, 1) := by decide +kernel
theorem dX12_asks_12 : decode cX12_asks 12 = .ok (.iconst 2, 1) := by decide +kernel
theorem dX12_asks_13 : decode cX12_asks 13 = .ok (.if_icmp .ge 20, 3) := by decide +kernel
theorem dX12_asks_16 : decode cX12_asks 16 = .ok (.aload_n 0, 1) := by decide +kernel
theorem dX12_asks_17 : decode cX12_asks 17 = .ok (.iload_n 1, 1) := by decide +kernel
theorem dX12_asks_18 : decode cX12_asks 18 = .ok (.ifCond .ne 7, 3) := by decide +kernel
theorem dX12_asks_21 : decode cX12_asks 21 = .ok (.iconst 0, 1) := by decide +kernel
theorem dX12_asks_22 : decode cX12_asks 22 = .ok (.goto 6, 3) := by decide +kernel
theorem dX12_asks_25 : decode cX12_asks 25 = .ok (.ldc_w 277, 3) := by decide +kernel
theorem dX12_asks_28 : decode cX12_asks 28 = .ok (.invokevirtual 278, 3) := by decide +kernel
theorem dX12_asks_31 : decode cX12_asks 31 = .ok (.iconst 1, 1) := by decide +kernel
theorem dX12_asks_32 : decode cX12_asks 32 = .ok (.ireturn, 1) := by decide +kernel
theorem dX12_asks_33 : decode cX12_asks 33 = .ok (.iconst 0, 1) := by decide +kernel
theorem dX12_asks_34 : decode cX12_asks 34 = .ok (.istore_n 2, 1) := by decide +kernel
theorem dX12_asks_35 : decode cX12_asks 35 = .ok (.iconst 0, 1) := by decide +kernel
theorem dX12_asks_36 : decode cX12_asks 36 = .ok (.istore_n 3, 1) := by decide +kernel
theorem dX12_asks_37 : decode cX12_asks 37 = .ok (.iload_n 3, 1) := by decide +kernel
theorem dX12_asks_38 : decode cX12_asks 38 = .ok (.bipush 24, 2) := by decide +kernel
theorem dX12_asks_40 : decode cX12_asks 40 = .ok (.if_icmp .ge 37, 3) := by decide +kernel
theorem dX12_asks_43 : decode cX12_asks 43 = .ok (.iload_n 2, 1) := by decide +kernel
theorem dX12_asks_44 : decode cX12_asks 44 = .ok (.aload_n 0, 1) := by decide +kernel
theorem dX12_asks_45 : decode cX12_asks 45 = .ok (.getfield 32, 3) := by decide +kernel
theorem dX12_asks_48 : decode cX12_asks 48 = .ok (.iload_n 3, 1) := by decide +kernel
theorem dX12_asks_49 : decode cX12_asks 49 = .ok (.iaload, 1) := by decide +kernel
theorem dX12_asks_50 : decode cX12_asks 50 = .ok (.aload_n 0, 1) := by decide +kernel
theorem dX12_asks_51 : decode cX12_asks 51 = .ok (.getfield 32, 3) := by decide +kernel
theorem dX12_asks_54 : decode cX12_asks 54 = .ok (.bipush 24, 2) := by decide +kernel
theorem dX12_asks_56 : decode cX12_asks 56 = .ok (.iload_n 3, 1) := by decide +kernel
theorem dX12_asks_57 : decode cX12_asks 57 = .ok (.iadd, 1) := by decide +kernel
theorem dX12_asks_58 : decode cX12_asks 58 = .ok (.iaload, 1) := by decide +kernel
theorem dX12_asks_59 : decode cX12_asks 59 = .ok (.if_icmp .eq 9, 3) := by decide +kernel
theorem dX12_asks_62 : decode cX12_asks 62 = .ok (.iconst 1, 1) := by decide +kernel
theorem dX12_asks_63 : decode cX12_asks 63 = .ok (.iload_n 3, 1) := by decide +kernel
theorem dX12_asks_64 : decode cX12_asks 64 = .ok (.ishl, 1) := by decide +kernel
theorem dX12_asks_65 : decode cX12_asks 65 = .ok (.goto 4, 3) := by decide +kernel
theorem dX12_asks_68 : decode cX12_asks 68 = .ok (.iconst 0, 1) := by decide +kernel
theorem dX12_asks_69 : decode cX12_asks 69 = .ok (.ior, 1) := by decide +kernel
theorem dX12_asks_70 : decode cX12_asks 70 = .ok (.istore_n 2, 1) := by decide +kernel
theorem dX12_asks_71 : decode cX12_asks 71 = .ok (.iinc 3 1, 3) := by decide +kernel
theorem dX12_asks_74 : decode cX12_asks 74 = .ok (.goto (-37), 3) := by decide +kernel
theorem dX12_asks_77 : decode cX12_asks 77 = .ok (.iload_n 2, 1) := by decide +kernel
theorem dX12_asks_78 : decode cX12_asks 78 = .ok (.invokestatic 281, 3) := by decide +kernel
theorem dX12_asks_81 : decode cX12_asks 81 = .ok (.bipush 12, 2) := by decide +kernel
theorem dX12_asks_83 : decode cX12_asks 83 = .ok (.if_icmp .le 5, 3) := by decide +kernel
theorem dX12_asks_86 : decode cX12_asks 86 = .ok (.iconst 0, 1) := by decide +kernel
theorem dX12_asks_87 : decode cX12_asks 87 = .ok (.ireturn, 1) := by decide +kernel
theorem dX12_asks_88 : decode cX12_asks 88 = .ok (.iconst (-1), 1) := by decide +kernel
theorem dX12_asks_89 : decode cX12_asks 89 = .ok (.istore_n 3, 1) := by decide +kernel
theorem dX12_asks_90 : decode cX12_asks 90 = .ok (.iconst 0, 1) := by decide +kernel
theorem dX12_asks_91 : decode cX12_asks 91 = .ok (.istore 4, 2) := by decide +kernel
theorem dX12_asks_93 : decode cX12_asks 93 = .ok (.iconst 0, 1) := by decide +kernel
theorem dX12_asks_94 : decode cX12_asks 94 = .ok (.istore 5, 2) := by decide +kernel
theorem dX12_asks_96 : decode cX12_asks 96 = .ok (.iconst 1, 1) := by decide +kernel
theorem dX12_asks_97 : decode cX12_asks 97 = .ok (.istore 6, 2) := by decide +kernel
theorem dX12_asks_99 : decode cX12_asks 99 = .ok (.iload 6, 2) := by decide +kernel
theorem dX12_asks_101 : decode cX12_asks 101 = .ok (.ifCond .eq 80, 3) := by decide +kernel
theorem dX12_asks_104 : decode cX12_asks 104 = .ok (.aload_n 0, 1) := by decide +kernel
theorem dX12_asks_105 : decode cX12_asks 105 = .ok (.iload 5, 2) := by decide +kernel
theorem dX12_asks_107 : decode cX12_asks 107 = .ok (.invokevirtual 278, 3) := by decide +kernel
theorem dX12_asks_110 : decode cX12_asks 110 = .ok (.aload_n 0, 1) := by decide +kernel
theorem dX12_asks_111 : decode cX12_asks 111 = .ok (.invokevirtual 284, 3) := by decide +kernel
theorem dX12_asks_114 : decode cX12_asks 114 = .ok (.istore 7, 2) := by decide +kernel
theorem dX12_asks_116 : decode cX12_asks 116 = .ok (.iload_n 3, 1) := by decide +kernel
theorem dX12_asks_117 : decode cX12_asks 117 = .ok (.iconst (-1), 1) := by decide +kernel
theorem dX12_asks_118 : decode cX12_asks 118 = .ok (.if_icmp .eq 29, 3) := by decide +kernel
theorem dX12_asks_121 : decode cX12_asks 121 = .ok (.iload 7, 2) := by decide +kernel
theorem dX12_asks_123 : decode cX12_asks 123 = .ok (.iload 4, 2) := by decide +kernel
theorem dX12_asks_125 : decode cX12_asks 125 = .ok (.if_icmp .lt 22, 3) := by decide +kernel
theorem dX12_asks_128 : decode cX12_asks 128 = .ok (.iload 7, 2) := by decide +kernel
theorem dX12_asks_130 : decode cX12_asks 130 = .ok (.iload 4, 2) := by decide +kernel
theorem dX12_asks_132 : decode cX12_asks 132 = .ok (.if_icmp .ne 22, 3) := by decide +kernel
theorem dX12_asks_135 : decode cX12_asks 135 = .ok (.iload 5, 2) := by decide +kernel
theorem dX12_asks_137 : decode cX12_asks 137 = .ok (.invokestatic 281, 3) := by decide +kernel
theorem dX12_asks_140 : decode cX12_asks 140 = .ok (.iload_n 3, 1) := by decide +kernel
theorem dX12_asks_141 : decode cX12_asks 141 = .ok (.invokestatic 281, 3) := by decide +kernel
theorem dX12_asks_144 : decode cX12_asks 144 = .ok (.if_icmp .ge 10, 3) := by decide +kernel
theorem dX12_asks_147 : decode cX12_asks 147 = .ok (.iload 5, 2) := by decide +kernel
theorem dX12_asks_149 : decode cX12_asks 149 = .ok (.istore_n 3, 1) := by decide +kernel
theorem dX12_asks_150 : decode cX12_asks 150 = .ok (.iload 7, 2) := by decide +kernel
theorem dX12_asks_152 : decode cX12_asks 152 = .ok (.istore 4, 2) := by decide +kernel
theorem dX12_asks_154 : decode cX12_asks 154 = .ok (.iload 5, 2) := by decide +kernel
theorem dX12_asks_156 : decode cX12_asks 156 = .ok (.iload_n 2, 1) := by decide +kernel
theorem dX12_asks_157 : decode cX12_asks 157 = .ok (.iconst (-1), 1) := by decide +kernel
theorem dX12_asks_158 : decode cX12_asks 158 = .ok (.ixor, 1) := by decide +kernel
theorem dX12_asks_159 : decode cX12_asks 159 = .ok (.ior, 1) := by decide +kernel
theorem dX12_asks_160 : decode cX12_asks 160 = .ok (.iconst 1, 1) := by decide +kernel
theorem dX12_asks_161 : decode cX12_asks 161 = .ok (.iadd, 1) := by decide +kernel
theorem dX12_asks_162 : decode cX12_asks 162 = .ok (.iload_n 2, 1) := by decide +kernel
theorem dX12_asks_163 : decode cX12_asks 163 = .ok (.iand, 1) := by decide +kernel
theorem dX12_asks_164 : decode cX12_asks 164 = .ok (.istore 5, 2) := by decide +kernel
theorem dX12_asks_166 : decode cX12_asks 166 = .ok (.iload 5, 2) := by decide +kernel
theorem dX12_asks_168 : decode cX12_asks 168 = .ok (.ifCond .eq 7, 3) := by decide +kernel
theorem dX12_asks_171 : decode cX12_asks 171 = .ok (.iconst 1, 1) := by decide +kernel
theorem dX12_asks_172 : decode cX12_asks 172 = .ok (.goto 4, 3) := by decide +kernel
theorem dX12_asks_175 : decode cX12_asks 175 = .ok (.iconst 0, 1) := by decide +kernel
theorem dX12_asks_176 : decode cX12_asks 176 = .ok (.istore 6, 2) := by decide +kernel
theorem dX12_asks_178 : decode cX12_asks 178 = .ok (.goto (-79), 3) := by decide +kernel
theorem dX12_asks_181 : decode cX12_asks 181 = .ok (.aload_n 0, 1) := by decide +kernel
theorem dX12_asks_182 : decode cX12_asks 182 = .ok (.iload_n 3, 1) := by decide +kernel
theorem dX12_asks_183 : decode cX12_asks 183 = .ok (.invokevirtual 278, 3) := by decide +kernel
theorem dX12_asks_186 : decode cX12_asks 186 = .ok (.iconst 1, 1) := by decide +kernel
theorem dX12_asks_187 : decode cX12_asks 187 = .ok (.ireturn, 1) := by decide +kernel
theorem dX12_mishaps_0 : decode cX12_mishaps 0 = .ok (.aload_n 0, 1) := by decide +kernel
theorem dX12_mishaps_1 : decode cX12_mishaps 1 = .ok (.iload_n 1, 1) := by decide +kernel
theorem dX12_mishaps_2 : decode cX12_mishaps 2 = .ok (.invokevirtual 287, 3) := by decide +kernel
theorem dX12_mishaps_5 : decode cX12_mishaps 5 = .ok (.ifCond .eq 10, 3) := by decide +kernel
theorem dX12_mishaps_8 : decode cX12_mishaps 8 = .ok (.aload_n 0, 1) := by decide +kernel
theorem dX12_mishaps_9 : decode cX12_mishaps 9 = .ok (.invokevirtual 284, 3) := by decide +kernel
theorem dX12_mishaps_12 : decode cX12_mishaps 12 = .ok (.goto 4, 3) := by decide +kernel
theorem dX12_mishaps_15 : decode cX12_mishaps 15 = .ok (.iconst (-1), 1) := by decide +kernel
theorem dX12_mishaps_16 : decode cX12_mishaps 16 = .ok (.ireturn, 1) := by decide +kernel
theorem dX12_next_0 : decode cX12_next 0 = .ok (.iload_n 2, 1) := by decide +kernel
theorem dX12_next_1 : decode cX12_next 1 = .ok (.invokestatic 265, 3) := by decide +kernel
theorem dX12_next_4 : decode cX12_next 4 = .ok (.ifCond .eq 20, 3) := by decide +kernel
theorem dX12_next_7 : decode cX12_next 7 = .ok (.aload_n 0, 1) := by decide +kernel
theorem dX12_next_8 : decode cX12_next 8 = .ok (.iload_n 1, 1) := by decide +kernel
theorem dX12_next_9 : decode cX12_next 9 = .ok (.invokevirtual 287, 3) := by decide +kernel
theorem dX12_next_12 : decode cX12_next 12 = .ok (.ifCond .eq 12, 3) := by decide +kernel
theorem dX12_next_15 : decode cX12_next 15 = .ok (.aload_n 0, 1) := by decide +kernel
theorem dX12_next_16 : decode cX12_next 16 = .ok (.getfield 72, 3) := by decide +kernel
theorem dX12_next_19 : decode cX12_next 19 = .ok (.iload_n 2, 1) := by decide +kernel
theorem dX12_next_20 : decode cX12_next 20 = .ok (.iaload, 1) := by decide +kernel
theorem dX12_next_21 : decode cX12_next 21 = .ok (.goto 4, 3) := by decide +kernel
theorem dX12_next_24 : decode cX12_next 24 = .ok (.iconst (-1), 1) := by decide +kernel
theorem dX12_next_25 : decode cX12_next 25 = .ok (.ireturn, 1) := by decide +kernel
theorem dX12_chain_0 : decode cX12_chain 0 = .ok (.iload_n 2, 1) := by decide +kernel
theorem dX12_chain_1 : decode cX12_chain 1 = .ok (.iconst 0, 1) := by decide +kernel
theorem dX12_chain_2 : decode cX12_chain 2 = .ok (.aload_n 0, 1) := by decide +kernel
theorem dX12_chain_3 : decode cX12_chain 3 = .ok (.getfield 268, 3) := by decide +kernel
theorem dX12_chain_6 : decode cX12_chain 6 = .ok (.iconst 1, 1) := by decide +kernel
theorem dX12_chain_7 : decode cX12_chain 7 = .ok (.isub, 1) := by decide +kernel
theorem dX12_chain_8 : decode cX12_chain 8 = .ok (.invokestatic 85, 3) := by decide +kernel
theorem dX12_chain_11 : decode cX12_chain 11 = .ok (.ifCond .eq 11, 3) := by decide +kernel
theorem dX12_chain_14 : decode cX12_chain 14 = .ok (.aload_n 0, 1) := by decide +kernel
theorem dX12_chain_15 : decode cX12_chain 15 = .ok (.iload_n 1, 1) := by decide +kernel
theorem dX12_chain_16 : decode cX12_chain 16 = .ok (.invokevirtual 287, 3) := by decide +kernel
theorem dX12_chain_19 : decode cX12_chain 19 = .ok (.ifCond .ne 5, 3) := by decide +kernel
theorem dX12_chain_22 : decode cX12_chain 22 = .ok (.iconst (-1), 1) := by decide +kernel
theorem dX12_chain_23 : decode cX12_chain 23 = .ok (.ireturn, 1) := by decide +kernel
theorem dX12_chain_24 : decode cX12_chain 24 = .ok (.aload_n 0, 1) := by decide +kernel
theorem dX12_chain_25 : decode cX12_chain 25 = .ok (.iload_n 2, 1) := by decide +kernel
theorem dX12_chain_26 : decode cX12_chain 26 = .ok (.invokevirtual 274, 3) := by decide +kernel
theorem dX12_chain_29 : decode cX12_chain 29 = .ok (.iload_n 3, 1) := by decide +kernel
theorem dX12_chain_30 : decode cX12_chain 30 = .ok (.iconst (-1), 1) := by decide +kernel
theorem dX12_chain_31 : decode cX12_chain 31 = .ok (.if_icmp .ne 10, 3) := by decide +kernel
theorem dX12_chain_34 : decode cX12_chain 34 = .ok (.aload_n 0, 1) := by decide +kernel
theorem dX12_chain_35 : decode cX12_chain 35 = .ok (.getfield 271, 3) := by decide +kernel
theorem dX12_chain_38 : decode cX12_chain 38 = .ok (.goto 27, 3) := by decide +kernel
theorem dX12_chain_41 : decode cX12_chain 41 = .ok (.iload_n 3, 1) := by decide +kernel
theorem dX12_chain_42 : decode cX12_chain 42 = .ok (.iconst 0, 1) := by decide +kernel
theorem dX12_chain_43 : decode cX12_chain 43 = .ok (.aload_n 0, 1) := by decide +kernel
theorem dX12_chain_44 : decode cX12_chain 44 = .ok (.getfield 271, 3) := by decide +kernel
theorem dX12_chain_47 : decode cX12_chain 47 = .ok (.iconst 1, 1) := by decide +kernel
theorem dX12_chain_48 : decode cX12_chain 48 = .ok (.isub, 1) := by decide +kernel
theorem dX12_chain_49 : decode cX12_chain 49 = .ok (.invokestatic 85, 3) := by decide +kernel
theorem dX12_chain_52 : decode cX12_chain 52 = .ok (.ifCond .eq 12, 3) := by decide +kernel
theorem dX12_chain_55 : decode cX12_chain 55 = .ok (.aload_n 0, 1) := by decide +kernel
theorem dX12_chain_56 : decode cX12_chain 56 = .ok (.getfield 75, 3) := by decide +kernel
theorem dX12_chain_59 : decode cX12_chain 59 = .ok (.iload_n 3, 1) := by decide +kernel
theorem dX12_chain_60 : decode cX12_chain 60 = .ok (.iaload, 1) := by decide +kernel
theorem dX12_chain_61 : decode cX12_chain 61 = .ok (.goto 4, 3) := by decide +kernel
theorem dX12_chain_64 : decode cX12_chain 64 = .ok (.iconst (-1), 1) := by decide +kernel
theorem dX12_chain_65 : decode cX12_chain 65 = .ok (.ireturn, 1) := by decide +kernel
theorem dX12_gaps_0 : decode cX12_gaps 0 = .ok (.iload_n 1, 1) := by decide +kernel
theorem dX12_gaps_1 : decode cX12_gaps 1 = .ok (.iconst 0, 1) := by decide +kernel
theorem dX12_gaps_2 : decode cX12_gaps 2 = .ok (.aload_n 0, 1) := by decide +kernel
theorem dX12_gaps_3 : decode cX12_gaps 3 = .ok (.getfield 268, 3) := by decide +kernel
theorem dX12_gaps_6 : decode cX12_gaps 6 = .ok (.iconst 1, 1) := by decide +kernel
theorem dX12_gaps_7 : decode cX12_gaps 7 = .ok (.isub, 1) := by decide +kernel
theorem dX12_gaps_8 : decode cX12_gaps 8 = .ok (.invokestatic 85, 3) := by decide +kernel
theorem dX12_gaps_11 : decode cX12_gaps 11 = .ok (.ifCond .eq 18, 3) := by decide +kernel
theorem dX12_gaps_14 : decode cX12_gaps 14 = .ok (.aload_n 0, 1) := by decide +kernel
theorem dX12_gaps_15 : decode cX12_gaps 15 = .ok (.getfield 171, 3) := by decide +kernel
theorem dX12_gaps_18 : decode cX12_gaps 18 = .ok (.ifCond .eq 11, 3) := by decide +kernel
theorem dX12_gaps_21 : decode cX12_gaps 21 = .ok (.aload_n 0, 1) := by decide +kernel
theorem dX12_gaps_22 : decode cX12_gaps 22 = .ok (.iconst 2, 1) := by decide +kernel
theorem dX12_gaps_23 : decode cX12_gaps 23 = .ok (.invokevirtual 287, 3) := by decide +kernel
theorem dX12_gaps_26 : decode cX12_gaps 26 = .ok (.ifCond .ne 5, 3) := by decide +kernel
theorem dX12_gaps_29 : decode cX12_gaps 29 = .ok (.iconst (-1), 1) := by decide +kernel
theorem dX12_gaps_30 : decode cX12_gaps 30 = .ok (.ireturn, 1) := by decide +kernel
theorem dX12_gaps_31 : decode cX12_gaps 31 = .ok (.aload_n 0, 1) := by decide +kernel
theorem dX12_gaps_32 : decode cX12_gaps 32 = .ok (.iload_n 1, 1) := by decide +kernel
theorem dX12_gaps_33 : decode cX12_gaps 33 = .ok (.invokevirtual 274, 3) := by decide +kernel
theorem dX12_gaps_36 : decode cX12_gaps 36 = .ok (.iconst 0, 1) := by decide +kernel
theorem dX12_gaps_37 : decode cX12_gaps 37 = .ok (.istore_n 2, 1) := by decide +kernel
theorem dX12_gaps_38 : decode cX12_gaps 38 = .ok (.iconst 0, 1) := by decide +kernel
theorem dX12_gaps_39 : decode cX12_gaps 39 = .ok (.istore_n 3, 1) := by decide +kernel
theorem dX12_gaps_40 : decode cX12_gaps 40 = .ok (.iload_n 3, 1) := by decide +kernel
theorem dX12_gaps_41 : decode cX12_gaps 41 = .ok (.aload_n 0, 1) := by decide +kernel
theorem dX12_gaps_42 : decode cX12_gaps 42 = .ok (.getfield 271, 3) := by decide +kernel
theorem dX12_gaps_45 : decode cX12_gaps 45 = .ok (.if_icmp .ge 43, 3) := by decide +kernel
theorem dX12_gaps_48 : decode cX12_gaps 48 = .ok (.iload_n 2, 1) := by decide +kernel
theorem dX12_gaps_49 : decode cX12_gaps 49 = .ok (.aload_n 0, 1) := by decide +kernel
theorem dX12_gaps_50 : decode cX12_gaps 50 = .ok (.aload_n 0, 1) := by decide +kernel
theorem dX12_gaps_51 : decode cX12_gaps 51 = .ok (.getfield 75, 3) := by decide +kernel
theorem dX12_gaps_54 : decode cX12_gaps 54 = .ok (.iload_n 3, 1) := by decide +kernel
theorem dX12_gaps_55 : decode cX12_gaps 55 = .ok (.iaload, 1) := by decide +kernel
theorem dX12_gaps_56 : decode cX12_gaps 56 = .ok (.iconst 4, 1) := by decide +kernel
theorem dX12_gaps_57 : decode cX12_gaps 57 = .ok (.idiv, 1) := by decide +kernel
theorem dX12_gaps_58 : decode cX12_gaps 58 = .ok (.aload_n 0, 1) := by decide +kernel
theorem dX12_gaps_59 : decode cX12_gaps 59 = .ok (.getfield 75, 3) := by decide +kernel
theorem dX12_gaps_62 : decode cX12_gaps 62 = .ok (.iload_n 3, 1) := by decide +kernel
theorem dX12_gaps_63 : decode cX12_gaps 63 = .ok (.iaload, 1) := by decide +kernel
theorem dX12_gaps_64 : decode cX12_gaps 64 = .ok (.iconst 4, 1) := by decide +kernel
theorem dX12_gaps_65 : decode cX12_gaps 65 = .ok (.irem, 1) := by decide +kernel
theorem dX12_gaps_66 : decode cX12_gaps 66 = .ok (.invokevirtual 259, 3) := by decide +kernel
theorem dX12_gaps_69 : decode cX12_gaps 69 = .ok (.invokestatic 262, 3) := by decide +kernel
theorem dX12_gaps_72 : decode cX12_gaps 72 = .ok (.ifCond .eq 7, 3) := by decide +kernel
theorem dX12_gaps_75 : decode cX12_gaps 75 = .ok (.iconst 0, 1) := by decide +kernel
theorem dX12_gaps_76 : decode cX12_gaps 76 = .ok (.goto 4, 3) := by decide +kernel
theorem dX12_gaps_79 : decode cX12_gaps 79 = .ok (.iconst 1, 1) := by decide +kernel
theorem dX12_gaps_80 : decode cX12_gaps 80 = .ok (.iadd, 1) := by decide +kernel
theorem dX12_gaps_81 : decode cX12_gaps 81 = .ok (.istore_n 2, 1) := by decide +kernel
theorem dX12_gaps_82 : decode cX12_gaps 82 = .ok (.iinc 3 1, 3) := by decide +kernel
theorem dX12_gaps_85 : decode cX12_gaps 85 = .ok (.goto (-45), 3) := by decide +kernel
theorem dX12_gaps_88 : decode cX12_gaps 88 = .ok (.iload_n 2, 1) := by decide +kernel
theorem dX12_gaps_89 : decode cX12_gaps 89 = .ok (.ireturn, 1) := by decide +kernel
theorem dX12_hope_0 : decode cX12_hope 0 = .ok (.aload_n 0, 1) := by decide +kernel
theorem dX12_hope_1 : decode cX12_hope 1 = .ok (.getfield 171, 3) := by decide +kernel
theorem dX12_hope_4 : decode cX12_hope 4 = .ok (.ifCond .eq 12, 3) := by decide +kernel
theorem dX12_hope_7 : decode cX12_hope 7 = .ok (.iload_n 1, 1) := by decide +kernel
theorem dX12_hope_8 : decode cX12_hope 8 = .ok (.iconst 0, 1) := by decide +kernel
theorem dX12_hope_9 : decode cX12_hope 9 = .ok (.iconst 3, 1) := by decide +kernel
theorem dX12_hope_10 : decode cX12_hope 10 = .ok (.invokestatic 85, 3) := by decide +kernel
theorem dX12_hope_13 : decode cX12_hope 13 = .ok (.ifCond .ne 7, 3) := by decide +kernel
theorem dX12_hope_16 : decode cX12_hope 16 = .ok (.sipush (-999), 3) := by decide +kernel
theorem dX12_hope_19 : decode cX12_hope 19 = .ok (.ireturn, 1) := by decide +kernel
theorem dX12_hope_20 : decode cX12_hope 20 = .ok (.iconst 0, 1) := by decide +kernel
theorem dX12_hope_21 : decode cX12_hope 21 = .ok (.istore_n 2, 1) := by decide +kernel
theorem dX12_hope_22 : decode cX12_hope 22 = .ok (.iconst 0, 1) := by decide +kernel
theorem dX12_hope_23 : decode cX12_hope 23 = .ok (.istore_n 3, 1) := by decide +kernel
theorem dX12_hope_24 : decode cX12_hope 24 = .ok (.iconst 0, 1) := by decide +kernel
theorem dX12_hope_25 : decode cX12_hope 25 = .ok (.istore 4, 2) := by decide +kernel
theorem dX12_hope_27 : decode cX12_hope 27 = .ok (.iconst 0, 1) := by decide +kernel
theorem dX12_hope_28 : decode cX12_hope 28 = .ok (.istore 5, 2) := by decide +kernel
theorem dX12_hope_30 : decode cX12_hope 30 = .ok (.iload 5, 2) := by decide +kernel
theorem dX12_hope_32 : decode cX12_hope 32 = .ok (.aload_n 0, 1) := by decide +kernel
theorem dX12_hope_33 : decode cX12_hope 33 = .ok (.getfield 175, 3) := by decide +kernel
theorem dX12_hope_36 : decode cX12_hope 36 = .ok (.if_icmp .ge 82, 3) := by decide +kernel
theorem dX12_hope_39 : decode cX12_hope 39 = .ok (.aload_n 0, 1) := by decide +kernel
theorem dX12_hope_40 : decode cX12_hope 40 = .ok (.getfield 23, 3) := by decide +kernel
theorem dX12_hope_43 : decode cX12_hope 43 = .ok (.iload 5, 2) := by decide +kernel
theorem dX12_hope_45 : decode cX12_hope 45 = .ok (.iaload, 1) := by decide +kernel
theorem dX12_hope_46 : decode cX12_hope 46 = .ok (.iload_n 1, 1) := by decide +kernel
theorem dX12_hope_47 : decode cX12_hope 47 = .ok (.if_icmp .eq 6, 3) := by decide +kernel
theorem dX12_hope_50 : decode cX12_hope 50 = .ok (.goto 62, 3) := by decide +kernel
theorem dX12_hope_53 : decode cX12_hope 53 = .ok (.iinc 4 1, 3) := by decide +kernel
theorem dX12_hope_56 : decode cX12_hope 56 = .ok (.aload_n 0, 1) := by decide +kernel
theorem dX12_hope_57 : decode cX12_hope 57 = .ok (.iload 5, 2) := by decide +kernel
theorem dX12_hope_59 : decode cX12_hope 59 = .ok (.aload_n 0, 1) := by decide +kernel
theorem dX12_hope_60 : decode cX12_hope 60 = .ok (.getfield 17, 3) := by decide +kernel
theorem dX12_hope_63 : decode cX12_hope 63 = .ok (.iconst 0, 1) := by decide +kernel
theorem dX12_hope_64 : decode cX12_hope 64 = .ok (.iaload, 1) := by decide +kernel
theorem dX12_hope_65 : decode cX12_hope 65 = .ok (.aload_n 0, 1) := by decide +kernel
theorem dX12_hope_66 : decode cX12_hope 66 = .ok (.getfield 17, 3) := by decide +kernel
theorem dX12_hope_69 : decode cX12_hope 69 = .ok (.iconst 1, 1) := by decide +kernel
theorem dX12_hope_70 : decode cX12_hope 70 = .ok (.iaload, 1) := by decide +kernel
theorem dX12_hope_71 : decode cX12_hope 71 = .ok (.invokevirtual 224, 3) := by decide +kernel
theorem dX12_hope_74 : decode cX12_hope 74 = .ok (.iconst 0, 1) := by decide +kernel
theorem dX12_hope_75 : decode cX12_hope 75 = .ok (.istore 6, 2) := by decide +kernel
theorem dX12_hope_77 : decode cX12_hope 77 = .ok (.iload 6, 2) := by decide +kernel
theorem dX12_hope_79 : decode cX12_hope 79 = .ok (.aload_n 0, 1) := by decide +kernel
theorem dX12_hope_80 : decode cX12_hope 80 = .ok (.getfield 201, 3) := by decide +kernel
theorem dX12_hope_83 : decode cX12_hope 83 = .ok (.if_icmp .ge 29, 3) := by decide +kernel
theorem dX12_hope_86 : decode cX12_hope 86 = .ok (.iinc 2 1, 3) := by decide +kernel
theorem dX12_hope_89 : decode cX12_hope 89 = .ok (.iload_n 3, 1) := by decide +kernel
theorem dX12_hope_90 : decode cX12_hope 90 = .ok (.aload_n 0, 1) := by decide +kernel
theorem dX12_hope_91 : decode cX12_hope 91 = .ok (.iload 6, 2) := by decide +kernel
theorem dX12_hope_93 : decode cX12_hope 93 = .ok (.invokevirtual 239, 3) := by decide +kernel
theorem dX12_hope_96 : decode cX12_hope 96 = .ok (.ifCond .eq 7, 3) := by decide +kernel
theorem dX12_hope_99 : decode cX12_hope 99 = .ok (.iconst 1, 1) := by decide +kernel
theorem dX12_hope_100 : decode cX12_hope 100 = .ok (.goto 4, 3) := by decide +kernel
theorem dX12_hope_103 : decode cX12_hope 103 = .ok (.iconst 0, 1) := by decide +kernel
theorem dX12_hope_104 : decode cX12_hope 104 = .ok (.iadd, 1) := by decide +kernel
theorem dX12_hope_105 : decode cX12_hope 105 = .ok (.istore_n 3, 1) := by decide +kernel
theorem dX12_hope_106 : decode cX12_hope 106 = .ok (.iinc 6 1, 3) := by decide +kernel
theorem dX12_hope_109 : decode cX12_hope 109 = .ok (.goto (-32), 3) := by decide +kernel
theorem dX12_hope_112 : decode cX12_hope 112 = .ok (.iinc 5 1, 3) := by decide +kernel
theorem dX12_hope_115 : decode cX12_hope 115 = .ok (.goto (-85), 3) := by decide +kernel
theorem dX12_hope_118 : decode cX12_hope 118 = .ok (.iload_n 2, 1) := by decide +kernel
theorem dX12_hope_119 : decode cX12_hope 119 = .ok (.ifCond .ne 8, 3) := by decide +kernel
theorem dX12_hope_122 : decode cX12_hope 122 = .ok (.bipush 50, 2) := by decide +kernel
theorem dX12_hope_124 : decode cX12_hope 124 = .ok (.goto 9, 3) := by decide +kernel
theorem dX12_hope_127 : decode cX12_hope 127 = .ok (.bipush 100, 2) := by decide +kernel
theorem dX12_hope_129 : decode cX12_hope 129 = .ok (.iload_n 3, 1) := by decide +kernel
theorem dX12_hope_130 : decode cX12_hope 130 = .ok (.imul, 1) := by decide +kernel
theorem dX12_hope_131 : decode cX12_hope 131 = .ok (.iload_n 2, 1) := by decide +kernel
theorem dX12_hope_132 : decode cX12_hope 132 = .ok (.idiv, 1) := by decide +kernel
theorem dX12_hope_133 : decode cX12_hope 133 = .ok (.bipush 10, 2) := by decide +kernel
theorem dX12_hope_135 : decode cX12_hope 135 = .ok (.iload 4, 2) := by decide +kernel
theorem dX12_hope_137 : decode cX12_hope 137 = .ok (.imul, 1) := by decide +kernel
theorem dX12_hope_138 : decode cX12_hope 138 = .ok (.isub, 1) := by decide +kernel
theorem dX12_hope_139 : decode cX12_hope 139 = .ok (.ireturn, 1) := by decide +kernel
theorem dX12_ask_0 : decode cX12_ask 0 = .ok (.aload_n 0, 1) := by decide +kernel
theorem dX12_ask_1 : decode cX12_ask 1 = .ok (.getfield 171, 3) := by decide +kernel
theorem dX12_ask_4 : decode cX12_ask 4 = .ok (.ifCond .eq 12, 3) := by decide +kernel
theorem dX12_ask_7 : decode cX12_ask 7 = .ok (.iload_n 1, 1) := by decide +kernel
theorem dX12_ask_8 : decode cX12_ask 8 = .ok (.iconst 0, 1) := by decide +kernel
theorem dX12_ask_9 : decode cX12_ask 9 = .ok (.iconst 1, 1) := by decide +kernel
theorem dX12_ask_10 : decode cX12_ask 10 = .ok (.invokestatic 85, 3) := by decide +kernel
theorem dX12_ask_13 : decode cX12_ask 13 = .ok (.ifCond .ne 5, 3) := by decide +kernel
theorem dX12_ask_16 : decode cX12_ask 16 = .ok (.iconst (-1), 1) := by decide +kernel
theorem dX12_ask_17 : decode cX12_ask 17 = .ok (.ireturn, 1) := by decide +kernel
theorem dX12_ask_18 : decode cX12_ask 18 = .ok (.iconst 0, 1) := by decide +kernel
theorem dX12_ask_19 : decode cX12_ask 19 = .ok (.istore_n 2, 1) := by decide +kernel
theorem dX12_ask_20 : decode cX12_ask 20 = .ok (.iload_n 1, 1) := by decide +kernel
theorem dX12_ask_21 : decode cX12_ask 21 = .ok (.ifCond .ne 33, 3) := by decide +kernel
theorem dX12_ask_24 : decode cX12_ask 24 = .ok (.iconst 1, 1) := by decide +kernel
theorem dX12_ask_25 : decode cX12_ask 25 = .ok (.istore_n 3, 1) := by decide +kernel
theorem dX12_ask_26 : decode cX12_ask 26 = .ok (.iload_n 3, 1) := by decide +kernel
theorem dX12_ask_27 : decode cX12_ask 27 = .ok (.iconst 4, 1) := by decide +kernel
theorem dX12_ask_28 : decode cX12_ask 28 = .ok (.if_icmp .ge 24, 3) := by decide +kernel
theorem dX12_ask_31 : decode cX12_ask 31 = .ok (.aload_n 0, 1) := by decide +kernel
theorem dX12_ask_32 : decode cX12_ask 32 = .ok (.iload_n 3, 1) := by decide +kernel
theorem dX12_ask_33 : decode cX12_ask 33 = .ok (.invokevirtual 290, 3) := by decide +kernel
theorem dX12_ask_36 : decode cX12_ask 36 = .ok (.aload_n 0, 1) := by decide +kernel
theorem dX12_ask_37 : decode cX12_ask 37 = .ok (.iload_n 2, 1) := by decide +kernel
theorem dX12_ask_38 : decode cX12_ask 38 = .ok (.invokevirtual 290, 3) := by decide +kernel
theorem dX12_ask_41 : decode cX12_ask 41 = .ok (.if_icmp .le 5, 3) := by decide +kernel
theorem dX12_ask_44 : decode cX12_ask 44 = .ok (.iload_n 3, 1) := by decide +kernel
theorem dX12_ask_45 : decode cX12_ask 45 = .ok (.istore_n 2, 1) := by decide +kernel
theorem dX12_ask_46 : decode cX12_ask 46 = .ok (.iinc 3 1, 3) := by decide +kernel
theorem dX12_ask_49 : decode cX12_ask 49 = .ok (.goto (-23), 3) := by decide +kernel
theorem dX12_ask_52 : decode cX12_ask 52 = .ok (.iload_n 2, 1) := by decide +kernel
theorem dX12_ask_53 : decode cX12_ask 53 = .ok (.ireturn, 1) := by decide +kernel
theorem dX12_ask_54 : decode cX12_ask 54 = .ok (.ldc_w 277, 3) := by decide +kernel
theorem dX12_ask_57 : decode cX12_ask 57 = .ok (.istore_n 3, 1) := by decide +kernel
theorem dX12_ask_58 : decode cX12_ask 58 = .ok (.aload_n 0, 1) := by decide +kernel
theorem dX12_ask_59 : decode cX12_ask 59 = .ok (.iconst 2, 1) := by decide +kernel
theorem dX12_ask_60 : decode cX12_ask 60 = .ok (.invokevirtual 287, 3) := by decide +kernel
theorem dX12_ask_63 : decode cX12_ask 63 = .ok (.ifCond .eq 59, 3) := by decide +kernel
theorem dX12_ask_66 : decode cX12_ask 66 = .ok (.iconst 0, 1) := by decide +kernel
theorem dX12_ask_67 : decode cX12_ask 67 = .ok (.istore_n 3, 1) := by decide +kernel
theorem dX12_ask_68 : decode cX12_ask 68 = .ok (.iconst 0, 1) := by decide +kernel
theorem dX12_ask_69 : decode cX12_ask 69 = .ok (.istore 4, 2) := by decide +kernel
theorem dX12_ask_71 : decode cX12_ask 71 = .ok (.iload 4, 2) := by decide +kernel
theorem dX12_ask_73 : decode cX12_ask 73 = .ok (.aload_n 0, 1) := by decide +kernel
theorem dX12_ask_74 : decode cX12_ask 74 = .ok (.getfield 268, 3) := by decide +kernel
theorem dX12_ask_77 : decode cX12_ask 77 = .ok (.if_icmp .ge 45, 3) := by decide +kernel
theorem dX12_ask_80 : decode cX12_ask 80 = .ok (.aload_n 0, 1) := by decide +kernel
theorem dX12_ask_81 : decode cX12_ask 81 = .ok (.iload 4, 2) := by decide +kernel
theorem dX12_ask_83 : decode cX12_ask 83 = .ok (.invokevirtual 274, 3) := by decide +kernel
theorem dX12_ask_86 : decode cX12_ask 86 = .ok (.iconst 0, 1) := by decide +kernel
theorem dX12_ask_87 : decode cX12_ask 87 = .ok (.istore 5, 2) := by decide +kernel
theorem dX12_ask_89 : decode cX12_ask 89 = .ok (.iload 5, 2) := by decide +kernel
theorem dX12_ask_91 : decode cX12_ask 91 = .ok (.aload_n 0, 1) := by decide +kernel
theorem dX12_ask_92 : decode cX12_ask 92 = .ok (.getfield 271, 3) := by decide +kernel
theorem dX12_ask_95 : decode cX12_ask 95 = .ok (.if_icmp .ge 21, 3) := by decide +kernel
theorem dX12_ask_98 : decode cX12_ask 98 = .ok (.iload_n 3, 1) := by decide +kernel
theorem dX12_ask_99 : decode cX12_ask 99 = .ok (.iconst 1, 1) := by decide +kernel
theorem dX12_ask_100 : decode cX12_ask 100 = .ok (.aload_n 0, 1) := by decide +kernel
theorem dX12_ask_101 : decode cX12_ask 101 = .ok (.getfield 75, 3) := by decide +kernel
theorem dX12_ask_104 : decode cX12_ask 104 = .ok (.iload 5, 2) := by decide +kernel
theorem dX12_ask_106 : decode cX12_ask 106 = .ok (.iaload, 1) := by decide +kernel
theorem dX12_ask_107 : decode cX12_ask 107 = .ok (.ishl, 1) := by decide +kernel
theorem dX12_ask_108 : decode cX12_ask 108 = .ok (.ior, 1) := by decide +kernel
theorem dX12_ask_109 : decode cX12_ask 109 = .ok (.istore_n 3, 1) := by decide +kernel
theorem dX12_ask_110 : decode cX12_ask 110 = .ok (.iinc 5 1, 3) := by decide +kernel
theorem dX12_ask_113 : decode cX12_ask 113 = .ok (.goto (-24), 3) := by decide +kernel
theorem dX12_ask_116 : decode cX12_ask 116 = .ok (.iinc 4 1, 3) := by decide +kernel
theorem dX12_ask_119 : decode cX12_ask 119 = .ok (.goto (-48), 3) := by decide +kernel
theorem dX12_ask_122 : decode cX12_ask 122 = .ok (.iconst 0, 1) := by decide +kernel
theorem dX12_ask_123 : decode cX12_ask 123 = .ok (.istore 4, 2) := by decide +kernel
theorem dX12_ask_125 : decode cX12_ask 125 = .ok (.iconst 0, 1) := by decide +kernel
theorem dX12_ask_126 : decode cX12_ask 126 = .ok (.istore 5, 2) := by decide +kernel
theorem dX12_ask_128 : decode cX12_ask 128 = .ok (.iload 5, 2) := by decide +kernel
theorem dX12_ask_130 : decode cX12_ask 130 = .ok (.bipush 6, 2) := by decide +kernel
theorem dX12_ask_132 : decode cX12_ask 132 = .ok (.if_icmp .ge 83, 3) := by decide +kernel
theorem dX12_ask_135 : decode cX12_ask 135 = .ok (.iconst 0, 1) := by decide +kernel
theorem dX12_ask_136 : decode cX12_ask 136 = .ok (.istore 6, 2) := by decide +kernel
theorem dX12_ask_138 : decode cX12_ask 138 = .ok (.iconst 0, 1) := by decide +kernel
theorem dX12_ask_139 : decode cX12_ask 139 = .ok (.istore 7, 2) := by decide +kernel
theorem dX12_ask_141 : decode cX12_ask 141 = .ok (.iload 7, 2) := by decide +kernel
theorem dX12_ask_143 : decode cX12_ask 143 = .ok (.iconst 4, 1) := by decide +kernel
theorem dX12_ask_144 : decode cX12_ask 144 = .ok (.if_icmp .ge 48, 3) := by decide +kernel
theorem dX12_ask_147 : decode cX12_ask 147 = .ok (.iload 6, 2) := by decide +kernel
theorem dX12_ask_149 : decode cX12_ask 149 = .ok (.iload_n 3, 1) := by decide +kernel
theorem dX12_ask_150 : decode cX12_ask 150 = .ok (.iconst 4, 1) := by decide +kernel
theorem dX12_ask_151 : decode cX12_ask 151 = .ok (.iload 5, 2) := by decide +kernel
theorem dX12_ask_153 : decode cX12_ask 153 = .ok (.imul, 1) := by decide +kernel
theorem dX12_ask_154 : decode cX12_ask 154 = .ok (.iload 7, 2) := by decide +kernel
theorem dX12_ask_156 : decode cX12_ask 156 = .ok (.iadd, 1) := by decide +kernel
theorem dX12_ask_157 : decode cX12_ask 157 = .ok (.ishr, 1) := by decide +kernel
theorem dX12_ask_158 : decode cX12_ask 158 = .ok (.iconst 1, 1) := by decide +kernel
theorem dX12_ask_159 : decode cX12_ask 159 = .ok (.iand, 1) := by decide +kernel
theorem dX12_ask_160 : decode cX12_ask 160 = .ok (.iconst 1, 1) := by decide +kernel
theorem dX12_ask_161 : decode cX12_ask 161 = .ok (.if_icmp .ne 21, 3) := by decide +kernel
theorem dX12_ask_164 : decode cX12_ask 164 = .ok (.aload_n 0, 1) := by decide +kernel
theorem dX12_ask_165 : decode cX12_ask 165 = .ok (.iload 5, 2) := by decide +kernel
theorem dX12_ask_167 : decode cX12_ask 167 = .ok (.iload 7, 2) := by decide +kernel
theorem dX12_ask_169 : decode cX12_ask 169 = .ok (.invokevirtual 259, 3) := by decide +kernel
theorem dX12_ask_172 : decode cX12_ask 172 = .ok (.invokestatic 262, 3) := by decide +kernel
theorem dX12_ask_175 : decode cX12_ask 175 = .ok (.ifCond .ne 7, 3) := by decide +kernel
theorem dX12_ask_178 : decode cX12_ask 178 = .ok (.iconst 1, 1) := by decide +kernel
theorem dX12_ask_179 : decode cX12_ask 179 = .ok (.goto 4, 3) := by decide +kernel
theorem dX12_ask_182 : decode cX12_ask 182 = .ok (.iconst 0, 1) := by decide +kernel
theorem dX12_ask_183 : decode cX12_ask 183 = .ok (.iadd, 1) := by decide +kernel
theorem dX12_ask_184 : decode cX12_ask 184 = .ok (.istore 6, 2) := by decide +kernel
theorem dX12_ask_186 : decode cX12_ask 186 = .ok (.iinc 7 1, 3) := by decide +kernel
theorem dX12_ask_189 : decode cX12_ask 189 = .ok (.goto (-48), 3) := by decide +kernel
theorem dX12_ask_192 : decode cX12_ask 192 = .ok (.iload 6, 2) := by decide +kernel
theorem dX12_ask_194 : decode cX12_ask 194 = .ok (.iload 4, 2) := by decide +kernel
theorem dX12_ask_196 : decode cX12_ask 196 = .ok (.if_icmp .gt 6, 3) := by decide +kernel
theorem dX12_ask_199 : decode cX12_ask 199 = .ok (.goto 10, 3) := by decide +kernel
theorem dX12_ask_202 : decode cX12_ask 202 = .ok (.iload 6, 2) := by decide +kernel
theorem dX12_ask_204 : decode cX12_ask 204 = .ok (.istore 4, 2) := by decide +kernel
theorem dX12_ask_206 : decode cX12_ask 206 = .ok (.iload 5, 2) := by decide +kernel
theorem dX12_ask_208 : decode cX12_ask 208 = .ok (.istore_n 2, 1) := by decide +kernel
theorem dX12_ask_209 : decode cX12_ask 209 = .ok (.iinc 5 1, 3) := by decide +kernel
theorem dX12_ask_212 : decode cX12_ask 212 = .ok (.goto (-84), 3) := by decide +kernel
theorem dX12_ask_215 : decode cX12_ask 215 = .ok (.iload_n 2, 1) := by decide +kernel
theorem dX12_ask_216 : decode cX12_ask 216 = .ok (.ireturn, 1) := by decide +kernel
theorem dX12_lays_0 : decode cX12_lays 0 = .ok (.aload_n 0, 1) := by decide +kernel
theorem dX12_lays_1 : decode cX12_lays 1 = .ok (.getfield 293, 3) := by decide +kernel
theorem dX12_lays_4 : decode cX12_lays 4 = .ok (.ifCond .lt 13, 3) := by decide +kernel
theorem dX12_lays_7 : decode cX12_lays 7 = .ok (.aload_n 0, 1) := by decide +kernel
theorem dX12_lays_8 : decode cX12_lays 8 = .ok (.dup, 1) := by decide +kernel
theorem dX12_lays_9 : decode cX12_lays 9 = .ok (.getfield 293, 3) := by decide +kernel
theorem dX12_lays_12 : decode cX12_lays 12 = .ok (.iconst 1, 1) := by decide +kernel
theorem dX12_lays_13 : decode cX12_lays 13 = .ok (.iadd, 1) := by decide +kernel
theorem dX12_lays_14 : decode cX12_lays 14 = .ok (.putfield 293, 3) := by decide +kernel
theorem dX12_lays_17 : decode cX12_lays 17 = .ok (.iload_n 1, 1) := by decide +kernel
theorem dX12_lays_18 : decode cX12_lays 18 = .ok (.ifCond .ne 5, 3) := by decide +kernel
theorem dX12_lays_21 : decode cX12_lays 21 = .ok (.iconst 1, 1) := by decide +kernel
theorem dX12_lays_22 : decode cX12_lays 22 = .ok (.ireturn, 1) := by decide +kernel
theorem dX12_lays_23 : decode cX12_lays 23 = .ok (.aload_n 0, 1) := by decide +kernel
theorem dX12_lays_24 : decode cX12_lays 24 = .ok (.getfield 293, 3) := by decide +kernel
theorem dX12_lays_27 : decode cX12_lays 27 = .ok (.ifCond .le 52, 3) := by decide +kernel
theorem dX12_lays_30 : decode cX12_lays 30 = .ok (.aload_n 0, 1) := by decide +kernel
theorem dX12_lays_31 : decode cX12_lays 31 = .ok (.getfield 293, 3) := by decide +kernel
theorem dX12_lays_34 : decode cX12_lays 34 = .ok (.aload_n 0, 1) := by decide +kernel
theorem dX12_lays_35 : decode cX12_lays 35 = .ok (.getfield 17, 3) := by decide +kernel
theorem dX12_lays_38 : decode cX12_lays 38 = .ok (.iconst 0, 1) := by decide +kernel
theorem dX12_lays_39 : decode cX12_lays 39 = .ok (.iaload, 1) := by decide +kernel
theorem dX12_lays_40 : decode cX12_lays 40 = .ok (.imul, 1) := by decide +kernel
theorem dX12_lays_41 : decode cX12_lays 41 = .ok (.sipush 255, 3) := by decide +kernel
theorem dX12_lays_44 : decode cX12_lays 44 = .ok (.if_icmp .le 5, 3) := by decide +kernel
theorem dX12_lays_47 : decode cX12_lays 47 = .ok (.iconst 0, 1) := by decide +kernel
theorem dX12_lays_48 : decode cX12_lays 48 = .ok (.ireturn, 1) := by decide +kernel
theorem dX12_lays_49 : decode cX12_lays 49 = .ok (.aload_n 0, 1) := by decide +kernel
theorem dX12_lays_50 : decode cX12_lays 50 = .ok (.getfield 78, 3) := by decide +kernel
theorem dX12_lays_53 : decode cX12_lays 53 = .ok (.aload_n 0, 1) := by decide +kernel
theorem dX12_lays_54 : decode cX12_lays 54 = .ok (.getfield 296, 3) := by decide +kernel
theorem dX12_lays_57 : decode cX12_lays 57 = .ok (.aload_n 0, 1) := by decide +kernel
theorem dX12_lays_58 : decode cX12_lays 58 = .ok (.getfield 293, 3) := by decide +kernel
theorem dX12_lays_61 : decode cX12_lays 61 = .ok (.aload_n 0, 1) := by decide +kernel
theorem dX12_lays_62 : decode cX12_lays 62 = .ok (.getfield 17, 3) := by decide +kernel
theorem dX12_lays_65 : decode cX12_lays 65 = .ok (.iconst 0, 1) := by decide +kernel
theorem dX12_lays_66 : decode cX12_lays 66 = .ok (.iaload, 1) := by decide +kernel
theorem dX12_lays_67 : decode cX12_lays 67 = .ok (.imul, 1) := by decide +kernel
theorem dX12_lays_68 : decode cX12_lays 68 = .ok (.iastore, 1) := by decide +kernel
theorem dX12_lays_69 : decode cX12_lays 69 = .ok (.aload_n 0, 1) := by decide +kernel
theorem dX12_lays_70 : decode cX12_lays 70 = .ok (.dup, 1) := by decide +kernel
theorem dX12_lays_71 : decode cX12_lays 71 = .ok (.getfield 296, 3) := by decide +kernel
theorem dX12_lays_74 : decode cX12_lays 74 = .ok (.iconst 1, 1) := by decide +kernel
theorem dX12_lays_75 : decode cX12_lays 75 = .ok (.iadd, 1) := by decide +kernel
theorem dX12_lays_76 : decode cX12_lays 76 = .ok (.putfield 296, 3) := by decide +kernel
theorem dX12_lays_79 : decode cX12_lays 79 = .ok (.aload_n 0, 1) := by decide +kernel
theorem dX12_lays_80 : decode cX12_lays 80 = .ok (.iconst 0, 1) := by decide +kernel
theorem dX12_lays_81 : decode cX12_lays 81 = .ok (.putfield 293, 3) := by decide +kernel
theorem dX12_lays_84 : decode cX12_lays 84 = .ok (.iconst 1, 1) := by decide +kernel
theorem dX12_lays_85 : decode cX12_lays 85 = .ok (.ireturn, 1) := by decide +kernel
theorem dX12_writes_0 : decode cX12_writes 0 = .ok (.aload_n 0, 1) := by decide +kernel
theorem dX12_writes_1 : decode cX12_writes 1 = .ok (.iconst 0, 1) := by decide +kernel
theorem dX12_writes_2 : decode cX12_writes 2 = .ok (.putfield 296, 3) := by decide +kernel
theorem dX12_writes_5 : decode cX12_writes 5 = .ok (.aload_n 0, 1) := by decide +kernel
theorem dX12_writes_6 : decode cX12_writes 6 = .ok (.iconst (-1), 1) := by decide +kernel
theorem dX12_writes_7 : decode cX12_writes 7 = .ok (.putfield 293, 3) := by decide +kernel
theorem dX12_writes_10 : decode cX12_writes 10 = .ok (.iconst 1, 1) := by decide +kernel
theorem dX12_writes_11 : decode cX12_writes 11 = .ok (.istore_n 1, 1) := by decide +kernel
theorem dX12_writes_12 : decode cX12_writes 12 = .ok (.iconst 0, 1) := by decide +kernel
theorem dX12_writes_13 : decode cX12_writes 13 = .ok (.istore_n 2, 1) := by decide +kernel
theorem dX12_writes_14 : decode cX12_writes 14 = .ok (.iload_n 2, 1) := by decide +kernel
theorem dX12_writes_15 : decode cX12_writes 15 = .ok (.bipush 8, 2) := by decide +kernel
theorem dX12_writes_17 : decode cX12_writes 17 = .ok (.if_icmp .ge 23, 3) := by decide +kernel
theorem dX12_writes_20 : decode cX12_writes 20 = .ok (.iload_n 1, 1) := by decide +kernel
theorem dX12_writes_21 : decode cX12_writes 21 = .ok (.aload_n 0, 1) := by decide +kernel
theorem dX12_writes_22 : decode cX12_writes 22 = .ok (.iconst 1, 1) := by decide +kernel
theorem dX12_writes_23 : decode cX12_writes 23 = .ok (.invokevirtual 299, 3) := by decide +kernel
theorem dX12_writes_26 : decode cX12_writes 26 = .ok (.aload_n 0, 1) := by decide +kernel
theorem dX12_writes_27 : decode cX12_writes 27 = .ok (.iconst 0, 1) := by decide +kernel
theorem dX12_writes_28 : decode cX12_writes 28 = .ok (.invokevirtual 299, 3) := by decide +kernel
theorem dX12_writes_31 : decode cX12_writes 31 = .ok (.iand, 1) := by decide +kernel
theorem dX12_writes_32 : decode cX12_writes 32 = .ok (.iand, 1) := by decide +kernel
theorem dX12_writes_33 : decode cX12_writes 33 = .ok (.istore_n 1, 1) := by decide +kernel
theorem dX12_writes_34 : decode cX12_writes 34 = .ok (.iinc 2 1, 3) := by decide +kernel
theorem dX12_writes_37 : decode cX12_writes 37 = .ok (.goto (-23), 3) := by decide +kernel
theorem dX12_writes_40 : decode cX12_writes 40 = .ok (.sipush 256, 3) := by decide +kernel
theorem dX12_writes_43 : decode cX12_writes 43 = .ok (.aload_n 0, 1) := by decide +kernel
theorem dX12_writes_44 : decode cX12_writes 44 = .ok (.getfield 17, 3) := by decide +kernel
theorem dX12_writes_47 : decode cX12_writes 47 = .ok (.iconst 2, 1) := by decide +kernel
theorem dX12_writes_48 : decode cX12_writes 48 = .ok (.iaload, 1) := by decide +kernel
theorem dX12_writes_49 : decode cX12_writes 49 = .ok (.imul, 1) := by decide +kernel
theorem dX12_writes_50 : decode cX12_writes 50 = .ok (.aload_n 0, 1) := by decide +kernel
theorem dX12_writes_51 : decode cX12_writes 51 = .ok (.getfield 17, 3) := by decide +kernel
theorem dX12_writes_54 : decode cX12_writes 54 = .ok (.iconst 3, 1) := by decide +kernel
theorem dX12_writes_55 : decode cX12_writes 55 = .ok (.iaload, 1) := by decide +kernel
theorem dX12_writes_56 : decode cX12_writes 56 = .ok (.iadd, 1) := by decide +kernel
theorem dX12_writes_57 : decode cX12_writes 57 = .ok (.istore_n 2, 1) := by decide +kernel
theorem dX12_writes_58 : decode cX12_writes 58 = .ok (.bipush 15, 2) := by decide +kernel
theorem dX12_writes_60 : decode cX12_writes 60 = .ok (.istore_n 3, 1) := by decide +kernel
theorem dX12_writes_61 : decode cX12_writes 61 = .ok (.iload_n 3, 1) := by decide +kernel
theorem dX12_writes_62 : decode cX12_writes 62 = .ok (.ifCond .lt 21, 3) := by decide +kernel
theorem dX12_writes_65 : decode cX12_writes 65 = .ok (.iload_n 1, 1) := by decide +kernel
theorem dX12_writes_66 : decode cX12_writes 66 = .ok (.aload_n 0, 1) := by decide +kernel
theorem dX12_writes_67 : decode cX12_writes 67 = .ok (.iload_n 2, 1) := by decide +kernel
theorem dX12_writes_68 : decode cX12_writes 68 = .ok (.iload_n 3, 1) := by decide +kernel
theorem dX12_writes_69 : decode cX12_writes 69 = .ok (.invokestatic 198, 3) := by decide +kernel
theorem dX12_writes_72 : decode cX12_writes 72 = .ok (.invokevirtual 299, 3) := by decide +kernel
theorem dX12_writes_75 : decode cX12_writes 75 = .ok (.iand, 1) := by decide +kernel
theorem dX12_writes_76 : decode cX12_writes 76 = .ok (.istore_n 1, 1) := by decide +kernel
theorem dX12_writes_77 : decode cX12_writes 77 = .ok (.iinc 3 (-1), 3) := by decide +kernel
theorem dX12_writes_80 : decode cX12_writes 80 = .ok (.goto (-19), 3) := by decide +kernel
theorem dX12_writes_83 : decode cX12_writes 83 = .ok (.iconst 0, 1) := by decide +kernel
theorem dX12_writes_84 : decode cX12_writes 84 = .ok (.istore_n 3, 1) := by decide +kernel
theorem dX12_writes_85 : decode cX12_writes 85 = .ok (.iload_n 3, 1) := by decide +kernel
theorem dX12_writes_86 : decode cX12_writes 86 = .ok (.aload_n 0, 1) := by decide +kernel
theorem dX12_writes_87 : decode cX12_writes 87 = .ok (.invokevirtual 204, 3) := by decide +kernel
theorem dX12_writes_90 : decode cX12_writes 90 = .ok (.if_icmp .ge 21, 3) := by decide +kernel
theorem dX12_writes_93 : decode cX12_writes 93 = .ok (.aload_n 0, 1) := by decide +kernel
theorem dX12_writes_94 : decode cX12_writes 94 = .ok (.getfield 54, 3) := by decide +kernel
theorem dX12_writes_97 : decode cX12_writes 97 = .ok (.iload_n 3, 1) := by decide +kernel
theorem dX12_writes_98 : decode cX12_writes 98 = .ok (.aload_n 0, 1) := by decide +kernel
theorem dX12_writes_99 : decode cX12_writes 99 = .ok (.getfield 63, 3) := by decide +kernel
theorem dX12_writes_102 : decode cX12_writes 102 = .ok (.iload_n 3, 1) := by decide +kernel
theorem dX12_writes_103 : decode cX12_writes 103 = .ok (.iaload, 1) := by decide +kernel
theorem dX12_writes_104 : decode cX12_writes 104 = .ok (.iastore, 1) := by decide +kernel
theorem dX12_writes_105 : decode cX12_writes 105 = .ok (.iinc 3 1, 3) := by decide +kernel
theorem dX12_writes_108 : decode cX12_writes 108 = .ok (.goto (-23), 3) := by decide +kernel
theorem dX12_writes_111 : decode cX12_writes 111 = .ok (.aload_n 0, 1) := by decide +kernel
theorem dX12_writes_112 : decode cX12_writes 112 = .ok (.invokevirtual 214, 3) := by decide +kernel
theorem dX12_writes_115 : decode cX12_writes 115 = .ok (.istore_n 3, 1) := by decide +kernel
theorem dX12_writes_116 : decode cX12_writes 116 = .ok (.aload_n 0, 1) := by decide +kernel
theorem dX12_writes_117 : decode cX12_writes 117 = .ok (.getfield 63, 3) := by decide +kernel
theorem dX12_writes_120 : decode cX12_writes 120 = .ok (.aload_n 0, 1) := by decide +kernel
theorem dX12_writes_121 : decode cX12_writes 121 = .ok (.invokevirtual 204, 3) := by decide +kernel
theorem dX12_writes_124 : decode cX12_writes 124 = .ok (.iconst 2, 1) := by decide +kernel
theorem dX12_writes_125 : decode cX12_writes 125 = .ok (.isub, 1) := by decide +kernel
theorem dX12_writes_126 : decode cX12_writes 126 = .ok (.iload_n 3, 1) := by decide +kernel
theorem dX12_writes_127 : decode cX12_writes 127 = .ok (.sipush 256, 3) := by decide +kernel
theorem dX12_writes_130 : decode cX12_writes 130 = .ok (.idiv, 1) := by decide +kernel
theorem dX12_writes_131 : decode cX12_writes 131 = .ok (.iastore, 1) := by decide +kernel
theorem dX12_writes_132 : decode cX12_writes 132 = .ok (.aload_n 0, 1) := by decide +kernel
theorem dX12_writes_133 : decode cX12_writes 133 = .ok (.getfield 63, 3) := by decide +kernel
theorem dX12_writes_136 : decode cX12_writes 136 = .ok (.aload_n 0, 1) := by decide +kernel
theorem dX12_writes_137 : decode cX12_writes 137 = .ok (.invokevirtual 204, 3) := by decide +kernel
theorem dX12_writes_140 : decode cX12_writes 140 = .ok (.iconst 1, 1) := by decide +kernel
theorem dX12_writes_141 : decode cX12_writes 141 = .ok (.isub, 1) := by decide +kernel
theorem dX12_writes_142 : decode cX12_writes 142 = .ok (.iload_n 3, 1) := by decide +kernel
theorem dX12_writes_143 : decode cX12_writes 143 = .ok (.sipush 256, 3) := by decide +kernel
theorem dX12_writes_146 : decode cX12_writes 146 = .ok (.irem, 1) := by decide +kernel
theorem dX12_writes_147 : decode cX12_writes 147 = .ok (.iastore, 1) := by decide +kernel
theorem dX12_writes_148 : decode cX12_writes 148 = .ok (.aload_n 0, 1) := by decide +kernel
theorem dX12_writes_149 : decode cX12_writes 149 = .ok (.getfield 17, 3) := by decide +kernel
theorem dX12_writes_152 : decode cX12_writes 152 = .ok (.iconst 3, 1) := by decide +kernel
theorem dX12_writes_153 : decode cX12_writes 153 = .ok (.iaload, 1) := by decide +kernel
theorem dX12_writes_154 : decode cX12_writes 154 = .ok (.iconst 0, 1) := by decide +kernel
theorem dX12_writes_155 : decode cX12_writes 155 = .ok (.invokestatic 198, 3) := by decide +kernel
theorem dX12_writes_158 : decode cX12_writes 158 = .ok (.istore 4, 2) := by decide +kernel
theorem dX12_writes_160 : decode cX12_writes 160 = .ok (.iconst 0, 1) := by decide +kernel
theorem dX12_writes_161 : decode cX12_writes 161 = .ok (.istore 5, 2) := by decide +kernel
theorem dX12_writes_163 : decode cX12_writes 163 = .ok (.iload 5, 2) := by decide +kernel
theorem dX12_writes_165 : decode cX12_writes 165 = .ok (.aload_n 0, 1) := by decide +kernel
theorem dX12_writes_166 : decode cX12_writes 166 = .ok (.invokevirtual 204, 3) := by decide +kernel
theorem dX12_writes_169 : decode cX12_writes 169 = .ok (.if_icmp .ge 73, 3) := by decide +kernel
theorem dX12_writes_172 : decode cX12_writes 172 = .ok (.bipush 7, 2) := by decide +kernel
theorem dX12_writes_174 : decode cX12_writes 174 = .ok (.istore 6, 2) := by decide +kernel
theorem dX12_writes_176 : decode cX12_writes 176 = .ok (.iload 6, 2) := by decide +kernel
theorem dX12_writes_178 : decode cX12_writes 178 = .ok (.ifCond .lt 58, 3) := by decide +kernel
theorem dX12_writes_181 : decode cX12_writes 181 = .ok (.aload_n 0, 1) := by decide +kernel
theorem dX12_writes_182 : decode cX12_writes 182 = .ok (.getfield 63, 3) := by decide +kernel
theorem dX12_writes_185 : decode cX12_writes 185 = .ok (.iload 5, 2) := by decide +kernel
theorem dX12_writes_187 : decode cX12_writes 187 = .ok (.iaload, 1) := by decide +kernel
theorem dX12_writes_188 : decode cX12_writes 188 = .ok (.iload 6, 2) := by decide +kernel
theorem dX12_writes_190 : decode cX12_writes 190 = .ok (.invokestatic 198, 3) := by decide +kernel
theorem dX12_writes_193 : decode cX12_writes 193 = .ok (.istore 7, 2) := by decide +kernel
theorem dX12_writes_195 : decode cX12_writes 195 = .ok (.iload_n 1, 1) := by decide +kernel
theorem dX12_writes_196 : decode cX12_writes 196 = .ok (.aload_n 0, 1) := by decide +kernel
theorem dX12_writes_197 : decode cX12_writes 197 = .ok (.iload 4, 2) := by decide +kernel
theorem dX12_writes_199 : decode cX12_writes 199 = .ok (.ifCond .ne 12, 3) := by decide +kernel
theorem dX12_writes_202 : decode cX12_writes 202 = .ok (.iload 7, 2) := by decide +kernel
theorem dX12_writes_204 : decode cX12_writes 204 = .ok (.ifCond .ne 7, 3) := by decide +kernel
theorem dX12_writes_207 : decode cX12_writes 207 = .ok (.iconst 1, 1) := by decide +kernel
theorem dX12_writes_208 : decode cX12_writes 208 = .ok (.goto 4, 3) := by decide +kernel
theorem dX12_writes_211 : decode cX12_writes 211 = .ok (.iconst 0, 1) := by decide +kernel
theorem dX12_writes_212 : decode cX12_writes 212 = .ok (.invokevirtual 299, 3) := by decide +kernel
theorem dX12_writes_215 : decode cX12_writes 215 = .ok (.iand, 1) := by decide +kernel
theorem dX12_writes_216 : decode cX12_writes 216 = .ok (.istore_n 1, 1) := by decide +kernel
theorem dX12_writes_217 : decode cX12_writes 217 = .ok (.iload_n 1, 1) := by decide +kernel
theorem dX12_writes_218 : decode cX12_writes 218 = .ok (.aload_n 0, 1) := by decide +kernel
theorem dX12_writes_219 : decode cX12_writes 219 = .ok (.iload 7, 2) := by decide +kernel
theorem dX12_writes_221 : decode cX12_writes 221 = .ok (.invokevirtual 299, 3) := by decide +kernel
theorem dX12_writes_224 : decode cX12_writes 224 = .ok (.iand, 1) := by decide +kernel
theorem dX12_writes_225 : decode cX12_writes 225 = .ok (.istore_n 1, 1) := by decide +kernel
theorem dX12_writes_226 : decode cX12_writes 226 = .ok (.iload 7, 2) := by decide +kernel
theorem dX12_writes_228 : decode cX12_writes 228 = .ok (.istore 4, 2) := by decide +kernel
theorem dX12_writes_230 : decode cX12_writes 230 = .ok (.iinc 6 (-1), 3) := by decide +kernel
theorem dX12_writes_233 : decode cX12_writes 233 = .ok (.goto (-57), 3) := by decide +kernel
theorem dX12_writes_236 : decode cX12_writes 236 = .ok (.iinc 5 1, 3) := by decide +kernel
theorem dX12_writes_239 : decode cX12_writes 239 = .ok (.goto (-76), 3) := by decide +kernel
theorem dX12_writes_242 : decode cX12_writes 242 = .ok (.iload_n 1, 1) := by decide +kernel
theorem dX12_writes_243 : decode cX12_writes 243 = .ok (.aload_n 0, 1) := by decide +kernel
theorem dX12_writes_244 : decode cX12_writes 244 = .ok (.iconst 1, 1) := by decide +kernel
theorem dX12_writes_245 : decode cX12_writes 245 = .ok (.invokevirtual 299, 3) := by decide +kernel
theorem dX12_writes_248 : decode cX12_writes 248 = .ok (.iand, 1) := by decide +kernel
theorem dX12_writes_249 : decode cX12_writes 249 = .ok (.ireturn, 1) := by decide +kernel
theorem dX12_written_0 : decode cX12_written 0 = .ok (.aload_n 0, 1) := by decide +kernel
theorem dX12_written_1 : decode cX12_written 1 = .ok (.iload_n 1, 1) := by decide +kernel
theorem dX12_written_2 : decode cX12_written 2 = .ok (.iload_n 2, 1) := by decide +kernel
theorem dX12_written_3 : decode cX12_written 3 = .ok (.invokevirtual 256, 3) := by decide +kernel
theorem dX12_written_6 : decode cX12_written 6 = .ok (.ifCond .eq 22, 3) := by decide +kernel
theorem dX12_written_9 : decode cX12_written 9 = .ok (.aload_n 0, 1) := by decide +kernel
theorem dX12_written_10 : decode cX12_written 10 = .ok (.iload_n 1, 1) := by decide +kernel
theorem dX12_written_11 : decode cX12_written 11 = .ok (.iload_n 2, 1) := by decide +kernel
theorem dX12_written_12 : decode cX12_written 12 = .ok (.invokevirtual 259, 3) := by decide +kernel
theorem dX12_written_15 : decode cX12_written 15 = .ok (.invokestatic 262, 3) := by decide +kernel
theorem dX12_written_18 : decode cX12_written 18 = .ok (.ifCond .eq 10, 3) := by decide +kernel
theorem dX12_written_21 : decode cX12_written 21 = .ok (.aload_n 0, 1) := by decide +kernel
theorem dX12_written_22 : decode cX12_written 22 = .ok (.invokevirtual 302, 3) := by decide +kernel
theorem dX12_written_25 : decode cX12_written 25 = .ok (.ifCond .ne 5, 3) := by decide +kernel
theorem dX12_written_28 : decode cX12_written 28 = .ok (.iconst (-1), 1) := by decide +kernel
theorem dX12_written_29 : decode cX12_written 29 = .ok (.ireturn, 1) := by decide +kernel
theorem dX12_written_30 : decode cX12_written 30 = .ok (.iload_n 3, 1) := by decide +kernel
theorem dX12_written_31 : decode cX12_written 31 = .ok (.iconst (-1), 1) := by decide +kernel
theorem dX12_written_32 : decode cX12_written 32 = .ok (.if_icmp .ne 10, 3) := by decide +kernel
theorem dX12_written_35 : decode cX12_written 35 = .ok (.aload_n 0, 1) := by decide +kernel
theorem dX12_written_36 : decode cX12_written 36 = .ok (.getfield 296, 3) := by decide +kernel
theorem dX12_written_39 : decode cX12_written 39 = .ok (.goto 27, 3) := by decide +kernel
theorem dX12_written_42 : decode cX12_written 42 = .ok (.iload_n 3, 1) := by decide +kernel
theorem dX12_written_43 : decode cX12_written 43 = .ok (.iconst 0, 1) := by decide +kernel
theorem dX12_written_44 : decode cX12_written 44 = .ok (.aload_n 0, 1) := by decide +kernel
theorem dX12_written_45 : decode cX12_written 45 = .ok (.getfield 296, 3) := by decide +kernel
theorem dX12_written_48 : decode cX12_written 48 = .ok (.iconst 1, 1) := by decide +kernel
theorem dX12_written_49 : decode cX12_written 49 = .ok (.isub, 1) := by decide +kernel
theorem dX12_written_50 : decode cX12_written 50 = .ok (.invokestatic 85, 3) := by decide +kernel
theorem dX12_written_53 : decode cX12_written 53 = .ok (.ifCond .eq 12, 3) := by decide +kernel
theorem dX12_written_56 : decode cX12_written 56 = .ok (.aload_n 0, 1) := by decide +kernel
theorem dX12_written_57 : decode cX12_written 57 = .ok (.getfield 78, 3) := by decide +kernel
theorem dX12_written_60 : decode cX12_written 60 = .ok (.iload_n 3, 1) := by decide +kernel
theorem dX12_written_61 : decode cX12_written 61 = .ok (.iaload, 1) := by decide +kernel
theorem dX12_written_62 : decode cX12_written 62 = .ok (.goto 4, 3) := by decide +kernel
theorem dX12_written_65 : decode cX12_written 65 = .ok (.iconst (-1), 1) := by decide +kernel
theorem dX12_written_66 : decode cX12_written 66 = .ok (.ireturn, 1) := by decide +kernel
theorem dX12_count_0 : decode cX12_count 0 = .ok (.iload_n 1, 1) := by decide +kernel
theorem dX12_count_1 : decode cX12_count 1 = .ok (.tableswitch 84 0 6 #[43, 50, 57, 64, 69, 74, 79], 43) := by decide +kernel
theorem dX12_count_44 : decode cX12_count 44 = .ok (.aload_n 0, 1) := by decide +kernel
theorem dX12_count_45 : decode cX12_count 45 = .ok (.getfield 17, 3) := by decide +kernel
theorem dX12_count_48 : decode cX12_count 48 = .ok (.iconst 4, 1) := by decide +kernel
theorem dX12_count_49 : decode cX12_count 49 = .ok (.iaload, 1) := by decide +kernel
theorem dX12_count_50 : decode cX12_count 50 = .ok (.ireturn, 1) := by decide +kernel
theorem dX12_count_51 : decode cX12_count 51 = .ok (.aload_n 0, 1) := by decide +kernel
theorem dX12_count_52 : decode cX12_count 52 = .ok (.getfield 17, 3) := by decide +kernel
theorem dX12_count_55 : decode cX12_count 55 = .ok (.iconst 0, 1) := by decide +kernel
theorem dX12_count_56 : decode cX12_count 56 = .ok (.iaload, 1) := by decide +kernel
theorem dX12_count_57 : decode cX12_count 57 = .ok (.ireturn, 1) := by decide +kernel
theorem dX12_count_58 : decode cX12_count 58 = .ok (.aload_n 0, 1) := by decide +kernel
theorem dX12_count_59 : decode cX12_count 59 = .ok (.getfield 17, 3) := by decide +kernel
theorem dX12_count_62 : decode cX12_count 62 = .ok (.iconst 1, 1) := by decide +kernel
theorem dX12_count_63 : decode cX12_count 63 = .ok (.iaload, 1) := by decide +kernel
theorem dX12_count_64 : decode cX12_count 64 = .ok (.ireturn, 1) := by decide +kernel
theorem dX12_count_65 : decode cX12_count 65 = .ok (.aload_n 0, 1) := by decide +kernel
theorem dX12_count_66 : decode cX12_count 66 = .ok (.getfield 175, 3) := by decide +kernel
theorem dX12_count_69 : decode cX12_count 69 = .ok (.ireturn, 1) := by decide +kernel
theorem dX12_count_70 : decode cX12_count 70 = .ok (.aload_n 0, 1) := by decide +kernel
theorem dX12_count_71 : decode cX12_count 71 = .ok (.getfield 178, 3) := by decide +kernel
theorem dX12_count_74 : decode cX12_count 74 = .ok (.ireturn, 1) := by decide +kernel
theorem dX12_count_75 : decode cX12_count 75 = .ok (.aload_n 0, 1) := by decide +kernel
theorem dX12_count_76 : decode cX12_count 76 = .ok (.getfield 268, 3) := by decide +kernel
theorem dX12_count_79 : decode cX12_count 79 = .ok (.ireturn, 1) := by decide +kernel
theorem dX12_count_80 : decode cX12_count 80 = .ok (.aload_n 0, 1) := by decide +kernel
theorem dX12_count_81 : decode cX12_count 81 = .ok (.getfield 81, 3) := by decide +kernel
theorem dX12_count_84 : decode cX12_count 84 = .ok (.ireturn, 1) := by decide +kernel
theorem dX12_count_85 : decode cX12_count 85 = .ok (.iconst (-1), 1) := by decide +kernel
theorem dX12_count_86 : decode cX12_count 86 = .ok (.ireturn, 1) := by decide +kernel
theorem dJ6_bitCount_0f7a4_0 : decode cJ6_bitCount_0f7a4 0 = .ok (.iload_n 0, 1) := by decide +kernel
theorem dJ6_bitCount_0f7a4_1 : decode cJ6_bitCount_0f7a4 1 = .ok (.iload_n 0, 1) := by decide +kernel
theorem dJ6_bitCount_0f7a4_2 : decode cJ6_bitCount_0f7a4 2 = .ok (.iconst 1, 1) := by decide +kernel
theorem dJ6_bitCount_0f7a4_3 : decode cJ6_bitCount_0f7a4 3 = .ok (.iushr, 1) := by decide +kernel
theorem dJ6_bitCount_0f7a4_4 : decode cJ6_bitCount_0f7a4 4 = .ok (.ldc_w 265, 3) := by decide +kernel
theorem dJ6_bitCount_0f7a4_7 : decode cJ6_bitCount_0f7a4 7 = .ok (.iand, 1) := by decide +kernel
theorem dJ6_bitCount_0f7a4_8 : decode cJ6_bitCount_0f7a4 8 = .ok (.isub, 1) := by decide +kernel
theorem dJ6_bitCount_0f7a4_9 : decode cJ6_bitCount_0f7a4 9 = .ok (.istore_n 0, 1) := by decide +kernel
theorem dJ6_bitCount_0f7a4_10 : decode cJ6_bitCount_0f7a4 10 = .ok (.iload_n 0, 1) := by decide +kernel
theorem dJ6_bitCount_0f7a4_11 : decode cJ6_bitCount_0f7a4 11 = .ok (.ldc_w 266, 3) := by decide +kernel
theorem dJ6_bitCount_0f7a4_14 : decode cJ6_bitCount_0f7a4 14 = .ok (.iand, 1) := by decide +kernel
theorem dJ6_bitCount_0f7a4_15 : decode cJ6_bitCount_0f7a4 15 = .ok (.iload_n 0, 1) := by decide +kernel
theorem dJ6_bitCount_0f7a4_16 : decode cJ6_bitCount_0f7a4 16 = .ok (.iconst 2, 1) := by decide +kernel
theorem dJ6_bitCount_0f7a4_17 : decode cJ6_bitCount_0f7a4 17 = .ok (.iushr, 1) := by decide +kernel
theorem dJ6_bitCount_0f7a4_18 : decode cJ6_bitCount_0f7a4 18 = .ok (.ldc_w 266, 3) := by decide +kernel
theorem dJ6_bitCount_0f7a4_21 : decode cJ6_bitCount_0f7a4 21 = .ok (.iand, 1) := by decide +kernel
theorem dJ6_bitCount_0f7a4_22 : decode cJ6_bitCount_0f7a4 22 = .ok (.iadd, 1) := by decide +kernel
theorem dJ6_bitCount_0f7a4_23 : decode cJ6_bitCount_0f7a4 23 = .ok (.istore_n 0, 1) := by decide +kernel
theorem dJ6_bitCount_0f7a4_24 : decode cJ6_bitCount_0f7a4 24 = .ok (.iload_n 0, 1) := by decide +kernel
theorem dJ6_bitCount_0f7a4_25 : decode cJ6_bitCount_0f7a4 25 = .ok (.iload_n 0, 1) := by decide +kernel
theorem dJ6_bitCount_0f7a4_26 : decode cJ6_bitCount_0f7a4 26 = .ok (.iconst 4, 1) := by decide +kernel
theorem dJ6_bitCount_0f7a4_27 : decode cJ6_bitCount_0f7a4 27 = .ok (.iushr, 1) := by decide +kernel
theorem dJ6_bitCount_0f7a4_28 : decode cJ6_bitCount_0f7a4 28 = .ok (.iadd, 1) := by decide +kernel
theorem dJ6_bitCount_0f7a4_29 : decode cJ6_bitCount_0f7a4 29 = .ok (.ldc_w 267, 3) := by decide +kernel
theorem dJ6_bitCount_0f7a4_32 : decode cJ6_bitCount_0f7a4 32 = .ok (.iand, 1) := by decide +kernel
theorem dJ6_bitCount_0f7a4_33 : decode cJ6_bitCount_0f7a4 33 = .ok (.istore_n 0, 1) := by decide +kernel
theorem dJ6_bitCount_0f7a4_34 : decode cJ6_bitCount_0f7a4 34 = .ok (.iload_n 0, 1) := by decide +kernel
theorem dJ6_bitCount_0f7a4_35 : decode cJ6_bitCount_0f7a4 35 = .ok (.iload_n 0, 1) := by decide +kernel
theorem dJ6_bitCount_0f7a4_36 : decode cJ6_bitCount_0f7a4 36 = .ok (.bipush 8, 2) := by decide +kernel
theorem dJ6_bitCount_0f7a4_38 : decode cJ6_bitCount_0f7a4 38 = .ok (.iushr, 1) := by decide +kernel
theorem dJ6_bitCount_0f7a4_39 : decode cJ6_bitCount_0f7a4 39 = .ok (.iadd, 1) := by decide +kernel
theorem dJ6_bitCount_0f7a4_40 : decode cJ6_bitCount_0f7a4 40 = .ok (.istore_n 0, 1) := by decide +kernel
theorem dJ6_bitCount_0f7a4_41 : decode cJ6_bitCount_0f7a4 41 = .ok (.iload_n 0, 1) := by decide +kernel
theorem dJ6_bitCount_0f7a4_42 : decode cJ6_bitCount_0f7a4 42 = .ok (.iload_n 0, 1) := by decide +kernel
theorem dJ6_bitCount_0f7a4_43 : decode cJ6_bitCount_0f7a4 43 = .ok (.bipush 16, 2) := by decide +kernel
theorem dJ6_bitCount_0f7a4_45 : decode cJ6_bitCount_0f7a4 45 = .ok (.iushr, 1) := by decide +kernel
theorem dJ6_bitCount_0f7a4_46 : decode cJ6_bitCount_0f7a4 46 = .ok (.iadd, 1) := by decide +kernel
theorem dJ6_bitCount_0f7a4_47 : decode cJ6_bitCount_0f7a4 47 = .ok (.istore_n 0, 1) := by decide +kernel
theorem dJ6_bitCount_0f7a4_48 : decode cJ6_bitCount_0f7a4 48 = .ok (.iload_n 0, 1) := by decide +kernel
theorem dJ6_bitCount_0f7a4_49 : decode cJ6_bitCount_0f7a4 49 = .ok (.bipush 63, 2) := by decide +kernel
theorem dJ6_bitCount_0f7a4_51 : decode cJ6_bitCount_0f7a4 51 = .ok (.iand, 1) := by decide +kernel
theorem dJ6_bitCount_0f7a4_52 : decode cJ6_bitCount_0f7a4 52 = .ok (.ireturn, 1) := by decide +kernel
theorem dJ9_floorDiv_7cf53_0 : decode cJ9_floorDiv_7cf53 0 = .ok (.iload_n 0, 1) := by decide +kernel
theorem dJ9_floorDiv_7cf53_1 : decode cJ9_floorDiv_7cf53 1 = .ok (.iload_n 1, 1) := by decide +kernel
theorem dJ9_floorDiv_7cf53_2 : decode cJ9_floorDiv_7cf53 2 = .ok (.idiv, 1) := by decide +kernel
theorem dJ9_floorDiv_7cf53_3 : decode cJ9_floorDiv_7cf53 3 = .ok (.istore_n 2, 1) := by decide +kernel
theorem dJ9_floorDiv_7cf53_4 : decode cJ9_floorDiv_7cf53 4 = .ok (.iload_n 0, 1) := by decide +kernel
theorem dJ9_floorDiv_7cf53_5 : decode cJ9_floorDiv_7cf53 5 = .ok (.iload_n 1, 1) := by decide +kernel
theorem dJ9_floorDiv_7cf53_6 : decode cJ9_floorDiv_7cf53 6 = .ok (.ixor, 1) := by decide +kernel
theorem dJ9_floorDiv_7cf53_7 : decode cJ9_floorDiv_7cf53 7 = .ok (.ifCond .ge 14, 3) := by decide +kernel
theorem dJ9_floorDiv_7cf53_10 : decode cJ9_floorDiv_7cf53 10 = .ok (.iload_n 2, 1) := by decide +kernel
theorem dJ9_floorDiv_7cf53_11 : decode cJ9_floorDiv_7cf53 11 = .ok (.iload_n 1, 1) := by decide +kernel
theorem dJ9_floorDiv_7cf53_12 : decode cJ9_floorDiv_7cf53 12 = .ok (.imul, 1) := by decide +kernel
theorem dJ9_floorDiv_7cf53_13 : decode cJ9_floorDiv_7cf53 13 = .ok (.iload_n 0, 1) := by decide +kernel
theorem dJ9_floorDiv_7cf53_14 : decode cJ9_floorDiv_7cf53 14 = .ok (.if_icmp .eq 7, 3) := by decide +kernel
theorem dJ9_floorDiv_7cf53_17 : decode cJ9_floorDiv_7cf53 17 = .ok (.iload_n 2, 1) := by decide +kernel
theorem dJ9_floorDiv_7cf53_18 : decode cJ9_floorDiv_7cf53 18 = .ok (.iconst 1, 1) := by decide +kernel
theorem dJ9_floorDiv_7cf53_19 : decode cJ9_floorDiv_7cf53 19 = .ok (.isub, 1) := by decide +kernel
theorem dJ9_floorDiv_7cf53_20 : decode cJ9_floorDiv_7cf53 20 = .ok (.ireturn, 1) := by decide +kernel
theorem dJ9_floorDiv_7cf53_21 : decode cJ9_floorDiv_7cf53 21 = .ok (.iload_n 2, 1) := by decide +kernel
theorem dJ9_floorDiv_7cf53_22 : decode cJ9_floorDiv_7cf53 22 = .ok (.ireturn, 1) := by decide +kernel
theorem dJ9_max_7cf53_0 : decode cJ9_max_7cf53 0 = .ok (.iload_n 0, 1) := by decide +kernel
theorem dJ9_max_7cf53_1 : decode cJ9_max_7cf53 1 = .ok (.iload_n 1, 1) := by decide +kernel
theorem dJ9_max_7cf53_2 : decode cJ9_max_7cf53 2 = .ok (.if_icmp .lt 7, 3) := by decide +kernel
theorem dJ9_max_7cf53_5 : decode cJ9_max_7cf53 5 = .ok (.iload_n 0, 1) := by decide +kernel
theorem dJ9_max_7cf53_6 : decode cJ9_max_7cf53 6 = .ok (.goto 4, 3) := by decide +kernel
theorem dJ9_max_7cf53_9 : decode cJ9_max_7cf53 9 = .ok (.iload_n 1, 1) := by decide +kernel
theorem dJ9_max_7cf53_10 : decode cJ9_max_7cf53 10 = .ok (.ireturn, 1) := by decide +kernel
theorem dJ9_min_7cf53_0 : decode cJ9_min_7cf53 0 = .ok (.iload_n 0, 1) := by decide +kernel
theorem dJ9_min_7cf53_1 : decode cJ9_min_7cf53 1 = .ok (.iload_n 1, 1) := by decide +kernel
theorem dJ9_min_7cf53_2 : decode cJ9_min_7cf53 2 = .ok (.if_icmp .gt 7, 3) := by decide +kernel
theorem dJ9_min_7cf53_5 : decode cJ9_min_7cf53 5 = .ok (.iload_n 0, 1) := by decide +kernel
theorem dJ9_min_7cf53_6 : decode cJ9_min_7cf53 6 = .ok (.goto 4, 3) := by decide +kernel
theorem dJ9_min_7cf53_9 : decode cJ9_min_7cf53 9 = .ok (.iload_n 1, 1) := by decide +kernel
theorem dJ9_min_7cf53_10 : decode cJ9_min_7cf53 10 = .ok (.ireturn, 1) := by decide +kernel
theorem dJ0_length_8abf5_0 : decode cJ0_length_8abf5 0 = .ok (.aload_n 0, 1) := by decide +kernel
theorem dJ0_length_8abf5_1 : decode cJ0_length_8abf5 1 = .ok (.getfield 9, 3) := by decide +kernel
theorem dJ0_length_8abf5_4 : decode cJ0_length_8abf5 4 = .ok (.arraylength, 1) := by decide +kernel
theorem dJ0_length_8abf5_5 : decode cJ0_length_8abf5 5 = .ok (.aload_n 0, 1) := by decide +kernel
theorem dJ0_length_8abf5_6 : decode cJ0_length_8abf5 6 = .ok (.invokevirtual 335, 3) := by decide +kernel
theorem dJ0_length_8abf5_9 : decode cJ0_length_8abf5 9 = .ok (.ishr, 1) := by decide +kernel
theorem dJ0_length_8abf5_10 : decode cJ0_length_8abf5 10 = .ok (.ireturn, 1) := by decide +kernel
theorem dJ0_charAt_5068e_0 : decode cJ0_charAt_5068e 0 = .ok (.aload_n 0, 1) := by decide +kernel
theorem dJ0_charAt_5068e_1 : decode cJ0_charAt_5068e 1 = .ok (.invokevirtual 492, 3) := by decide +kernel
theorem dJ0_charAt_5068e_4 : decode cJ0_charAt_5068e 4 = .ok (.ifCond .eq 12, 3) := by decide +kernel
theorem dJ0_charAt_5068e_7 : decode cJ0_charAt_5068e 7 = .ok (.aload_n 0, 1) := by decide +kernel
theorem dJ0_charAt_5068e_8 : decode cJ0_charAt_5068e 8 = .ok (.getfield 9, 3) := by decide +kernel
theorem dJ0_charAt_5068e_11 : decode cJ0_charAt_5068e 11 = .ok (.iload_n 1, 1) := by decide +kernel
theorem dJ0_charAt_5068e_12 : decode cJ0_charAt_5068e 12 = .ok (.invokestatic 495, 3) := by decide +kernel
theorem dJ0_charAt_5068e_15 : decode cJ0_charAt_5068e 15 = .ok (.ireturn, 1) := by decide +kernel
theorem dJ0_charAt_5068e_16 : decode cJ0_charAt_5068e 16 = .ok (.aload_n 0, 1) := by decide +kernel
theorem dJ0_charAt_5068e_17 : decode cJ0_charAt_5068e 17 = .ok (.getfield 9, 3) := by decide +kernel
theorem dJ0_charAt_5068e_20 : decode cJ0_charAt_5068e 20 = .ok (.iload_n 1, 1) := by decide +kernel
theorem dJ0_charAt_5068e_21 : decode cJ0_charAt_5068e 21 = .ok (.invokestatic 498, 3) := by decide +kernel
theorem dJ0_charAt_5068e_24 : decode cJ0_charAt_5068e 24 = .ok (.ireturn, 1) := by decide +kernel
theorem dJ0_coder_7d493_0 : decode cJ0_coder_7d493 0 = .ok (.getstatic 38, 3) := by decide +kernel
theorem dJ0_coder_7d493_3 : decode cJ0_coder_7d493 3 = .ok (.ifCond .eq 10, 3) := by decide +kernel
theorem dJ0_coder_7d493_6 : decode cJ0_coder_7d493 6 = .ok (.aload_n 0, 1) := by decide +kernel
theorem dJ0_coder_7d493_7 : decode cJ0_coder_7d493 7 = .ok (.getfield 15, 3) := by decide +kernel
theorem dJ0_coder_7d493_10 : decode cJ0_coder_7d493 10 = .ok (.goto 4, 3) := by decide +kernel
theorem dJ0_coder_7d493_13 : decode cJ0_coder_7d493 13 = .ok (.iconst 1, 1) := by decide +kernel
theorem dJ0_coder_7d493_14 : decode cJ0_coder_7d493 14 = .ok (.ireturn, 1) := by decide +kernel
theorem dJ0_isLatin1_aae02_0 : decode cJ0_isLatin1_aae02 0 = .ok (.getstatic 38, 3) := by decide +kernel
theorem dJ0_isLatin1_aae02_3 : decode cJ0_isLatin1_aae02 3 = .ok (.ifCond .eq 14, 3) := by decide +kernel
theorem dJ0_isLatin1_aae02_6 : decode cJ0_isLatin1_aae02 6 = .ok (.aload_n 0, 1) := by decide +kernel
theorem dJ0_isLatin1_aae02_7 : decode cJ0_isLatin1_aae02 7 = .ok (.getfield 15, 3) := by decide +kernel
theorem dJ0_isLatin1_aae02_10 : decode cJ0_isLatin1_aae02 10 = .ok (.ifCond .ne 7, 3) := by decide +kernel
theorem dJ0_isLatin1_aae02_13 : decode cJ0_isLatin1_aae02 13 = .ok (.iconst 1, 1) := by decide +kernel
theorem dJ0_isLatin1_aae02_14 : decode cJ0_isLatin1_aae02 14 = .ok (.goto 4, 3) := by decide +kernel
theorem dJ0_isLatin1_aae02_17 : decode cJ0_isLatin1_aae02 17 = .ok (.iconst 0, 1) := by decide +kernel
theorem dJ0_isLatin1_aae02_18 : decode cJ0_isLatin1_aae02 18 = .ok (.ireturn, 1) := by decide +kernel
theorem dJ0_checkIndex_df160_0 : decode cJ0_checkIndex_df160 0 = .ok (.iload_n 0, 1) := by decide +kernel
theorem dJ0_checkIndex_df160_1 : decode cJ0_checkIndex_df160 1 = .ok (.iload_n 1, 1) := by decide +kernel
theorem dJ0_checkIndex_df160_2 : decode cJ0_checkIndex_df160 2 = .ok (.getstatic 1053, 3) := by decide +kernel
theorem dJ0_checkIndex_df160_5 : decode cJ0_checkIndex_df160 5 = .ok (.invokestatic 1059, 3) := by decide +kernel
theorem dJ0_checkIndex_df160_8 : decode cJ0_checkIndex_df160 8 = .ok (.pop, 1) := by decide +kernel
theorem dJ0_checkIndex_df160_9 : decode cJ0_checkIndex_df160 9 = .ok (.return_, 1) := by decide +kernel
theorem dJ1_charAt_3b067_0 : decode cJ1_charAt_3b067 0 = .ok (.iload_n 1, 1) := by decide +kernel
theorem dJ1_charAt_3b067_1 : decode cJ1_charAt_3b067 1 = .ok (.aload_n 0, 1) := by decide +kernel
theorem dJ1_charAt_3b067_2 : decode cJ1_charAt_3b067 2 = .ok (.arraylength, 1) := by decide +kernel
theorem dJ1_charAt_3b067_3 : decode cJ1_charAt_3b067 3 = .ok (.invokestatic 9, 3) := by decide +kernel
theorem dJ1_charAt_3b067_6 : decode cJ1_charAt_3b067 6 = .ok (.aload_n 0, 1) := by decide +kernel
theorem dJ1_charAt_3b067_7 : decode cJ1_charAt_3b067 7 = .ok (.iload_n 1, 1) := by decide +kernel
theorem dJ1_charAt_3b067_8 : decode cJ1_charAt_3b067 8 = .ok (.baload, 1) := by decide +kernel
theorem dJ1_charAt_3b067_9 : decode cJ1_charAt_3b067 9 = .ok (.sipush 255, 3) := by decide +kernel
theorem dJ1_charAt_3b067_12 : decode cJ1_charAt_3b067 12 = .ok (.iand, 1) := by decide +kernel
theorem dJ1_charAt_3b067_13 : decode cJ1_charAt_3b067 13 = .ok (.i2c, 1) := by decide +kernel
theorem dJ1_charAt_3b067_14 : decode cJ1_charAt_3b067 14 = .ok (.ireturn, 1) := by decide +kernel
theorem dJ7_fill_53178_0 : decode cJ7_fill_53178 0 = .ok (.iconst 0, 1) := by decide +kernel
theorem dJ7_fill_53178_1 : decode cJ7_fill_53178 1 = .ok (.istore_n 2, 1) := by decide +kernel
theorem dJ7_fill_53178_2 : decode cJ7_fill_53178 2 = .ok (.aload_n 0, 1) := by decide +kernel
theorem dJ7_fill_53178_3 : decode cJ7_fill_53178 3 = .ok (.arraylength, 1) := by decide +kernel
theorem dJ7_fill_53178_4 : decode cJ7_fill_53178 4 = .ok (.istore_n 3, 1) := by decide +kernel
theorem dJ7_fill_53178_5 : decode cJ7_fill_53178 5 = .ok (.iload_n 2, 1) := by decide +kernel
theorem dJ7_fill_53178_6 : decode cJ7_fill_53178 6 = .ok (.iload_n 3, 1) := by decide +kernel
theorem dJ7_fill_53178_7 : decode cJ7_fill_53178 7 = .ok (.if_icmp .ge 13, 3) := by decide +kernel
theorem dJ7_fill_53178_10 : decode cJ7_fill_53178 10 = .ok (.aload_n 0, 1) := by decide +kernel
theorem dJ7_fill_53178_11 : decode cJ7_fill_53178 11 = .ok (.iload_n 2, 1) := by decide +kernel
theorem dJ7_fill_53178_12 : decode cJ7_fill_53178 12 = .ok (.iload_n 1, 1) := by decide +kernel
theorem dJ7_fill_53178_13 : decode cJ7_fill_53178 13 = .ok (.iastore, 1) := by decide +kernel
theorem dJ7_fill_53178_14 : decode cJ7_fill_53178 14 = .ok (.iinc 2 1, 3) := by decide +kernel
theorem dJ7_fill_53178_17 : decode cJ7_fill_53178 17 = .ok (.goto (-12), 3) := by decide +kernel
theorem dJ7_fill_53178_20 : decode cJ7_fill_53178 20 = .ok (.return_, 1) := by decide +kernel
theorem dJ3_checkIndex_8e157_0 : decode cJ3_checkIndex_8e157 0 = .ok (.iload_n 0, 1) := by decide +kernel
theorem dJ3_checkIndex_8e157_1 : decode cJ3_checkIndex_8e157 1 = .ok (.ifCond .lt 8, 3) := by decide +kernel
theorem dJ3_checkIndex_8e157_4 : decode cJ3_checkIndex_8e157 4 = .ok (.iload_n 0, 1) := by decide +kernel
theorem dJ3_checkIndex_8e157_5 : decode cJ3_checkIndex_8e157 5 = .ok (.iload_n 1, 1) := by decide +kernel
theorem dJ3_checkIndex_8e157_6 : decode cJ3_checkIndex_8e157 6 = .ok (.if_icmp .lt 10, 3) := by decide +kernel
theorem dJ3_checkIndex_8e157_9 : decode cJ3_checkIndex_8e157 9 = .ok (.aload_n 2, 1) := by decide +kernel
theorem dJ3_checkIndex_8e157_10 : decode cJ3_checkIndex_8e157 10 = .ok (.iload_n 0, 1) := by decide +kernel
theorem dJ3_checkIndex_8e157_11 : decode cJ3_checkIndex_8e157 11 = .ok (.iload_n 1, 1) := by decide +kernel
theorem dJ3_checkIndex_8e157_12 : decode cJ3_checkIndex_8e157 12 = .ok (.invokestatic 95, 3) := by decide +kernel
theorem dJ3_checkIndex_8e157_15 : decode cJ3_checkIndex_8e157 15 = .ok (.athrow, 1) := by decide +kernel
theorem dJ3_checkIndex_8e157_16 : decode cJ3_checkIndex_8e157 16 = .ok (.iload_n 0, 1) := by decide +kernel
theorem dJ3_checkIndex_8e157_17 : decode cJ3_checkIndex_8e157 17 = .ok (.ireturn, 1) := by decide +kernel
theorem dL_law_0 : decode cL_law 0 = .ok (.new 7, 3) := by decide +kernel
theorem dL_law_3 : decode cL_law 3 = .ok (.dup, 1) := by decide +kernel
theorem dL_law_4 : decode cL_law 4 = .ok (.invokespecial 9, 3) := by decide +kernel
theorem dL_law_7 : decode cL_law 7 = .ok (.astore_n 1, 1) := by decide +kernel
theorem dL_law_8 : decode cL_law 8 = .ok (.new 10, 3) := by decide +kernel
theorem dL_law_11 : decode cL_law 11 = .ok (.dup, 1) := by decide +kernel
theorem dL_law_12 : decode cL_law 12 = .ok (.invokespecial 12, 3) := by decide +kernel
theorem dL_law_15 : decode cL_law 15 = .ok (.astore_n 2, 1) := by decide +kernel
theorem dL_law_16 : decode cL_law 16 = .ok (.iconst 0, 1) := by decide +kernel
theorem dL_law_17 : decode cL_law 17 = .ok (.istore_n 3, 1) := by decide +kernel
theorem dL_law_18 : decode cL_law 18 = .ok (.iload_n 3, 1) := by decide +kernel
theorem dL_law_19 : decode cL_law 19 = .ok (.aload_n 0, 1) := by decide +kernel
theorem dL_law_20 : decode cL_law 20 = .ok (.arraylength, 1) := by decide +kernel
theorem dL_law_21 : decode cL_law 21 = .ok (.bipush 6, 2) := by decide +kernel
theorem dL_law_23 : decode cL_law 23 = .ok (.isub, 1) := by decide +kernel
theorem dL_law_24 : decode cL_law 24 = .ok (.if_icmp .gt 844, 3) := by decide +kernel
theorem dL_law_27 : decode cL_law 27 = .ok (.aload_n 0, 1) := by decide +kernel
theorem dL_law_28 : decode cL_law 28 = .ok (.iload_n 3, 1) := by decide +kernel
theorem dL_law_29 : decode cL_law 29 = .ok (.iaload, 1) := by decide +kernel
theorem dL_law_30 : decode cL_law 30 = .ok (.bipush 31, 2) := by decide +kernel
theorem dL_law_32 : decode cL_law 32 = .ok (.iand, 1) := by decide +kernel
theorem dL_law_33 : decode cL_law 33 = .ok (.tableswitch 829 0 21 #[103, 166, 189, 202, 215, 278, 291, 314, 357, 400, 433, 476, 519, 562, 595, 618, 651, 694, 717, 740, 763, 806], 103) := by decide +kernel
theorem dL_law_136 : decode cL_law 136 = .ok (.aload_n 1, 1) := by decide +kernel
theorem dL_law_137 : decode cL_law 137 = .ok (.aload_n 0, 1) := by decide +kernel
theorem dL_law_138 : decode cL_law 138 = .ok (.iload_n 3, 1) := by decide +kernel
theorem dL_law_139 : decode cL_law 139 = .ok (.iconst 1, 1) := by decide +kernel
theorem dL_law_140 : decode cL_law 140 = .ok (.iadd, 1) := by decide +kernel
theorem dL_law_141 : decode cL_law 141 = .ok (.iaload, 1) := by decide +kernel
theorem dL_law_142 : decode cL_law 142 = .ok (.aload_n 0, 1) := by decide +kernel
theorem dL_law_143 : decode cL_law 143 = .ok (.iload_n 3, 1) := by decide +kernel
theorem dL_law_144 : decode cL_law 144 = .ok (.iconst 2, 1) := by decide +kernel
theorem dL_law_145 : decode cL_law 145 = .ok (.iadd, 1) := by decide +kernel
theorem dL_law_146 : decode cL_law 146 = .ok (.iaload, 1) := by decide +kernel
theorem dL_law_147 : decode cL_law 147 = .ok (.aload_n 0, 1) := by decide +kernel
theorem dL_law_148 : decode cL_law 148 = .ok (.iload_n 3, 1) := by decide +kernel
theorem dL_law_149 : decode cL_law 149 = .ok (.iconst 3, 1) := by decide +kernel
theorem dL_law_150 : decode cL_law 150 = .ok (.iadd, 1) := by decide +kernel
theorem dL_law_151 : decode cL_law 151 = .ok (.iaload, 1) := by decide +kernel
theorem dL_law_152 : decode cL_law 152 = .ok (.aload_n 0, 1) := by decide +kernel
theorem dL_law_153 : decode cL_law 153 = .ok (.iload_n 3, 1) := by decide +kernel
theorem dL_law_154 : decode cL_law 154 = .ok (.iconst 4, 1) := by decide +kernel
theorem dL_law_155 : decode cL_law 155 = .ok (.iadd, 1) := by decide +kernel
theorem dL_law_156 : decode cL_law 156 = .ok (.iaload, 1) := by decide +kernel
theorem dL_law_157 : decode cL_law 157 = .ok (.aload_n 0, 1) := by decide +kernel
theorem dL_law_158 : decode cL_law 158 = .ok (.iload_n 3, 1) := by decide +kernel
theorem dL_law_159 : decode cL_law 159 = .ok (.iconst 5, 1) := by decide +kernel
theorem dL_law_160 : decode cL_law 160 = .ok (.iadd, 1) := by decide +kernel
theorem dL_law_161 : decode cL_law 161 = .ok (.iaload, 1) := by decide +kernel
theorem dL_law_162 : decode cL_law 162 = .ok (.invokevirtual 13, 3) := by decide +kernel
theorem dL_law_165 : decode cL_law 165 = .ok (.aload_n 2, 1) := by decide +kernel
theorem dL_law_166 : decode cL_law 166 = .ok (.aload_n 0, 1) := by decide +kernel
theorem dL_law_167 : decode cL_law 167 = .ok (.iload_n 3, 1) := by decide +kernel
theorem dL_law_168 : decode cL_law 168 = .ok (.iconst 1, 1) := by decide +kernel
theorem dL_law_169 : decode cL_law 169 = .ok (.iadd, 1) := by decide +kernel
theorem dL_law_170 : decode cL_law 170 = .ok (.iaload, 1) := by decide +kernel
theorem dL_law_171 : decode cL_law 171 = .ok (.aload_n 0, 1) := by decide +kernel
theorem dL_law_172 : decode cL_law 172 = .ok (.iload_n 3, 1) := by decide +kernel
theorem dL_law_173 : decode cL_law 173 = .ok (.iconst 2, 1) := by decide +kernel
theorem dL_law_174 : decode cL_law 174 = .ok (.iadd, 1) := by decide +kernel
theorem dL_law_175 : decode cL_law 175 = .ok (.iaload, 1) := by decide +kernel
theorem dL_law_176 : decode cL_law 176 = .ok (.aload_n 0, 1) := by decide +kernel
theorem dL_law_177 : decode cL_law 177 = .ok (.iload_n 3, 1) := by decide +kernel
theorem dL_law_178 : decode cL_law 178 = .ok (.iconst 3, 1) := by decide +kernel
theorem dL_law_179 : decode cL_law 179 = .ok (.iadd, 1) := by decide +kernel
theorem dL_law_180 : decode cL_law 180 = .ok (.iaload, 1) := by decide +kernel
theorem dL_law_181 : decode cL_law 181 = .ok (.aload_n 0, 1) := by decide +kernel
theorem dL_law_182 : decode cL_law 182 = .ok (.iload_n 3, 1) := by decide +kernel
theorem dL_law_183 : decode cL_law 183 = .ok (.iconst 4, 1) := by decide +kernel
theorem dL_law_184 : decode cL_law 184 = .ok (.iadd, 1) := by decide +kernel
theorem dL_law_185 : decode cL_law 185 = .ok (.iaload, 1) := by decide +kernel
theorem dL_law_186 : decode cL_law 186 = .ok (.aload_n 0, 1) := by decide +kernel
theorem dL_law_187 : decode cL_law 187 = .ok (.iload_n 3, 1) := by decide +kernel
theorem dL_law_188 : decode cL_law 188 = .ok (.iconst 5, 1) := by decide +kernel
theorem dL_law_189 : decode cL_law 189 = .ok (.iadd, 1) := by decide +kernel
theorem dL_law_190 : decode cL_law 190 = .ok (.iaload, 1) := by decide +kernel
theorem dL_law_191 : decode cL_law 191 = .ok (.invokevirtual 17, 3) := by decide +kernel
theorem dL_law_194 : decode cL_law 194 = .ok (.if_icmp .eq 668, 3) := by decide +kernel
theorem dL_law_197 : decode cL_law 197 = .ok (.iconst 0, 1) := by decide +kernel
theorem dL_law_198 : decode cL_law 198 = .ok (.ireturn, 1) := by decide +kernel
theorem dL_law_199 : decode cL_law 199 = .ok (.aload_n 1, 1) := by decide +kernel
theorem dL_law_200 : decode cL_law 200 = .ok (.aload_n 0, 1) := by decide +kernel
theorem dL_law_201 : decode cL_law 201 = .ok (.iload_n 3, 1) := by decide +kernel
theorem dL_law_202 : decode cL_law 202 = .ok (.iconst 1, 1) := by decide +kernel
theorem dL_law_203 : decode cL_law 203 = .ok (.iadd, 1) := by decide +kernel
theorem dL_law_204 : decode cL_law 204 = .ok (.iaload, 1) := by decide +kernel
theorem dL_law_205 : decode cL_law 205 = .ok (.invokevirtual 18, 3) := by decide +kernel
theorem dL_law_208 : decode cL_law 208 = .ok (.aload_n 2, 1) := by decide +kernel
theorem dL_law_209 : decode cL_law 209 = .ok (.aload_n 0, 1) := by decide +kernel
theorem dL_law_210 : decode cL_law 210 = .ok (.iload_n 3, 1) := by decide +kernel
theorem dL_law_211 : decode cL_law 211 = .ok (.iconst 1, 1) := by decide +kernel
theorem dL_law_212 : decode cL_law 212 = .ok (.iadd, 1) := by decide +kernel
theorem dL_law_213 : decode cL_law 213 = .ok (.iaload, 1) := by decide +kernel
theorem dL_law_214 : decode cL_law 214 = .ok (.invokevirtual 22, 3) := by decide +kernel
theorem dL_law_217 : decode cL_law 217 = .ok (.if_icmp .eq 645, 3) := by decide +kernel
theorem dL_law_220 : decode cL_law 220 = .ok (.iconst 0, 1) := by decide +kernel
theorem dL_law_221 : decode cL_law 221 = .ok (.ireturn, 1) := by decide +kernel
theorem dL_law_222 : decode cL_law 222 = .ok (.aload_n 1, 1) := by decide +kernel
theorem dL_law_223 : decode cL_law 223 = .ok (.invokevirtual 23, 3) := by decide +kernel
theorem dL_law_226 : decode cL_law 226 = .ok (.aload_n 2, 1) := by decide +kernel
theorem dL_law_227 : decode cL_law 227 = .ok (.invokevirtual 27, 3) := by decide +kernel
theorem dL_law_230 : decode cL_law 230 = .ok (.if_icmp .eq 632, 3) := by decide +kernel
theorem dL_law_233 : decode cL_law 233 = .ok (.iconst 0, 1) := by decide +kernel
theorem dL_law_234 : decode cL_law 234 = .ok (.ireturn, 1) := by decide +kernel
theorem dL_law_235 : decode cL_law 235 = .ok (.aload_n 1, 1) := by decide +kernel
theorem dL_law_236 : decode cL_law 236 = .ok (.invokevirtual 28, 3) := by decide +kernel
theorem dL_law_239 : decode cL_law 239 = .ok (.aload_n 2, 1) := by decide +kernel
theorem dL_law_240 : decode cL_law 240 = .ok (.invokevirtual 31, 3) := by decide +kernel
theorem dL_law_243 : decode cL_law 243 = .ok (.if_icmp .eq 619, 3) := by decide +kernel
theorem dL_law_246 : decode cL_law 246 = .ok (.iconst 0, 1) := by decide +kernel
theorem dL_law_247 : decode cL_law 247 = .ok (.ireturn, 1) := by decide +kernel
theorem dL_law_248 : decode cL_law 248 = .ok (.aload_n 1, 1) := by decide +kernel
theorem dL_law_249 : decode cL_law 249 = .ok (.aload_n 0, 1) := by decide +kernel
theorem dL_law_250 : decode cL_law 250 = .ok (.iload_n 3, 1) := by decide +kernel
theorem dL_law_251 : decode cL_law 251 = .ok (.iconst 1, 1) := by decide +kernel
theorem dL_law_252 : decode cL_law 252 = .ok (.iadd, 1) := by decide +kernel
theorem dL_law_253 : decode cL_law 253 = .ok (.iaload, 1) := by decide +kernel
theorem dL_law_254 : decode cL_law 254 = .ok (.aload_n 0, 1) := by decide +kernel
theorem dL_law_255 : decode cL_law 255 = .ok (.iload_n 3, 1) := by decide +kernel
theorem dL_law_256 : decode cL_law 256 = .ok (.iconst 2, 1) := by decide +kernel
theorem dL_law_257 : decode cL_law 257 = .ok (.iadd, 1) := by decide +kernel
theorem dL_law_258 : decode cL_law 258 = .ok (.iaload, 1) := by decide +kernel
theorem dL_law_259 : decode cL_law 259 = .ok (.aload_n 0, 1) := by decide +kernel
theorem dL_law_260 : decode cL_law 260 = .ok (.iload_n 3, 1) := by decide +kernel
theorem dL_law_261 : decode cL_law 261 = .ok (.iconst 3, 1) := by decide +kernel
theorem dL_law_262 : decode cL_law 262 = .ok (.iadd, 1) := by decide +kernel
theorem dL_law_263 : decode cL_law 263 = .ok (.iaload, 1) := by decide +kernel
theorem dL_law_264 : decode cL_law 264 = .ok (.aload_n 0, 1) := by decide +kernel
theorem dL_law_265 : decode cL_law 265 = .ok (.iload_n 3, 1) := by decide +kernel
theorem dL_law_266 : decode cL_law 266 = .ok (.iconst 4, 1) := by decide +kernel
theorem dL_law_267 : decode cL_law 267 = .ok (.iadd, 1) := by decide +kernel
theorem dL_law_268 : decode cL_law 268 = .ok (.iaload, 1) := by decide +kernel
theorem dL_law_269 : decode cL_law 269 = .ok (.aload_n 0, 1) := by decide +kernel
theorem dL_law_270 : decode cL_law 270 = .ok (.iload_n 3, 1) := by decide +kernel
theorem dL_law_271 : decode cL_law 271 = .ok (.iconst 5, 1) := by decide +kernel
theorem dL_law_272 : decode cL_law 272 = .ok (.iadd, 1) := by decide +kernel
theorem dL_law_273 : decode cL_law 273 = .ok (.iaload, 1) := by decide +kernel
theorem dL_law_274 : decode cL_law 274 = .ok (.invokevirtual 32, 3) := by decide +kernel
theorem dL_law_277 : decode cL_law 277 = .ok (.aload_n 2, 1) := by decide +kernel
theorem dL_law_278 : decode cL_law 278 = .ok (.aload_n 0, 1) := by decide +kernel
theorem dL_law_279 : decode cL_law 279 = .ok (.iload_n 3, 1) := by decide +kernel
theorem dL_law_280 : decode cL_law 280 = .ok (.iconst 1, 1) := by decide +kernel
theorem dL_law_281 : decode cL_law 281 = .ok (.iadd, 1) := by decide +kernel
theorem dL_law_282 : decode cL_law 282 = .ok (.iaload, 1) := by decide +kernel
theorem dL_law_283 : decode cL_law 283 = .ok (.aload_n 0, 1) := by decide +kernel
theorem dL_law_284 : decode cL_law 284 = .ok (.iload_n 3, 1) := by decide +kernel
theorem dL_law_285 : decode cL_law 285 = .ok (.iconst 2, 1) := by decide +kernel
theorem dL_law_286 : decode cL_law 286 = .ok (.iadd, 1) := by decide +kernel
theorem dL_law_287 : decode cL_law 287 = .ok (.iaload, 1) := by decide +kernel
theorem dL_law_288 : decode cL_law 288 = .ok (.aload_n 0, 1) := by decide +kernel
theorem dL_law_289 : decode cL_law 289 = .ok (.iload_n 3, 1) := by decide +kernel
theorem dL_law_290 : decode cL_law 290 = .ok (.iconst 3, 1) := by decide +kernel
theorem dL_law_291 : decode cL_law 291 = .ok (.iadd, 1) := by decide +kernel
theorem dL_law_292 : decode cL_law 292 = .ok (.iaload, 1) := by decide +kernel
theorem dL_law_293 : decode cL_law 293 = .ok (.aload_n 0, 1) := by decide +kernel
theorem dL_law_294 : decode cL_law 294 = .ok (.iload_n 3, 1) := by decide +kernel
theorem dL_law_295 : decode cL_law 295 = .ok (.iconst 4, 1) := by decide +kernel
theorem dL_law_296 : decode cL_law 296 = .ok (.iadd, 1) := by decide +kernel
theorem dL_law_297 : decode cL_law 297 = .ok (.iaload, 1) := by decide +kernel
theorem dL_law_298 : decode cL_law 298 = .ok (.aload_n 0, 1) := by decide +kernel
theorem dL_law_299 : decode cL_law 299 = .ok (.iload_n 3, 1) := by decide +kernel
theorem dL_law_300 : decode cL_law 300 = .ok (.iconst 5, 1) := by decide +kernel
theorem dL_law_301 : decode cL_law 301 = .ok (.iadd, 1) := by decide +kernel
theorem dL_law_302 : decode cL_law 302 = .ok (.iaload, 1) := by decide +kernel
theorem dL_law_303 : decode cL_law 303 = .ok (.invokevirtual 35, 3) := by decide +kernel
theorem dL_law_306 : decode cL_law 306 = .ok (.if_icmp .eq 556, 3) := by decide +kernel
theorem dL_law_309 : decode cL_law 309 = .ok (.iconst 0, 1) := by decide +kernel
theorem dL_law_310 : decode cL_law 310 = .ok (.ireturn, 1) := by decide +kernel
theorem dL_law_311 : decode cL_law 311 = .ok (.aload_n 1, 1) := by decide +kernel
theorem dL_law_312 : decode cL_law 312 = .ok (.invokevirtual 36, 3) := by decide +kernel
theorem dL_law_315 : decode cL_law 315 = .ok (.aload_n 2, 1) := by decide +kernel
theorem dL_law_316 : decode cL_law 316 = .ok (.invokevirtual 39, 3) := by decide +kernel
theorem dL_law_319 : decode cL_law 319 = .ok (.if_icmp .eq 543, 3) := by decide +kernel
theorem dL_law_322 : decode cL_law 322 = .ok (.iconst 0, 1) := by decide +kernel
theorem dL_law_323 : decode cL_law 323 = .ok (.ireturn, 1) := by decide +kernel
theorem dL_law_324 : decode cL_law 324 = .ok (.aload_n 1, 1) := by decide +kernel
theorem dL_law_325 : decode cL_law 325 = .ok (.aload_n 0, 1) := by decide +kernel
theorem dL_law_326 : decode cL_law 326 = .ok (.iload_n 3, 1) := by decide +kernel
theorem dL_law_327 : decode cL_law 327 = .ok (.iconst 1, 1) := by decide +kernel
theorem dL_law_328 : decode cL_law 328 = .ok (.iadd, 1) := by decide +kernel
theorem dL_law_329 : decode cL_law 329 = .ok (.iaload, 1) := by decide +kernel
theorem dL_law_330 : decode cL_law 330 = .ok (.invokevirtual 40, 3) := by decide +kernel
theorem dL_law_333 : decode cL_law 333 = .ok (.aload_n 2, 1) := by decide +kernel
theorem dL_law_334 : decode cL_law 334 = .ok (.aload_n 0, 1) := by decide +kernel
theorem dL_law_335 : decode cL_law 335 = .ok (.iload_n 3, 1) := by decide +kernel
theorem dL_law_336 : decode cL_law 336 = .ok (.iconst 1, 1) := by decide +kernel
theorem dL_law_337 : decode cL_law 337 = .ok (.iadd, 1) := by decide +kernel
theorem dL_law_338 : decode cL_law 338 = .ok (.iaload, 1) := by decide +kernel
theorem dL_law_339 : decode cL_law 339 = .ok (.invokevirtual 44, 3) := by decide +kernel
theorem dL_law_342 : decode cL_law 342 = .ok (.if_icmp .eq 520, 3) := by decide +kernel
theorem dL_law_345 : decode cL_law 345 = .ok (.iconst 0, 1) := by decide +kernel
theorem dL_law_346 : decode cL_law 346 = .ok (.ireturn, 1) := by decide +kernel
theorem dL_law_347 : decode cL_law 347 = .ok (.aload_n 1, 1) := by decide +kernel
theorem dL_law_348 : decode cL_law 348 = .ok (.aload_n 0, 1) := by decide +kernel
theorem dL_law_349 : decode cL_law 349 = .ok (.iload_n 3, 1) := by decide +kernel
theorem dL_law_350 : decode cL_law 350 = .ok (.iconst 1, 1) := by decide +kernel
theorem dL_law_351 : decode cL_law 351 = .ok (.iadd, 1) := by decide +kernel
theorem dL_law_352 : decode cL_law 352 = .ok (.iaload, 1) := by decide +kernel
theorem dL_law_353 : decode cL_law 353 = .ok (.aload_n 0, 1) := by decide +kernel
theorem dL_law_354 : decode cL_law 354 = .ok (.iload_n 3, 1) := by decide +kernel
theorem dL_law_355 : decode cL_law 355 = .ok (.iconst 2, 1) := by decide +kernel
theorem dL_law_356 : decode cL_law 356 = .ok (.iadd, 1) := by decide +kernel
theorem dL_law_357 : decode cL_law 357 = .ok (.iaload, 1) := by decide +kernel
theorem dL_law_358 : decode cL_law 358 = .ok (.aload_n 0, 1) := by decide +kernel
theorem dL_law_359 : decode cL_law 359 = .ok (.iload_n 3, 1) := by decide +kernel
theorem dL_law_360 : decode cL_law 360 = .ok (.iconst 3, 1) := by decide +kernel
theorem dL_law_361 : decode cL_law 361 = .ok (.iadd, 1) := by decide +kernel
theorem dL_law_362 : decode cL_law 362 = .ok (.iaload, 1) := by decide +kernel
theorem dL_law_363 : decode cL_law 363 = .ok (.invokevirtual 45, 3) := by decide +kernel
theorem dL_law_366 : decode cL_law 366 = .ok (.aload_n 2, 1) := by decide +kernel
theorem dL_law_367 : decode cL_law 367 = .ok (.aload_n 0, 1) := by decide +kernel
theorem dL_law_368 : decode cL_law 368 = .ok (.iload_n 3, 1) := by decide +kernel
theorem dL_law_369 : decode cL_law 369 = .ok (.iconst 1, 1) := by decide +kernel
theorem dL_law_370 : decode cL_law 370 = .ok (.iadd, 1) := by decide +kernel
theorem dL_law_371 : decode cL_law 371 = .ok (.iaload, 1) := by decide +kernel
theorem dL_law_372 : decode cL_law 372 = .ok (.aload_n 0, 1) := by decide +kernel
theorem dL_law_373 : decode cL_law 373 = .ok (.iload_n 3, 1) := by decide +kernel
theorem dL_law_374 : decode cL_law 374 = .ok (.iconst 2, 1) := by decide +kernel
theorem dL_law_375 : decode cL_law 375 = .ok (.iadd, 1) := by decide +kernel
theorem dL_law_376 : decode cL_law 376 = .ok (.iaload, 1) := by decide +kernel
theorem dL_law_377 : decode cL_law 377 = .ok (.aload_n 0, 1) := by decide +kernel
theorem dL_law_378 : decode cL_law 378 = .ok (.iload_n 3, 1) := by decide +kernel
theorem dL_law_379 : decode cL_law 379 = .ok (.iconst 3, 1) := by decide +kernel
theorem dL_law_380 : decode cL_law 380 = .ok (.iadd, 1) := by decide +kernel
theorem dL_law_381 : decode cL_law 381 = .ok (.iaload, 1) := by decide +kernel
theorem dL_law_382 : decode cL_law 382 = .ok (.invokevirtual 49, 3) := by decide +kernel
theorem dL_law_385 : decode cL_law 385 = .ok (.if_icmp .eq 477, 3) := by decide +kernel
theorem dL_law_388 : decode cL_law 388 = .ok (.iconst 0, 1) := by decide +kernel
theorem dL_law_389 : decode cL_law 389 = .ok (.ireturn, 1) := by decide +kernel
theorem dL_law_390 : decode cL_law 390 = .ok (.aload_n 1, 1) := by decide +kernel
theorem dL_law_391 : decode cL_law 391 = .ok (.aload_n 0, 1) := by decide +kernel
theorem dL_law_392 : decode cL_law 392 = .ok (.iload_n 3, 1) := by decide +kernel
theorem dL_law_393 : decode cL_law 393 = .ok (.iconst 1, 1) := by decide +kernel
theorem dL_law_394 : decode cL_law 394 = .ok (.iadd, 1) := by decide +kernel
theorem dL_law_395 : decode cL_law 395 = .ok (.iaload, 1) := by decide +kernel
theorem dL_law_396 : decode cL_law 396 = .ok (.aload_n 0, 1) := by decide +kernel
theorem dL_law_397 : decode cL_law 397 = .ok (.iload_n 3, 1) := by decide +kernel
theorem dL_law_398 : decode cL_law 398 = .ok (.iconst 2, 1) := by decide +kernel
theorem dL_law_399 : decode cL_law 399 = .ok (.iadd, 1) := by decide +kernel
theorem dL_law_400 : decode cL_law 400 = .ok (.iaload, 1) := by decide +kernel
theorem dL_law_401 : decode cL_law 401 = .ok (.aload_n 0, 1) := by decide +kernel
theorem dL_law_402 : decode cL_law 402 = .ok (.iload_n 3, 1) := by decide +kernel
theorem dL_law_403 : decode cL_law 403 = .ok (.iconst 3, 1) := by decide +kernel
theorem dL_law_404 : decode cL_law 404 = .ok (.iadd, 1) := by decide +kernel
theorem dL_law_405 : decode cL_law 405 = .ok (.iaload, 1) := by decide +kernel
theorem dL_law_406 : decode cL_law 406 = .ok (.invokevirtual 50, 3) := by decide +kernel
theorem dL_law_409 : decode cL_law 409 = .ok (.aload_n 2, 1) := by decide +kernel
theorem dL_law_410 : decode cL_law 410 = .ok (.aload_n 0, 1) := by decide +kernel
theorem dL_law_411 : decode cL_law 411 = .ok (.iload_n 3, 1) := by decide +kernel
theorem dL_law_412 : decode cL_law 412 = .ok (.iconst 1, 1) := by decide +kernel
theorem dL_law_413 : decode cL_law 413 = .ok (.iadd, 1) := by decide +kernel
theorem dL_law_414 : decode cL_law 414 = .ok (.iaload, 1) := by decide +kernel
theorem dL_law_415 : decode cL_law 415 = .ok (.aload_n 0, 1) := by decide +kernel
theorem dL_law_416 : decode cL_law 416 = .ok (.iload_n 3, 1) := by decide +kernel
theorem dL_law_417 : decode cL_law 417 = .ok (.iconst 2, 1) := by decide +kernel
theorem dL_law_418 : decode cL_law 418 = .ok (.iadd, 1) := by decide +kernel
theorem dL_law_419 : decode cL_law 419 = .ok (.iaload, 1) := by decide +kernel
theorem dL_law_420 : decode cL_law 420 = .ok (.aload_n 0, 1) := by decide +kernel
theorem dL_law_421 : decode cL_law 421 = .ok (.iload_n 3, 1) := by decide +kernel
theorem dL_law_422 : decode cL_law 422 = .ok (.iconst 3, 1) := by decide +kernel
theorem dL_law_423 : decode cL_law 423 = .ok (.iadd, 1) := by decide +kernel
theorem dL_law_424 : decode cL_law 424 = .ok (.iaload, 1) := by decide +kernel
theorem dL_law_425 : decode cL_law 425 = .ok (.invokevirtual 53, 3) := by decide +kernel
theorem dL_law_428 : decode cL_law 428 = .ok (.if_icmp .eq 434, 3) := by decide +kernel
theorem dL_law_431 : decode cL_law 431 = .ok (.iconst 0, 1) := by decide +kernel
theorem dL_law_432 : decode cL_law 432 = .ok (.ireturn, 1) := by decide +kernel
theorem dL_law_433 : decode cL_law 433 = .ok (.aload_n 1, 1) := by decide +kernel
theorem dL_law_434 : decode cL_law 434 = .ok (.aload_n 0, 1) := by decide +kernel
theorem dL_law_435 : decode cL_law 435 = .ok (.iload_n 3, 1) := by decide +kernel
theorem dL_law_436 : decode cL_law 436 = .ok (.iconst 1, 1) := by decide +kernel
theorem dL_law_437 : decode cL_law 437 = .ok (.iadd, 1) := by decide +kernel
theorem dL_law_438 : decode cL_law 438 = .ok (.iaload, 1) := by decide +kernel
theorem dL_law_439 : decode cL_law 439 = .ok (.aload_n 0, 1) := by decide +kernel
theorem dL_law_440 : decode cL_law 440 = .ok (.iload_n 3, 1) := by decide +kernel
theorem dL_law_441 : decode cL_law 441 = .ok (.iconst 2, 1) := by decide +kernel
theorem dL_law_442 : decode cL_law 442 = .ok (.iadd, 1) := by decide +kernel
theorem dL_law_443 : decode cL_law 443 = .ok (.iaload, 1) := by decide +kernel
theorem dL_law_444 : decode cL_law 444 = .ok (.invokevirtual 54, 3) := by decide +kernel
theorem dL_law_447 : decode cL_law 447 = .ok (.aload_n 2, 1) := by decide +kernel
theorem dL_law_448 : decode cL_law 448 = .ok (.aload_n 0, 1) := by decide +kernel
theorem dL_law_449 : decode cL_law 449 = .ok (.iload_n 3, 1) := by decide +kernel
theorem dL_law_450 : decode cL_law 450 = .ok (.iconst 1, 1) := by decide +kernel
theorem dL_law_451 : decode cL_law 451 = .ok (.iadd, 1) := by decide +kernel
theorem dL_law_452 : decode cL_law 452 = .ok (.iaload, 1) := by decide +kernel
theorem dL_law_453 : decode cL_law 453 = .ok (.aload_n 0, 1) := by decide +kernel
theorem dL_law_454 : decode cL_law 454 = .ok (.iload_n 3, 1) := by decide +kernel
theorem dL_law_455 : decode cL_law 455 = .ok (.iconst 2, 1) := by decide +kernel
theorem dL_law_456 : decode cL_law 456 = .ok (.iadd, 1) := by decide +kernel
theorem dL_law_457 : decode cL_law 457 = .ok (.iaload, 1) := by decide +kernel
theorem dL_law_458 : decode cL_law 458 = .ok (.invokevirtual 58, 3) := by decide +kernel
theorem dL_law_461 : decode cL_law 461 = .ok (.if_icmp .eq 401, 3) := by decide +kernel
theorem dL_law_464 : decode cL_law 464 = .ok (.iconst 0, 1) := by decide +kernel
theorem dL_law_465 : decode cL_law 465 = .ok (.ireturn, 1) := by decide +kernel
theorem dL_law_466 : decode cL_law 466 = .ok (.aload_n 1, 1) := by decide +kernel
theorem dL_law_467 : decode cL_law 467 = .ok (.aload_n 0, 1) := by decide +kernel
theorem dL_law_468 : decode cL_law 468 = .ok (.iload_n 3, 1) := by decide +kernel
theorem dL_law_469 : decode cL_law 469 = .ok (.iconst 1, 1) := by decide +kernel
theorem dL_law_470 : decode cL_law 470 = .ok (.iadd, 1) := by decide +kernel
theorem dL_law_471 : decode cL_law 471 = .ok (.iaload, 1) := by decide +kernel
theorem dL_law_472 : decode cL_law 472 = .ok (.aload_n 0, 1) := by decide +kernel
theorem dL_law_473 : decode cL_law 473 = .ok (.iload_n 3, 1) := by decide +kernel
theorem dL_law_474 : decode cL_law 474 = .ok (.iconst 2, 1) := by decide +kernel
theorem dL_law_475 : decode cL_law 475 = .ok (.iadd, 1) := by decide +kernel
theorem dL_law_476 : decode cL_law 476 = .ok (.iaload, 1) := by decide +kernel
theorem dL_law_477 : decode cL_law 477 = .ok (.aload_n 0, 1) := by decide +kernel
theorem dL_law_478 : decode cL_law 478 = .ok (.iload_n 3, 1) := by decide +kernel
theorem dL_law_479 : decode cL_law 479 = .ok (.iconst 3, 1) := by decide +kernel
theorem dL_law_480 : decode cL_law 480 = .ok (.iadd, 1) := by decide +kernel
theorem dL_law_481 : decode cL_law 481 = .ok (.iaload, 1) := by decide +kernel
theorem dL_law_482 : decode cL_law 482 = .ok (.invokevirtual 59, 3) := by decide +kernel
theorem dL_law_485 : decode cL_law 485 = .ok (.aload_n 2, 1) := by decide +kernel
theorem dL_law_486 : decode cL_law 486 = .ok (.aload_n 0, 1) := by decide +kernel
theorem dL_law_487 : decode cL_law 487 = .ok (.iload_n 3, 1) := by decide +kernel
theorem dL_law_488 : decode cL_law 488 = .ok (.iconst 1, 1) := by decide +kernel
theorem dL_law_489 : decode cL_law 489 = .ok (.iadd, 1) := by decide +kernel
theorem dL_law_490 : decode cL_law 490 = .ok (.iaload, 1) := by decide +kernel
theorem dL_law_491 : decode cL_law 491 = .ok (.aload_n 0, 1) := by decide +kernel
theorem dL_law_492 : decode cL_law 492 = .ok (.iload_n 3, 1) := by decide +kernel
theorem dL_law_493 : decode cL_law 493 = .ok (.iconst 2, 1) := by decide +kernel
theorem dL_law_494 : decode cL_law 494 = .ok (.iadd, 1) := by decide +kernel
theorem dL_law_495 : decode cL_law 495 = .ok (.iaload, 1) := by decide +kernel
theorem dL_law_496 : decode cL_law 496 = .ok (.aload_n 0, 1) := by decide +kernel
theorem dL_law_497 : decode cL_law 497 = .ok (.iload_n 3, 1) := by decide +kernel
theorem dL_law_498 : decode cL_law 498 = .ok (.iconst 3, 1) := by decide +kernel
theorem dL_law_499 : decode cL_law 499 = .ok (.iadd, 1) := by decide +kernel
theorem dL_law_500 : decode cL_law 500 = .ok (.iaload, 1) := by decide +kernel
theorem dL_law_501 : decode cL_law 501 = .ok (.invokevirtual 62, 3) := by decide +kernel
theorem dL_law_504 : decode cL_law 504 = .ok (.if_icmp .eq 358, 3) := by decide +kernel
theorem dL_law_507 : decode cL_law 507 = .ok (.iconst 0, 1) := by decide +kernel
theorem dL_law_508 : decode cL_law 508 = .ok (.ireturn, 1) := by decide +kernel
theorem dL_law_509 : decode cL_law 509 = .ok (.aload_n 1, 1) := by decide +kernel
theorem dL_law_510 : decode cL_law 510 = .ok (.aload_n 0, 1) := by decide +kernel
theorem dL_law_511 : decode cL_law 511 = .ok (.iload_n 3, 1) := by decide +kernel
theorem dL_law_512 : decode cL_law 512 = .ok (.iconst 1, 1) := by decide +kernel
theorem dL_law_513 : decode cL_law 513 = .ok (.iadd, 1) := by decide +kernel
theorem dL_law_514 : decode cL_law 514 = .ok (.iaload, 1) := by decide +kernel
theorem dL_law_515 : decode cL_law 515 = .ok (.aload_n 0, 1) := by decide +kernel
theorem dL_law_516 : decode cL_law 516 = .ok (.iload_n 3, 1) := by decide +kernel
theorem dL_law_517 : decode cL_law 517 = .ok (.iconst 2, 1) := by decide +kernel
theorem dL_law_518 : decode cL_law 518 = .ok (.iadd, 1) := by decide +kernel
theorem dL_law_519 : decode cL_law 519 = .ok (.iaload, 1) := by decide +kernel
theorem dL_law_520 : decode cL_law 520 = .ok (.aload_n 0, 1) := by decide +kernel
theorem dL_law_521 : decode cL_law 521 = .ok (.iload_n 3, 1) := by decide +kernel
theorem dL_law_522 : decode cL_law 522 = .ok (.iconst 3, 1) := by decide +kernel
theorem dL_law_523 : decode cL_law 523 = .ok (.iadd, 1) := by decide +kernel
theorem dL_law_524 : decode cL_law 524 = .ok (.iaload, 1) := by decide +kernel
theorem dL_law_525 : decode cL_law 525 = .ok (.invokevirtual 63, 3) := by decide +kernel
theorem dL_law_528 : decode cL_law 528 = .ok (.aload_n 2, 1) := by decide +kernel
theorem dL_law_529 : decode cL_law 529 = .ok (.aload_n 0, 1) := by decide +kernel
theorem dL_law_530 : decode cL_law 530 = .ok (.iload_n 3, 1) := by decide +kernel
theorem dL_law_531 : decode cL_law 531 = .ok (.iconst 1, 1) := by decide +kernel
theorem dL_law_532 : decode cL_law 532 = .ok (.iadd, 1) := by decide +kernel
theorem dL_law_533 : decode cL_law 533 = .ok (.iaload, 1) := by decide +kernel
theorem dL_law_534 : decode cL_law 534 = .ok (.aload_n 0, 1) := by decide +kernel
theorem dL_law_535 : decode cL_law 535 = .ok (.iload_n 3, 1) := by decide +kernel
theorem dL_law_536 : decode cL_law 536 = .ok (.iconst 2, 1) := by decide +kernel
theorem dL_law_537 : decode cL_law 537 = .ok (.iadd, 1) := by decide +kernel
theorem dL_law_538 : decode cL_law 538 = .ok (.iaload, 1) := by decide +kernel
theorem dL_law_539 : decode cL_law 539 = .ok (.aload_n 0, 1) := by decide +kernel
theorem dL_law_540 : decode cL_law 540 = .ok (.iload_n 3, 1) := by decide +kernel
theorem dL_law_541 : decode cL_law 541 = .ok (.iconst 3, 1) := by decide +kernel
theorem dL_law_542 : decode cL_law 542 = .ok (.iadd, 1) := by decide +kernel
theorem dL_law_543 : decode cL_law 543 = .ok (.iaload, 1) := by decide +kernel
theorem dL_law_544 : decode cL_law 544 = .ok (.invokevirtual 66, 3) := by decide +kernel
theorem dL_law_547 : decode cL_law 547 = .ok (.if_icmp .eq 315, 3) := by decide +kernel
theorem dL_law_550 : decode cL_law 550 = .ok (.iconst 0, 1) := by decide +kernel
theorem dL_law_551 : decode cL_law 551 = .ok (.ireturn, 1) := by decide +kernel
theorem dL_law_552 : decode cL_law 552 = .ok (.aload_n 1, 1) := by decide +kernel
theorem dL_law_553 : decode cL_law 553 = .ok (.aload_n 0, 1) := by decide +kernel
theorem dL_law_554 : decode cL_law 554 = .ok (.iload_n 3, 1) := by decide +kernel
theorem dL_law_555 : decode cL_law 555 = .ok (.iconst 1, 1) := by decide +kernel
theorem dL_law_556 : decode cL_law 556 = .ok (.iadd, 1) := by decide +kernel
theorem dL_law_557 : decode cL_law 557 = .ok (.iaload, 1) := by decide +kernel
theorem dL_law_558 : decode cL_law 558 = .ok (.aload_n 0, 1) := by decide +kernel
theorem dL_law_559 : decode cL_law 559 = .ok (.iload_n 3, 1) := by decide +kernel
theorem dL_law_560 : decode cL_law 560 = .ok (.iconst 2, 1) := by decide +kernel
theorem dL_law_561 : decode cL_law 561 = .ok (.iadd, 1) := by decide +kernel
theorem dL_law_562 : decode cL_law 562 = .ok (.iaload, 1) := by decide +kernel
theorem dL_law_563 : decode cL_law 563 = .ok (.aload_n 0, 1) := by decide +kernel
theorem dL_law_564 : decode cL_law 564 = .ok (.iload_n 3, 1) := by decide +kernel
theorem dL_law_565 : decode cL_law 565 = .ok (.iconst 3, 1) := by decide +kernel
theorem dL_law_566 : decode cL_law 566 = .ok (.iadd, 1) := by decide +kernel
theorem dL_law_567 : decode cL_law 567 = .ok (.iaload, 1) := by decide +kernel
theorem dL_law_568 : decode cL_law 568 = .ok (.invokevirtual 67, 3) := by decide +kernel
theorem dL_law_571 : decode cL_law 571 = .ok (.aload_n 2, 1) := by decide +kernel
theorem dL_law_572 : decode cL_law 572 = .ok (.aload_n 0, 1) := by decide +kernel
theorem dL_law_573 : decode cL_law 573 = .ok (.iload_n 3, 1) := by decide +kernel
theorem dL_law_574 : decode cL_law 574 = .ok (.iconst 1, 1) := by decide +kernel
theorem dL_law_575 : decode cL_law 575 = .ok (.iadd, 1) := by decide +kernel
theorem dL_law_576 : decode cL_law 576 = .ok (.iaload, 1) := by decide +kernel
theorem dL_law_577 : decode cL_law 577 = .ok (.aload_n 0, 1) := by decide +kernel
theorem dL_law_578 : decode cL_law 578 = .ok (.iload_n 3, 1) := by decide +kernel
theorem dL_law_579 : decode cL_law 579 = .ok (.iconst 2, 1) := by decide +kernel
theorem dL_law_580 : decode cL_law 580 = .ok (.iadd, 1) := by decide +kernel
theorem dL_law_581 : decode cL_law 581 = .ok (.iaload, 1) := by decide +kernel
theorem dL_law_582 : decode cL_law 582 = .ok (.aload_n 0, 1) := by decide +kernel
theorem dL_law_583 : decode cL_law 583 = .ok (.iload_n 3, 1) := by decide +kernel
theorem dL_law_584 : decode cL_law 584 = .ok (.iconst 3, 1) := by decide +kernel
theorem dL_law_585 : decode cL_law 585 = .ok (.iadd, 1) := by decide +kernel
theorem dL_law_586 : decode cL_law 586 = .ok (.iaload, 1) := by decide +kernel
theorem dL_law_587 : decode cL_law 587 = .ok (.invokevirtual 71, 3) := by decide +kernel
theorem dL_law_590 : decode cL_law 590 = .ok (.if_icmp .eq 272, 3) := by decide +kernel
theorem dL_law_593 : decode cL_law 593 = .ok (.iconst 0, 1) := by decide +kernel
theorem dL_law_594 : decode cL_law 594 = .ok (.ireturn, 1) := by decide +kernel
theorem dL_law_595 : decode cL_law 595 = .ok (.aload_n 1, 1) := by decide +kernel
theorem dL_law_596 : decode cL_law 596 = .ok (.aload_n 0, 1) := by decide +kernel
theorem dL_law_597 : decode cL_law 597 = .ok (.iload_n 3, 1) := by decide +kernel
theorem dL_law_598 : decode cL_law 598 = .ok (.iconst 1, 1) := by decide +kernel
theorem dL_law_599 : decode cL_law 599 = .ok (.iadd, 1) := by decide +kernel
theorem dL_law_600 : decode cL_law 600 = .ok (.iaload, 1) := by decide +kernel
theorem dL_law_601 : decode cL_law 601 = .ok (.aload_n 0, 1) := by decide +kernel
theorem dL_law_602 : decode cL_law 602 = .ok (.iload_n 3, 1) := by decide +kernel
theorem dL_law_603 : decode cL_law 603 = .ok (.iconst 2, 1) := by decide +kernel
theorem dL_law_604 : decode cL_law 604 = .ok (.iadd, 1) := by decide +kernel
theorem dL_law_605 : decode cL_law 605 = .ok (.iaload, 1) := by decide +kernel
theorem dL_law_606 : decode cL_law 606 = .ok (.invokevirtual 72, 3) := by decide +kernel
theorem dL_law_609 : decode cL_law 609 = .ok (.aload_n 2, 1) := by decide +kernel
theorem dL_law_610 : decode cL_law 610 = .ok (.aload_n 0, 1) := by decide +kernel
theorem dL_law_611 : decode cL_law 611 = .ok (.iload_n 3, 1) := by decide +kernel
theorem dL_law_612 : decode cL_law 612 = .ok (.iconst 1, 1) := by decide +kernel
theorem dL_law_613 : decode cL_law 613 = .ok (.iadd, 1) := by decide +kernel
theorem dL_law_614 : decode cL_law 614 = .ok (.iaload, 1) := by decide +kernel
theorem dL_law_615 : decode cL_law 615 = .ok (.aload_n 0, 1) := by decide +kernel
theorem dL_law_616 : decode cL_law 616 = .ok (.iload_n 3, 1) := by decide +kernel
theorem dL_law_617 : decode cL_law 617 = .ok (.iconst 2, 1) := by decide +kernel
theorem dL_law_618 : decode cL_law 618 = .ok (.iadd, 1) := by decide +kernel
theorem dL_law_619 : decode cL_law 619 = .ok (.iaload, 1) := by decide +kernel
theorem dL_law_620 : decode cL_law 620 = .ok (.invokevirtual 75, 3) := by decide +kernel
theorem dL_law_623 : decode cL_law 623 = .ok (.if_icmp .eq 239, 3) := by decide +kernel
theorem dL_law_626 : decode cL_law 626 = .ok (.iconst 0, 1) := by decide +kernel
theorem dL_law_627 : decode cL_law 627 = .ok (.ireturn, 1) := by decide +kernel
theorem dL_law_628 : decode cL_law 628 = .ok (.aload_n 1, 1) := by decide +kernel
theorem dL_law_629 : decode cL_law 629 = .ok (.aload_n 0, 1) := by decide +kernel
theorem dL_law_630 : decode cL_law 630 = .ok (.iload_n 3, 1) := by decide +kernel
theorem dL_law_631 : decode cL_law 631 = .ok (.iconst 1, 1) := by decide +kernel
theorem dL_law_632 : decode cL_law 632 = .ok (.iadd, 1) := by decide +kernel
theorem dL_law_633 : decode cL_law 633 = .ok (.iaload, 1) := by decide +kernel
theorem dL_law_634 : decode cL_law 634 = .ok (.invokevirtual 76, 3) := by decide +kernel
theorem dL_law_637 : decode cL_law 637 = .ok (.aload_n 2, 1) := by decide +kernel
theorem dL_law_638 : decode cL_law 638 = .ok (.aload_n 0, 1) := by decide +kernel
theorem dL_law_639 : decode cL_law 639 = .ok (.iload_n 3, 1) := by decide +kernel
theorem dL_law_640 : decode cL_law 640 = .ok (.iconst 1, 1) := by decide +kernel
theorem dL_law_641 : decode cL_law 641 = .ok (.iadd, 1) := by decide +kernel
theorem dL_law_642 : decode cL_law 642 = .ok (.iaload, 1) := by decide +kernel
theorem dL_law_643 : decode cL_law 643 = .ok (.invokevirtual 79, 3) := by decide +kernel
theorem dL_law_646 : decode cL_law 646 = .ok (.if_icmp .eq 216, 3) := by decide +kernel
theorem dL_law_649 : decode cL_law 649 = .ok (.iconst 0, 1) := by decide +kernel
theorem dL_law_650 : decode cL_law 650 = .ok (.ireturn, 1) := by decide +kernel
theorem dL_law_651 : decode cL_law 651 = .ok (.aload_n 1, 1) := by decide +kernel
theorem dL_law_652 : decode cL_law 652 = .ok (.aload_n 0, 1) := by decide +kernel
theorem dL_law_653 : decode cL_law 653 = .ok (.iload_n 3, 1) := by decide +kernel
theorem dL_law_654 : decode cL_law 654 = .ok (.iconst 1, 1) := by decide +kernel
theorem dL_law_655 : decode cL_law 655 = .ok (.iadd, 1) := by decide +kernel
theorem dL_law_656 : decode cL_law 656 = .ok (.iaload, 1) := by decide +kernel
theorem dL_law_657 : decode cL_law 657 = .ok (.aload_n 0, 1) := by decide +kernel
theorem dL_law_658 : decode cL_law 658 = .ok (.iload_n 3, 1) := by decide +kernel
theorem dL_law_659 : decode cL_law 659 = .ok (.iconst 2, 1) := by decide +kernel
theorem dL_law_660 : decode cL_law 660 = .ok (.iadd, 1) := by decide +kernel
theorem dL_law_661 : decode cL_law 661 = .ok (.iaload, 1) := by decide +kernel
theorem dL_law_662 : decode cL_law 662 = .ok (.invokevirtual 80, 3) := by decide +kernel
theorem dL_law_665 : decode cL_law 665 = .ok (.aload_n 2, 1) := by decide +kernel
theorem dL_law_666 : decode cL_law 666 = .ok (.aload_n 0, 1) := by decide +kernel
theorem dL_law_667 : decode cL_law 667 = .ok (.iload_n 3, 1) := by decide +kernel
theorem dL_law_668 : decode cL_law 668 = .ok (.iconst 1, 1) := by decide +kernel
theorem dL_law_669 : decode cL_law 669 = .ok (.iadd, 1) := by decide +kernel
theorem dL_law_670 : decode cL_law 670 = .ok (.iaload, 1) := by decide +kernel
theorem dL_law_671 : decode cL_law 671 = .ok (.aload_n 0, 1) := by decide +kernel
theorem dL_law_672 : decode cL_law 672 = .ok (.iload_n 3, 1) := by decide +kernel
theorem dL_law_673 : decode cL_law 673 = .ok (.iconst 2, 1) := by decide +kernel
theorem dL_law_674 : decode cL_law 674 = .ok (.iadd, 1) := by decide +kernel
theorem dL_law_675 : decode cL_law 675 = .ok (.iaload, 1) := by decide +kernel
theorem dL_law_676 : decode cL_law 676 = .ok (.invokevirtual 83, 3) := by decide +kernel
theorem dL_law_679 : decode cL_law 679 = .ok (.if_icmp .eq 183, 3) := by decide +kernel
theorem dL_law_682 : decode cL_law 682 = .ok (.iconst 0, 1) := by decide +kernel
theorem dL_law_683 : decode cL_law 683 = .ok (.ireturn, 1) := by decide +kernel
theorem dL_law_684 : decode cL_law 684 = .ok (.aload_n 1, 1) := by decide +kernel
theorem dL_law_685 : decode cL_law 685 = .ok (.aload_n 0, 1) := by decide +kernel
theorem dL_law_686 : decode cL_law 686 = .ok (.iload_n 3, 1) := by decide +kernel
theorem dL_law_687 : decode cL_law 687 = .ok (.iconst 1, 1) := by decide +kernel
theorem dL_law_688 : decode cL_law 688 = .ok (.iadd, 1) := by decide +kernel
theorem dL_law_689 : decode cL_law 689 = .ok (.iaload, 1) := by decide +kernel
theorem dL_law_690 : decode cL_law 690 = .ok (.aload_n 0, 1) := by decide +kernel
theorem dL_law_691 : decode cL_law 691 = .ok (.iload_n 3, 1) := by decide +kernel
theorem dL_law_692 : decode cL_law 692 = .ok (.iconst 2, 1) := by decide +kernel
theorem dL_law_693 : decode cL_law 693 = .ok (.iadd, 1) := by decide +kernel
theorem dL_law_694 : decode cL_law 694 = .ok (.iaload, 1) := by decide +kernel
theorem dL_law_695 : decode cL_law 695 = .ok (.aload_n 0, 1) := by decide +kernel
theorem dL_law_696 : decode cL_law 696 = .ok (.iload_n 3, 1) := by decide +kernel
theorem dL_law_697 : decode cL_law 697 = .ok (.iconst 3, 1) := by decide +kernel
theorem dL_law_698 : decode cL_law 698 = .ok (.iadd, 1) := by decide +kernel
theorem dL_law_699 : decode cL_law 699 = .ok (.iaload, 1) := by decide +kernel
theorem dL_law_700 : decode cL_law 700 = .ok (.invokevirtual 84, 3) := by decide +kernel
theorem dL_law_703 : decode cL_law 703 = .ok (.aload_n 2, 1) := by decide +kernel
theorem dL_law_704 : decode cL_law 704 = .ok (.aload_n 0, 1) := by decide +kernel
theorem dL_law_705 : decode cL_law 705 = .ok (.iload_n 3, 1) := by decide +kernel
theorem dL_law_706 : decode cL_law 706 = .ok (.iconst 1, 1) := by decide +kernel
theorem dL_law_707 : decode cL_law 707 = .ok (.iadd, 1) := by decide +kernel
theorem dL_law_708 : decode cL_law 708 = .ok (.iaload, 1) := by decide +kernel
theorem dL_law_709 : decode cL_law 709 = .ok (.aload_n 0, 1) := by decide +kernel
theorem dL_law_710 : decode cL_law 710 = .ok (.iload_n 3, 1) := by decide +kernel
theorem dL_law_711 : decode cL_law 711 = .ok (.iconst 2, 1) := by decide +kernel
theorem dL_law_712 : decode cL_law 712 = .ok (.iadd, 1) := by decide +kernel
theorem dL_law_713 : decode cL_law 713 = .ok (.iaload, 1) := by decide +kernel
theorem dL_law_714 : decode cL_law 714 = .ok (.aload_n 0, 1) := by decide +kernel
theorem dL_law_715 : decode cL_law 715 = .ok (.iload_n 3, 1) := by decide +kernel
theorem dL_law_716 : decode cL_law 716 = .ok (.iconst 3, 1) := by decide +kernel
theorem dL_law_717 : decode cL_law 717 = .ok (.iadd, 1) := by decide +kernel
theorem dL_law_718 : decode cL_law 718 = .ok (.iaload, 1) := by decide +kernel
theorem dL_law_719 : decode cL_law 719 = .ok (.invokevirtual 87, 3) := by decide +kernel
theorem dL_law_722 : decode cL_law 722 = .ok (.if_icmp .eq 140, 3) := by decide +kernel
theorem dL_law_725 : decode cL_law 725 = .ok (.iconst 0, 1) := by decide +kernel
theorem dL_law_726 : decode cL_law 726 = .ok (.ireturn, 1) := by decide +kernel
theorem dL_law_727 : decode cL_law 727 = .ok (.aload_n 1, 1) := by decide +kernel
theorem dL_law_728 : decode cL_law 728 = .ok (.aload_n 0, 1) := by decide +kernel
theorem dL_law_729 : decode cL_law 729 = .ok (.iload_n 3, 1) := by decide +kernel
theorem dL_law_730 : decode cL_law 730 = .ok (.iconst 1, 1) := by decide +kernel
theorem dL_law_731 : decode cL_law 731 = .ok (.iadd, 1) := by decide +kernel
theorem dL_law_732 : decode cL_law 732 = .ok (.iaload, 1) := by decide +kernel
theorem dL_law_733 : decode cL_law 733 = .ok (.invokevirtual 88, 3) := by decide +kernel
theorem dL_law_736 : decode cL_law 736 = .ok (.aload_n 2, 1) := by decide +kernel
theorem dL_law_737 : decode cL_law 737 = .ok (.aload_n 0, 1) := by decide +kernel
theorem dL_law_738 : decode cL_law 738 = .ok (.iload_n 3, 1) := by decide +kernel
theorem dL_law_739 : decode cL_law 739 = .ok (.iconst 1, 1) := by decide +kernel
theorem dL_law_740 : decode cL_law 740 = .ok (.iadd, 1) := by decide +kernel
theorem dL_law_741 : decode cL_law 741 = .ok (.iaload, 1) := by decide +kernel
theorem dL_law_742 : decode cL_law 742 = .ok (.invokevirtual 91, 3) := by decide +kernel
theorem dL_law_745 : decode cL_law 745 = .ok (.if_icmp .eq 117, 3) := by decide +kernel
theorem dL_law_748 : decode cL_law 748 = .ok (.iconst 0, 1) := by decide +kernel
theorem dL_law_749 : decode cL_law 749 = .ok (.ireturn, 1) := by decide +kernel
theorem dL_law_750 : decode cL_law 750 = .ok (.aload_n 1, 1) := by decide +kernel
theorem dL_law_751 : decode cL_law 751 = .ok (.aload_n 0, 1) := by decide +kernel
theorem dL_law_752 : decode cL_law 752 = .ok (.iload_n 3, 1) := by decide +kernel
theorem dL_law_753 : decode cL_law 753 = .ok (.iconst 1, 1) := by decide +kernel
theorem dL_law_754 : decode cL_law 754 = .ok (.iadd, 1) := by decide +kernel
theorem dL_law_755 : decode cL_law 755 = .ok (.iaload, 1) := by decide +kernel
theorem dL_law_756 : decode cL_law 756 = .ok (.invokevirtual 92, 3) := by decide +kernel
theorem dL_law_759 : decode cL_law 759 = .ok (.aload_n 2, 1) := by decide +kernel
theorem dL_law_760 : decode cL_law 760 = .ok (.aload_n 0, 1) := by decide +kernel
theorem dL_law_761 : decode cL_law 761 = .ok (.iload_n 3, 1) := by decide +kernel
theorem dL_law_762 : decode cL_law 762 = .ok (.iconst 1, 1) := by decide +kernel
theorem dL_law_763 : decode cL_law 763 = .ok (.iadd, 1) := by decide +kernel
theorem dL_law_764 : decode cL_law 764 = .ok (.iaload, 1) := by decide +kernel
theorem dL_law_765 : decode cL_law 765 = .ok (.invokevirtual 95, 3) := by decide +kernel
theorem dL_law_768 : decode cL_law 768 = .ok (.if_icmp .eq 94, 3) := by decide +kernel
theorem dL_law_771 : decode cL_law 771 = .ok (.iconst 0, 1) := by decide +kernel
theorem dL_law_772 : decode cL_law 772 = .ok (.ireturn, 1) := by decide +kernel
theorem dL_law_773 : decode cL_law 773 = .ok (.aload_n 1, 1) := by decide +kernel
theorem dL_law_774 : decode cL_law 774 = .ok (.aload_n 0, 1) := by decide +kernel
theorem dL_law_775 : decode cL_law 775 = .ok (.iload_n 3, 1) := by decide +kernel
theorem dL_law_776 : decode cL_law 776 = .ok (.iconst 1, 1) := by decide +kernel
theorem dL_law_777 : decode cL_law 777 = .ok (.iadd, 1) := by decide +kernel
theorem dL_law_778 : decode cL_law 778 = .ok (.iaload, 1) := by decide +kernel
theorem dL_law_779 : decode cL_law 779 = .ok (.invokevirtual 96, 3) := by decide +kernel
theorem dL_law_782 : decode cL_law 782 = .ok (.aload_n 2, 1) := by decide +kernel
theorem dL_law_783 : decode cL_law 783 = .ok (.aload_n 0, 1) := by decide +kernel
theorem dL_law_784 : decode cL_law 784 = .ok (.iload_n 3, 1) := by decide +kernel
theorem dL_law_785 : decode cL_law 785 = .ok (.iconst 1, 1) := by decide +kernel
theorem dL_law_786 : decode cL_law 786 = .ok (.iadd, 1) := by decide +kernel
theorem dL_law_787 : decode cL_law 787 = .ok (.iaload, 1) := by decide +kernel
theorem dL_law_788 : decode cL_law 788 = .ok (.invokevirtual 99, 3) := by decide +kernel
theorem dL_law_791 : decode cL_law 791 = .ok (.if_icmp .eq 71, 3) := by decide +kernel
theorem dL_law_794 : decode cL_law 794 = .ok (.iconst 0, 1) := by decide +kernel
theorem dL_law_795 : decode cL_law 795 = .ok (.ireturn, 1) := by decide +kernel
theorem dL_law_796 : decode cL_law 796 = .ok (.aload_n 1, 1) := by decide +kernel
theorem dL_law_797 : decode cL_law 797 = .ok (.aload_n 0, 1) := by decide +kernel
theorem dL_law_798 : decode cL_law 798 = .ok (.iload_n 3, 1) := by decide +kernel
theorem dL_law_799 : decode cL_law 799 = .ok (.iconst 1, 1) := by decide +kernel
theorem dL_law_800 : decode cL_law 800 = .ok (.iadd, 1) := by decide +kernel
theorem dL_law_801 : decode cL_law 801 = .ok (.iaload, 1) := by decide +kernel
theorem dL_law_802 : decode cL_law 802 = .ok (.aload_n 0, 1) := by decide +kernel
theorem dL_law_803 : decode cL_law 803 = .ok (.iload_n 3, 1) := by decide +kernel
theorem dL_law_804 : decode cL_law 804 = .ok (.iconst 2, 1) := by decide +kernel
theorem dL_law_805 : decode cL_law 805 = .ok (.iadd, 1) := by decide +kernel
theorem dL_law_806 : decode cL_law 806 = .ok (.iaload, 1) := by decide +kernel
theorem dL_law_807 : decode cL_law 807 = .ok (.aload_n 0, 1) := by decide +kernel
theorem dL_law_808 : decode cL_law 808 = .ok (.iload_n 3, 1) := by decide +kernel
theorem dL_law_809 : decode cL_law 809 = .ok (.iconst 3, 1) := by decide +kernel
theorem dL_law_810 : decode cL_law 810 = .ok (.iadd, 1) := by decide +kernel
theorem dL_law_811 : decode cL_law 811 = .ok (.iaload, 1) := by decide +kernel
theorem dL_law_812 : decode cL_law 812 = .ok (.invokevirtual 100, 3) := by decide +kernel
theorem dL_law_815 : decode cL_law 815 = .ok (.aload_n 2, 1) := by decide +kernel
theorem dL_law_816 : decode cL_law 816 = .ok (.aload_n 0, 1) := by decide +kernel
theorem dL_law_817 : decode cL_law 817 = .ok (.iload_n 3, 1) := by decide +kernel
theorem dL_law_818 : decode cL_law 818 = .ok (.iconst 1, 1) := by decide +kernel
theorem dL_law_819 : decode cL_law 819 = .ok (.iadd, 1) := by decide +kernel
theorem dL_law_820 : decode cL_law 820 = .ok (.iaload, 1) := by decide +kernel
theorem dL_law_821 : decode cL_law 821 = .ok (.aload_n 0, 1) := by decide +kernel
theorem dL_law_822 : decode cL_law 822 = .ok (.iload_n 3, 1) := by decide +kernel
theorem dL_law_823 : decode cL_law 823 = .ok (.iconst 2, 1) := by decide +kernel
theorem dL_law_824 : decode cL_law 824 = .ok (.iadd, 1) := by decide +kernel
theorem dL_law_825 : decode cL_law 825 = .ok (.iaload, 1) := by decide +kernel
theorem dL_law_826 : decode cL_law 826 = .ok (.aload_n 0, 1) := by decide +kernel
theorem dL_law_827 : decode cL_law 827 = .ok (.iload_n 3, 1) := by decide +kernel
theorem dL_law_828 : decode cL_law 828 = .ok (.iconst 3, 1) := by decide +kernel
theorem dL_law_829 : decode cL_law 829 = .ok (.iadd, 1) := by decide +kernel
theorem dL_law_830 : decode cL_law 830 = .ok (.iaload, 1) := by decide +kernel
theorem dL_law_831 : decode cL_law 831 = .ok (.invokevirtual 103, 3) := by decide +kernel
theorem dL_law_834 : decode cL_law 834 = .ok (.if_icmp .eq 28, 3) := by decide +kernel
theorem dL_law_837 : decode cL_law 837 = .ok (.iconst 0, 1) := by decide +kernel
theorem dL_law_838 : decode cL_law 838 = .ok (.ireturn, 1) := by decide +kernel
theorem dL_law_839 : decode cL_law 839 = .ok (.aload_n 1, 1) := by decide +kernel
theorem dL_law_840 : decode cL_law 840 = .ok (.aload_n 0, 1) := by decide +kernel
theorem dL_law_841 : decode cL_law 841 = .ok (.iload_n 3, 1) := by decide +kernel
theorem dL_law_842 : decode cL_law 842 = .ok (.iconst 1, 1) := by decide +kernel
theorem dL_law_843 : decode cL_law 843 = .ok (.iadd, 1) := by decide +kernel
theorem dL_law_844 : decode cL_law 844 = .ok (.iaload, 1) := by decide +kernel
theorem dL_law_845 : decode cL_law 845 = .ok (.invokevirtual 104, 3) := by decide +kernel
theorem dL_law_848 : decode cL_law 848 = .ok (.aload_n 2, 1) := by decide +kernel
theorem dL_law_849 : decode cL_law 849 = .ok (.aload_n 0, 1) := by decide +kernel
theorem dL_law_850 : decode cL_law 850 = .ok (.iload_n 3, 1) := by decide +kernel
theorem dL_law_851 : decode cL_law 851 = .ok (.iconst 1, 1) := by decide +kernel
theorem dL_law_852 : decode cL_law 852 = .ok (.iadd, 1) := by decide +kernel
theorem dL_law_853 : decode cL_law 853 = .ok (.iaload, 1) := by decide +kernel
theorem dL_law_854 : decode cL_law 854 = .ok (.invokevirtual 107, 3) := by decide +kernel
theorem dL_law_857 : decode cL_law 857 = .ok (.if_icmp .eq 5, 3) := by decide +kernel
theorem dL_law_860 : decode cL_law 860 = .ok (.iconst 0, 1) := by decide +kernel
theorem dL_law_861 : decode cL_law 861 = .ok (.ireturn, 1) := by decide +kernel
theorem dL_law_862 : decode cL_law 862 = .ok (.iinc 3 6, 3) := by decide +kernel
theorem dL_law_865 : decode cL_law 865 = .ok (.goto (-847), 3) := by decide +kernel
theorem dL_law_868 : decode cL_law 868 = .ok (.iconst 1, 1) := by decide +kernel
theorem dL_law_869 : decode cL_law 869 = .ok (.ireturn, 1) := by decide +kernel
