theorem dX11_above_85 : decode cX11_above 85 = .ok (.iconst 0, 1) := by decide +kernel
theorem dX11_above_86 : decode cX11_above 86 = .ok (.ireturn, 1) := by decide +kernel
theorem dX11_go_0 : decode cX11_go 0 = .ok (.iconst 0, 1) := by decide +kernel
theorem dX11_go_1 : decode cX11_go 1 = .ok (.istore_n 1, 1) := by decide +kernel
theorem dX11_go_2 : decode cX11_go 2 = .ok (.iload_n 1, 1) := by decide +kernel
theorem dX11_go_3 : decode cX11_go 3 = .ok (.bipush 50, 2) := by decide +kernel
theorem dX11_go_5 : decode cX11_go 5 = .ok (.if_icmp .ge 16, 3) := by decide +kernel
theorem dX11_go_8 : decode cX11_go 8 = .ok (.aload_n 0, 1) := by decide +kernel
theorem dX11_go_9 : decode cX11_go 9 = .ok (.getfield 52, 3) := by decide +kernel
theorem dX11_go_12 : decode cX11_go 12 = .ok (.iload_n 1, 1) := by decide +kernel
theorem dX11_go_13 : decode cX11_go 13 = .ok (.iconst (-1), 1) := by decide +kernel
theorem dX11_go_14 : decode cX11_go 14 = .ok (.iastore, 1) := by decide +kernel
theorem dX11_go_15 : decode cX11_go 15 = .ok (.iinc 1 1, 3) := by decide +kernel
theorem dX11_go_18 : decode cX11_go 18 = .ok (.goto (-16), 3) := by decide +kernel
theorem dX11_go_21 : decode cX11_go 21 = .ok (.iconst 0, 1) := by decide +kernel
theorem dX11_go_22 : decode cX11_go 22 = .ok (.istore_n 1, 1) := by decide +kernel
theorem dX11_go_23 : decode cX11_go 23 = .ok (.iload_n 1, 1) := by decide +kernel
theorem dX11_go_24 : decode cX11_go 24 = .ok (.bipush 20, 2) := by decide +kernel
theorem dX11_go_26 : decode cX11_go 26 = .ok (.if_icmp .ge 16, 3) := by decide +kernel
theorem dX11_go_29 : decode cX11_go 29 = .ok (.aload_n 0, 1) := by decide +kernel
theorem dX11_go_30 : decode cX11_go 30 = .ok (.getfield 55, 3) := by decide +kernel
theorem dX11_go_33 : decode cX11_go 33 = .ok (.iload_n 1, 1) := by decide +kernel
theorem dX11_go_34 : decode cX11_go 34 = .ok (.iconst 0, 1) := by decide +kernel
theorem dX11_go_35 : decode cX11_go 35 = .ok (.iastore, 1) := by decide +kernel
theorem dX11_go_36 : decode cX11_go 36 = .ok (.iinc 1 1, 3) := by decide +kernel
theorem dX11_go_39 : decode cX11_go 39 = .ok (.goto (-16), 3) := by decide +kernel
theorem dX11_go_42 : decode cX11_go 42 = .ok (.iconst 0, 1) := by decide +kernel
theorem dX11_go_43 : decode cX11_go 43 = .ok (.istore_n 1, 1) := by decide +kernel
theorem dX11_go_44 : decode cX11_go 44 = .ok (.iload_n 1, 1) := by decide +kernel
theorem dX11_go_45 : decode cX11_go 45 = .ok (.iconst 4, 1) := by decide +kernel
theorem dX11_go_46 : decode cX11_go 46 = .ok (.if_icmp .ge 30, 3) := by decide +kernel
theorem dX11_go_49 : decode cX11_go 49 = .ok (.aload_n 0, 1) := by decide +kernel
theorem dX11_go_50 : decode cX11_go 50 = .ok (.getfield 58, 3) := by decide +kernel
theorem dX11_go_53 : decode cX11_go 53 = .ok (.iload_n 1, 1) := by decide +kernel
theorem dX11_go_54 : decode cX11_go 54 = .ok (.iconst 0, 1) := by decide +kernel
theorem dX11_go_55 : decode cX11_go 55 = .ok (.iastore, 1) := by decide +kernel
theorem dX11_go_56 : decode cX11_go 56 = .ok (.aload_n 0, 1) := by decide +kernel
theorem dX11_go_57 : decode cX11_go 57 = .ok (.getfield 61, 3) := by decide +kernel
theorem dX11_go_60 : decode cX11_go 60 = .ok (.iload_n 1, 1) := by decide +kernel
theorem dX11_go_61 : decode cX11_go 61 = .ok (.iconst (-1), 1) := by decide +kernel
theorem dX11_go_62 : decode cX11_go 62 = .ok (.iastore, 1) := by decide +kernel
theorem dX11_go_63 : decode cX11_go 63 = .ok (.aload_n 0, 1) := by decide +kernel
theorem dX11_go_64 : decode cX11_go 64 = .ok (.getfield 64, 3) := by decide +kernel
theorem dX11_go_67 : decode cX11_go 67 = .ok (.iload_n 1, 1) := by decide +kernel
theorem dX11_go_68 : decode cX11_go 68 = .ok (.iconst (-1), 1) := by decide +kernel
theorem dX11_go_69 : decode cX11_go 69 = .ok (.iastore, 1) := by decide +kernel
theorem dX11_go_70 : decode cX11_go 70 = .ok (.iinc 1 1, 3) := by decide +kernel
theorem dX11_go_73 : decode cX11_go 73 = .ok (.goto (-29), 3) := by decide +kernel
theorem dX11_go_76 : decode cX11_go 76 = .ok (.iconst 0, 1) := by decide +kernel
theorem dX11_go_77 : decode cX11_go 77 = .ok (.istore_n 1, 1) := by decide +kernel
theorem dX11_go_78 : decode cX11_go 78 = .ok (.iload_n 1, 1) := by decide +kernel
theorem dX11_go_79 : decode cX11_go 79 = .ok (.bipush 10, 2) := by decide +kernel
theorem dX11_go_81 : decode cX11_go 81 = .ok (.if_icmp .ge 16, 3) := by decide +kernel
theorem dX11_go_84 : decode cX11_go 84 = .ok (.aload_n 0, 1) := by decide +kernel
theorem dX11_go_85 : decode cX11_go 85 = .ok (.getfield 67, 3) := by decide +kernel
theorem dX11_go_88 : decode cX11_go 88 = .ok (.iload_n 1, 1) := by decide +kernel
theorem dX11_go_89 : decode cX11_go 89 = .ok (.iconst (-1), 1) := by decide +kernel
theorem dX11_go_90 : decode cX11_go 90 = .ok (.iastore, 1) := by decide +kernel
theorem dX11_go_91 : decode cX11_go 91 = .ok (.iinc 1 1, 3) := by decide +kernel
theorem dX11_go_94 : decode cX11_go 94 = .ok (.goto (-16), 3) := by decide +kernel
theorem dX11_go_97 : decode cX11_go 97 = .ok (.iconst 0, 1) := by decide +kernel
theorem dX11_go_98 : decode cX11_go 98 = .ok (.istore_n 1, 1) := by decide +kernel
theorem dX11_go_99 : decode cX11_go 99 = .ok (.iload_n 1, 1) := by decide +kernel
theorem dX11_go_100 : decode cX11_go 100 = .ok (.bipush 48, 2) := by decide +kernel
theorem dX11_go_102 : decode cX11_go 102 = .ok (.if_icmp .ge 40, 3) := by decide +kernel
theorem dX11_go_105 : decode cX11_go 105 = .ok (.iconst 0, 1) := by decide +kernel
theorem dX11_go_106 : decode cX11_go 106 = .ok (.istore_n 2, 1) := by decide +kernel
theorem dX11_go_107 : decode cX11_go 107 = .ok (.iload_n 2, 1) := by decide +kernel
theorem dX11_go_108 : decode cX11_go 108 = .ok (.aload_n 0, 1) := by decide +kernel
theorem dX11_go_109 : decode cX11_go 109 = .ok (.getfield 123, 3) := by decide +kernel
theorem dX11_go_112 : decode cX11_go 112 = .ok (.if_icmp .ge 24, 3) := by decide +kernel
theorem dX11_go_115 : decode cX11_go 115 = .ok (.aload_n 0, 1) := by decide +kernel
theorem dX11_go_116 : decode cX11_go 116 = .ok (.iload_n 2, 1) := by decide +kernel
theorem dX11_go_117 : decode cX11_go 117 = .ok (.iload_n 1, 1) := by decide +kernel
theorem dX11_go_118 : decode cX11_go 118 = .ok (.invokevirtual 246, 3) := by decide +kernel
theorem dX11_go_121 : decode cX11_go 121 = .ok (.ifCond .eq 9, 3) := by decide +kernel
theorem dX11_go_124 : decode cX11_go 124 = .ok (.aload_n 0, 1) := by decide +kernel
theorem dX11_go_125 : decode cX11_go 125 = .ok (.iload_n 2, 1) := by decide +kernel
theorem dX11_go_126 : decode cX11_go 126 = .ok (.iload_n 1, 1) := by decide +kernel
theorem dX11_go_127 : decode cX11_go 127 = .ok (.invokevirtual 250, 3) := by decide +kernel
theorem dX11_go_130 : decode cX11_go 130 = .ok (.iinc 2 1, 3) := by decide +kernel
theorem dX11_go_133 : decode cX11_go 133 = .ok (.goto (-26), 3) := by decide +kernel
theorem dX11_go_136 : decode cX11_go 136 = .ok (.iinc 1 1, 3) := by decide +kernel
theorem dX11_go_139 : decode cX11_go 139 = .ok (.goto (-40), 3) := by decide +kernel
theorem dX11_go_142 : decode cX11_go 142 = .ok (.return_, 1) := by decide +kernel
theorem dX11_come_0 : decode cX11_come 0 = .ok (.iconst 0, 1) := by decide +kernel
theorem dX11_come_1 : decode cX11_come 1 = .ok (.istore_n 3, 1) := by decide +kernel
theorem dX11_come_2 : decode cX11_come 2 = .ok (.iconst 0, 1) := by decide +kernel
theorem dX11_come_3 : decode cX11_come 3 = .ok (.istore 4, 2) := by decide +kernel
theorem dX11_come_5 : decode cX11_come 5 = .ok (.iload 4, 2) := by decide +kernel
theorem dX11_come_7 : decode cX11_come 7 = .ok (.aload_n 0, 1) := by decide +kernel
theorem dX11_come_8 : decode cX11_come 8 = .ok (.getfield 16, 3) := by decide +kernel
theorem dX11_come_11 : decode cX11_come 11 = .ok (.iload_n 1, 1) := by decide +kernel
theorem dX11_come_12 : decode cX11_come 12 = .ok (.iaload, 1) := by decide +kernel
theorem dX11_come_13 : decode cX11_come 13 = .ok (.if_icmp .ge 120, 3) := by decide +kernel
theorem dX11_come_16 : decode cX11_come 16 = .ok (.iconst (-1), 1) := by decide +kernel
theorem dX11_come_17 : decode cX11_come 17 = .ok (.istore 5, 2) := by decide +kernel
theorem dX11_come_19 : decode cX11_come 19 = .ok (.iconst 0, 1) := by decide +kernel
theorem dX11_come_20 : decode cX11_come 20 = .ok (.istore 6, 2) := by decide +kernel
theorem dX11_come_22 : decode cX11_come 22 = .ok (.iload 6, 2) := by decide +kernel
theorem dX11_come_24 : decode cX11_come 24 = .ok (.aload_n 0, 1) := by decide +kernel
theorem dX11_come_25 : decode cX11_come 25 = .ok (.getfield 131, 3) := by decide +kernel
theorem dX11_come_28 : decode cX11_come 28 = .ok (.if_icmp .ge 54, 3) := by decide +kernel
theorem dX11_come_31 : decode cX11_come 31 = .ok (.iload_n 3, 1) := by decide +kernel
theorem dX11_come_32 : decode cX11_come 32 = .ok (.iload 6, 2) := by decide +kernel
theorem dX11_come_34 : decode cX11_come 34 = .ok (.ishr, 1) := by decide +kernel
theorem dX11_come_35 : decode cX11_come 35 = .ok (.iconst 1, 1) := by decide +kernel
theorem dX11_come_36 : decode cX11_come 36 = .ok (.iand, 1) := by decide +kernel
theorem dX11_come_37 : decode cX11_come 37 = .ok (.ifCond .ne 39, 3) := by decide +kernel
theorem dX11_come_40 : decode cX11_come 40 = .ok (.aload_n 0, 1) := by decide +kernel
theorem dX11_come_41 : decode cX11_come 41 = .ok (.getfield 67, 3) := by decide +kernel
theorem dX11_come_44 : decode cX11_come 44 = .ok (.iload 6, 2) := by decide +kernel
theorem dX11_come_46 : decode cX11_come 46 = .ok (.iaload, 1) := by decide +kernel
theorem dX11_come_47 : decode cX11_come 47 = .ok (.iconst (-1), 1) := by decide +kernel
theorem dX11_come_48 : decode cX11_come 48 = .ok (.if_icmp .ne 28, 3) := by decide +kernel
theorem dX11_come_51 : decode cX11_come 51 = .ok (.aload_n 0, 1) := by decide +kernel
theorem dX11_come_52 : decode cX11_come 52 = .ok (.iload 6, 2) := by decide +kernel
theorem dX11_come_54 : decode cX11_come 54 = .ok (.iload_n 2, 1) := by decide +kernel
theorem dX11_come_55 : decode cX11_come 55 = .ok (.invokevirtual 254, 3) := by decide +kernel
theorem dX11_come_58 : decode cX11_come 58 = .ok (.ifCond .eq 18, 3) := by decide +kernel
theorem dX11_come_61 : decode cX11_come 61 = .ok (.aload_n 0, 1) := by decide +kernel
theorem dX11_come_62 : decode cX11_come 62 = .ok (.iload 6, 2) := by decide +kernel
theorem dX11_come_64 : decode cX11_come 64 = .ok (.iload 5, 2) := by decide +kernel
theorem dX11_come_66 : decode cX11_come 66 = .ok (.invokevirtual 257, 3) := by decide +kernel
theorem dX11_come_69 : decode cX11_come 69 = .ok (.ifCond .eq 7, 3) := by decide +kernel
theorem dX11_come_72 : decode cX11_come 72 = .ok (.iload 6, 2) := by decide +kernel
theorem dX11_come_74 : decode cX11_come 74 = .ok (.istore 5, 2) := by decide +kernel
theorem dX11_come_76 : decode cX11_come 76 = .ok (.iinc 6 1, 3) := by decide +kernel
theorem dX11_come_79 : decode cX11_come 79 = .ok (.goto (-57), 3) := by decide +kernel
theorem dX11_come_82 : decode cX11_come 82 = .ok (.iload 5, 2) := by decide +kernel
theorem dX11_come_84 : decode cX11_come 84 = .ok (.iconst (-1), 1) := by decide +kernel
theorem dX11_come_85 : decode cX11_come 85 = .ok (.if_icmp .ne 6, 3) := by decide +kernel
theorem dX11_come_88 : decode cX11_come 88 = .ok (.goto 45, 3) := by decide +kernel
theorem dX11_come_91 : decode cX11_come 91 = .ok (.iload_n 3, 1) := by decide +kernel
theorem dX11_come_92 : decode cX11_come 92 = .ok (.iconst 1, 1) := by decide +kernel
theorem dX11_come_93 : decode cX11_come 93 = .ok (.iload 5, 2) := by decide +kernel
theorem dX11_come_95 : decode cX11_come 95 = .ok (.ishl, 1) := by decide +kernel
theorem dX11_come_96 : decode cX11_come 96 = .ok (.ior, 1) := by decide +kernel
theorem dX11_come_97 : decode cX11_come 97 = .ok (.istore_n 3, 1) := by decide +kernel
theorem dX11_come_98 : decode cX11_come 98 = .ok (.aload_n 0, 1) := by decide +kernel
theorem dX11_come_99 : decode cX11_come 99 = .ok (.getfield 52, 3) := by decide +kernel
theorem dX11_come_102 : decode cX11_come 102 = .ok (.bipush 10, 2) := by decide +kernel
theorem dX11_come_104 : decode cX11_come 104 = .ok (.iload_n 1, 1) := by decide +kernel
theorem dX11_come_105 : decode cX11_come 105 = .ok (.imul, 1) := by decide +kernel
theorem dX11_come_106 : decode cX11_come 106 = .ok (.iload 5, 2) := by decide +kernel
theorem dX11_come_108 : decode cX11_come 108 = .ok (.iadd, 1) := by decide +kernel
theorem dX11_come_109 : decode cX11_come 109 = .ok (.iaload, 1) := by decide +kernel
theorem dX11_come_110 : decode cX11_come 110 = .ok (.iconst (-1), 1) := by decide +kernel
theorem dX11_come_111 : decode cX11_come 111 = .ok (.if_icmp .ne 16, 3) := by decide +kernel
theorem dX11_come_114 : decode cX11_come 114 = .ok (.aload_n 0, 1) := by decide +kernel
theorem dX11_come_115 : decode cX11_come 115 = .ok (.getfield 52, 3) := by decide +kernel
theorem dX11_come_118 : decode cX11_come 118 = .ok (.bipush 10, 2) := by decide +kernel
theorem dX11_come_120 : decode cX11_come 120 = .ok (.iload_n 1, 1) := by decide +kernel
theorem dX11_come_121 : decode cX11_come 121 = .ok (.imul, 1) := by decide +kernel
theorem dX11_come_122 : decode cX11_come 122 = .ok (.iload 5, 2) := by decide +kernel
theorem dX11_come_124 : decode cX11_come 124 = .ok (.iadd, 1) := by decide +kernel
theorem dX11_come_125 : decode cX11_come 125 = .ok (.iload_n 2, 1) := by decide +kernel
theorem dX11_come_126 : decode cX11_come 126 = .ok (.iastore, 1) := by decide +kernel
theorem dX11_come_127 : decode cX11_come 127 = .ok (.iinc 4 1, 3) := by decide +kernel
theorem dX11_come_130 : decode cX11_come 130 = .ok (.goto (-125), 3) := by decide +kernel
theorem dX11_come_133 : decode cX11_come 133 = .ok (.iconst 0, 1) := by decide +kernel
theorem dX11_come_134 : decode cX11_come 134 = .ok (.istore 4, 2) := by decide +kernel
theorem dX11_come_136 : decode cX11_come 136 = .ok (.iload 4, 2) := by decide +kernel
theorem dX11_come_138 : decode cX11_come 138 = .ok (.iconst 4, 1) := by decide +kernel
theorem dX11_come_139 : decode cX11_come 139 = .ok (.if_icmp .ge 160, 3) := by decide +kernel
theorem dX11_come_142 : decode cX11_come 142 = .ok (.iconst 0, 1) := by decide +kernel
theorem dX11_come_143 : decode cX11_come 143 = .ok (.istore 5, 2) := by decide +kernel
theorem dX11_come_145 : decode cX11_come 145 = .ok (.iconst 0, 1) := by decide +kernel
theorem dX11_come_146 : decode cX11_come 146 = .ok (.istore 6, 2) := by decide +kernel
theorem dX11_come_148 : decode cX11_come 148 = .ok (.iconst 0, 1) := by decide +kernel
theorem dX11_come_149 : decode cX11_come 149 = .ok (.istore 7, 2) := by decide +kernel
theorem dX11_come_151 : decode cX11_come 151 = .ok (.iload 7, 2) := by decide +kernel
theorem dX11_come_153 : decode cX11_come 153 = .ok (.aload_n 0, 1) := by decide +kernel
theorem dX11_come_154 : decode cX11_come 154 = .ok (.getfield 131, 3) := by decide +kernel
theorem dX11_come_157 : decode cX11_come 157 = .ok (.if_icmp .ge 62, 3) := by decide +kernel
theorem dX11_come_160 : decode cX11_come 160 = .ok (.aload_n 0, 1) := by decide +kernel
theorem dX11_come_161 : decode cX11_come 161 = .ok (.getfield 28, 3) := by decide +kernel
theorem dX11_come_164 : decode cX11_come 164 = .ok (.iload 7, 2) := by decide +kernel
theorem dX11_come_166 : decode cX11_come 166 = .ok (.iaload, 1) := by decide +kernel
theorem dX11_come_167 : decode cX11_come 167 = .ok (.iload 4, 2) := by decide +kernel
theorem dX11_come_169 : decode cX11_come 169 = .ok (.if_icmp .ne 44, 3) := by decide +kernel
theorem dX11_come_172 : decode cX11_come 172 = .ok (.aload_n 0, 1) := by decide +kernel
theorem dX11_come_173 : decode cX11_come 173 = .ok (.getfield 52, 3) := by decide +kernel
theorem dX11_come_176 : decode cX11_come 176 = .ok (.bipush 10, 2) := by decide +kernel
theorem dX11_come_178 : decode cX11_come 178 = .ok (.iload_n 1, 1) := by decide +kernel
theorem dX11_come_179 : decode cX11_come 179 = .ok (.imul, 1) := by decide +kernel
theorem dX11_come_180 : decode cX11_come 180 = .ok (.iload 7, 2) := by decide +kernel
theorem dX11_come_182 : decode cX11_come 182 = .ok (.iadd, 1) := by decide +kernel
theorem dX11_come_183 : decode cX11_come 183 = .ok (.iaload, 1) := by decide +kernel
theorem dX11_come_184 : decode cX11_come 184 = .ok (.iconst (-1), 1) := by decide +kernel
theorem dX11_come_185 : decode cX11_come 185 = .ok (.if_icmp .ne 6, 3) := by decide +kernel
theorem dX11_come_188 : decode cX11_come 188 = .ok (.goto 25, 3) := by decide +kernel
theorem dX11_come_191 : decode cX11_come 191 = .ok (.iload 5, 2) := by decide +kernel
theorem dX11_come_193 : decode cX11_come 193 = .ok (.aload_n 0, 1) := by decide +kernel
theorem dX11_come_194 : decode cX11_come 194 = .ok (.iload 7, 2) := by decide +kernel
theorem dX11_come_196 : decode cX11_come 196 = .ok (.invokevirtual 147, 3) := by decide +kernel
theorem dX11_come_199 : decode cX11_come 199 = .ok (.iadd, 1) := by decide +kernel
theorem dX11_come_200 : decode cX11_come 200 = .ok (.istore 5, 2) := by decide +kernel
theorem dX11_come_202 : decode cX11_come 202 = .ok (.iload 6, 2) := by decide +kernel
theorem dX11_come_204 : decode cX11_come 204 = .ok (.aload_n 0, 1) := by decide +kernel
theorem dX11_come_205 : decode cX11_come 205 = .ok (.iload 7, 2) := by decide +kernel
theorem dX11_come_207 : decode cX11_come 207 = .ok (.invokevirtual 150, 3) := by decide +kernel
theorem dX11_come_210 : decode cX11_come 210 = .ok (.iadd, 1) := by decide +kernel
theorem dX11_come_211 : decode cX11_come 211 = .ok (.istore 6, 2) := by decide +kernel
theorem dX11_come_213 : decode cX11_come 213 = .ok (.iinc 7 1, 3) := by decide +kernel
theorem dX11_come_216 : decode cX11_come 216 = .ok (.goto (-65), 3) := by decide +kernel
theorem dX11_come_219 : decode cX11_come 219 = .ok (.aload_n 0, 1) := by decide +kernel
theorem dX11_come_220 : decode cX11_come 220 = .ok (.iconst 0, 1) := by decide +kernel
theorem dX11_come_221 : decode cX11_come 221 = .ok (.iload 5, 2) := by decide +kernel
theorem dX11_come_223 : decode cX11_come 223 = .ok (.iload 6, 2) := by decide +kernel
theorem dX11_come_225 : decode cX11_come 225 = .ok (.iload_n 2, 1) := by decide +kernel
theorem dX11_come_226 : decode cX11_come 226 = .ok (.iload_n 1, 1) := by decide +kernel
theorem dX11_come_227 : decode cX11_come 227 = .ok (.aload_n 0, 1) := by decide +kernel
theorem dX11_come_228 : decode cX11_come 228 = .ok (.getfield 19, 3) := by decide +kernel
theorem dX11_come_231 : decode cX11_come 231 = .ok (.iload_n 1, 1) := by decide +kernel
theorem dX11_come_232 : decode cX11_come 232 = .ok (.iaload, 1) := by decide +kernel
theorem dX11_come_233 : decode cX11_come 233 = .ok (.iload 4, 2) := by decide +kernel
theorem dX11_come_235 : decode cX11_come 235 = .ok (.invokevirtual 260, 3) := by decide +kernel
theorem dX11_come_238 : decode cX11_come 238 = .ok (.ifCond .ne 6, 3) := by decide +kernel
theorem dX11_come_241 : decode cX11_come 241 = .ok (.goto 52, 3) := by decide +kernel
theorem dX11_come_244 : decode cX11_come 244 = .ok (.aload_n 0, 1) := by decide +kernel
theorem dX11_come_245 : decode cX11_come 245 = .ok (.getfield 55, 3) := by decide +kernel
theorem dX11_come_248 : decode cX11_come 248 = .ok (.iconst 4, 1) := by decide +kernel
theorem dX11_come_249 : decode cX11_come 249 = .ok (.iload_n 1, 1) := by decide +kernel
theorem dX11_come_250 : decode cX11_come 250 = .ok (.imul, 1) := by decide +kernel
theorem dX11_come_251 : decode cX11_come 251 = .ok (.iload 4, 2) := by decide +kernel
theorem dX11_come_253 : decode cX11_come 253 = .ok (.iadd, 1) := by decide +kernel
theorem dX11_come_254 : decode cX11_come 254 = .ok (.dup2, 1) := by decide +kernel
theorem dX11_come_255 : decode cX11_come 255 = .ok (.iaload, 1) := by decide +kernel
theorem dX11_come_256 : decode cX11_come 256 = .ok (.iconst 1, 1) := by decide +kernel
theorem dX11_come_257 : decode cX11_come 257 = .ok (.iadd, 1) := by decide +kernel
theorem dX11_come_258 : decode cX11_come 258 = .ok (.iastore, 1) := by decide +kernel
theorem dX11_come_259 : decode cX11_come 259 = .ok (.aload_n 0, 1) := by decide +kernel
theorem dX11_come_260 : decode cX11_come 260 = .ok (.getfield 58, 3) := by decide +kernel
theorem dX11_come_263 : decode cX11_come 263 = .ok (.iload 4, 2) := by decide +kernel
theorem dX11_come_265 : decode cX11_come 265 = .ok (.dup2, 1) := by decide +kernel
theorem dX11_come_266 : decode cX11_come 266 = .ok (.iaload, 1) := by decide +kernel
theorem dX11_come_267 : decode cX11_come 267 = .ok (.dup_x2, 1) := by decide +kernel
theorem dX11_come_268 : decode cX11_come 268 = .ok (.iconst 1, 1) := by decide +kernel
theorem dX11_come_269 : decode cX11_come 269 = .ok (.iadd, 1) := by decide +kernel
theorem dX11_come_270 : decode cX11_come 270 = .ok (.iastore, 1) := by decide +kernel
theorem dX11_come_271 : decode cX11_come 271 = .ok (.ifCond .le 6, 3) := by decide +kernel
theorem dX11_come_274 : decode cX11_come 274 = .ok (.goto 19, 3) := by decide +kernel
theorem dX11_come_277 : decode cX11_come 277 = .ok (.aload_n 0, 1) := by decide +kernel
theorem dX11_come_278 : decode cX11_come 278 = .ok (.getfield 61, 3) := by decide +kernel
theorem dX11_come_281 : decode cX11_come 281 = .ok (.iload 4, 2) := by decide +kernel
theorem dX11_come_283 : decode cX11_come 283 = .ok (.iload_n 2, 1) := by decide +kernel
theorem dX11_come_284 : decode cX11_come 284 = .ok (.iastore, 1) := by decide +kernel
theorem dX11_come_285 : decode cX11_come 285 = .ok (.aload_n 0, 1) := by decide +kernel
theorem dX11_come_286 : decode cX11_come 286 = .ok (.getfield 64, 3) := by decide +kernel
theorem dX11_come_289 : decode cX11_come 289 = .ok (.iload 4, 2) := by decide +kernel
theorem dX11_come_291 : decode cX11_come 291 = .ok (.iload_n 1, 1) := by decide +kernel
theorem dX11_come_292 : decode cX11_come 292 = .ok (.iastore, 1) := by decide +kernel
theorem dX11_come_293 : decode cX11_come 293 = .ok (.iinc 4 1, 3) := by decide +kernel
theorem dX11_come_296 : decode cX11_come 296 = .ok (.goto (-160), 3) := by decide +kernel
theorem dX11_come_299 : decode cX11_come 299 = .ok (.iconst 0, 1) := by decide +kernel
theorem dX11_come_300 : decode cX11_come 300 = .ok (.istore 4, 2) := by decide +kernel
theorem dX11_come_302 : decode cX11_come 302 = .ok (.iload 4, 2) := by decide +kernel
theorem dX11_come_304 : decode cX11_come 304 = .ok (.aload_n 0, 1) := by decide +kernel
theorem dX11_come_305 : decode cX11_come 305 = .ok (.getfield 131, 3) := by decide +kernel
theorem dX11_come_308 : decode cX11_come 308 = .ok (.if_icmp .ge 62, 3) := by decide +kernel
theorem dX11_come_311 : decode cX11_come 311 = .ok (.iload_n 3, 1) := by decide +kernel
theorem dX11_come_312 : decode cX11_come 312 = .ok (.iload 4, 2) := by decide +kernel
theorem dX11_come_314 : decode cX11_come 314 = .ok (.ishr, 1) := by decide +kernel
theorem dX11_come_315 : decode cX11_come 315 = .ok (.iconst 1, 1) := by decide +kernel
theorem dX11_come_316 : decode cX11_come 316 = .ok (.iand, 1) := by decide +kernel
theorem dX11_come_317 : decode cX11_come 317 = .ok (.iconst 1, 1) := by decide +kernel
theorem dX11_come_318 : decode cX11_come 318 = .ok (.if_icmp .ne 46, 3) := by decide +kernel
theorem dX11_come_321 : decode cX11_come 321 = .ok (.aload_n 0, 1) := by decide +kernel
theorem dX11_come_322 : decode cX11_come 322 = .ok (.iconst 1, 1) := by decide +kernel
theorem dX11_come_323 : decode cX11_come 323 = .ok (.aload_n 0, 1) := by decide +kernel
theorem dX11_come_324 : decode cX11_come 324 = .ok (.iload 4, 2) := by decide +kernel
theorem dX11_come_326 : decode cX11_come 326 = .ok (.invokevirtual 147, 3) := by decide +kernel
theorem dX11_come_329 : decode cX11_come 329 = .ok (.aload_n 0, 1) := by decide +kernel
theorem dX11_come_330 : decode cX11_come 330 = .ok (.iload 4, 2) := by decide +kernel
theorem dX11_come_332 : decode cX11_come 332 = .ok (.invokevirtual 150, 3) := by decide +kernel
theorem dX11_come_335 : decode cX11_come 335 = .ok (.iload_n 2, 1) := by decide +kernel
theorem dX11_come_336 : decode cX11_come 336 = .ok (.iload_n 1, 1) := by decide +kernel
theorem dX11_come_337 : decode cX11_come 337 = .ok (.aload_n 0, 1) := by decide +kernel
theorem dX11_come_338 : decode cX11_come 338 = .ok (.getfield 19, 3) := by decide +kernel
theorem dX11_come_341 : decode cX11_come 341 = .ok (.iload_n 1, 1) := by decide +kernel
theorem dX11_come_342 : decode cX11_come 342 = .ok (.iaload, 1) := by decide +kernel
theorem dX11_come_343 : decode cX11_come 343 = .ok (.aload_n 0, 1) := by decide +kernel
theorem dX11_come_344 : decode cX11_come 344 = .ok (.getfield 28, 3) := by decide +kernel
theorem dX11_come_347 : decode cX11_come 347 = .ok (.iload 4, 2) := by decide +kernel
theorem dX11_come_349 : decode cX11_come 349 = .ok (.iaload, 1) := by decide +kernel
theorem dX11_come_350 : decode cX11_come 350 = .ok (.invokevirtual 260, 3) := by decide +kernel
theorem dX11_come_353 : decode cX11_come 353 = .ok (.ifCond .eq 11, 3) := by decide +kernel
theorem dX11_come_356 : decode cX11_come 356 = .ok (.aload_n 0, 1) := by decide +kernel
theorem dX11_come_357 : decode cX11_come 357 = .ok (.getfield 67, 3) := by decide +kernel
theorem dX11_come_360 : decode cX11_come 360 = .ok (.iload 4, 2) := by decide +kernel
theorem dX11_come_362 : decode cX11_come 362 = .ok (.iload_n 2, 1) := by decide +kernel
theorem dX11_come_363 : decode cX11_come 363 = .ok (.iastore, 1) := by decide +kernel
theorem dX11_come_364 : decode cX11_come 364 = .ok (.iinc 4 1, 3) := by decide +kernel
theorem dX11_come_367 : decode cX11_come 367 = .ok (.goto (-65), 3) := by decide +kernel
theorem dX11_come_370 : decode cX11_come 370 = .ok (.return_, 1) := by decide +kernel
theorem dX11_lying_0 : decode cX11_lying 0 = .ok (.iconst 0, 1) := by decide +kernel
theorem dX11_lying_1 : decode cX11_lying 1 = .ok (.istore_n 2, 1) := by decide +kernel
theorem dX11_lying_2 : decode cX11_lying 2 = .ok (.iconst 0, 1) := by decide +kernel
theorem dX11_lying_3 : decode cX11_lying 3 = .ok (.istore_n 3, 1) := by decide +kernel
theorem dX11_lying_4 : decode cX11_lying 4 = .ok (.iload_n 3, 1) := by decide +kernel
theorem dX11_lying_5 : decode cX11_lying 5 = .ok (.aload_n 0, 1) := by decide +kernel
theorem dX11_lying_6 : decode cX11_lying 6 = .ok (.getfield 131, 3) := by decide +kernel
theorem dX11_lying_9 : decode cX11_lying 9 = .ok (.if_icmp .ge 44, 3) := by decide +kernel
theorem dX11_lying_12 : decode cX11_lying 12 = .ok (.aload_n 0, 1) := by decide +kernel
theorem dX11_lying_13 : decode cX11_lying 13 = .ok (.iload_n 3, 1) := by decide +kernel
theorem dX11_lying_14 : decode cX11_lying 14 = .ok (.iload_n 1, 1) := by decide +kernel
theorem dX11_lying_15 : decode cX11_lying 15 = .ok (.invokevirtual 254, 3) := by decide +kernel
theorem dX11_lying_18 : decode cX11_lying 18 = .ok (.ifCond .eq 29, 3) := by decide +kernel
theorem dX11_lying_21 : decode cX11_lying 21 = .ok (.aload_n 0, 1) := by decide +kernel
theorem dX11_lying_22 : decode cX11_lying 22 = .ok (.getfield 67, 3) := by decide +kernel
theorem dX11_lying_25 : decode cX11_lying 25 = .ok (.iload_n 3, 1) := by decide +kernel
theorem dX11_lying_26 : decode cX11_lying 26 = .ok (.iaload, 1) := by decide +kernel
theorem dX11_lying_27 : decode cX11_lying 27 = .ok (.iconst (-1), 1) := by decide +kernel
theorem dX11_lying_28 : decode cX11_lying 28 = .ok (.if_icmp .eq 13, 3) := by decide +kernel
theorem dX11_lying_31 : decode cX11_lying 31 = .ok (.aload_n 0, 1) := by decide +kernel
theorem dX11_lying_32 : decode cX11_lying 32 = .ok (.getfield 67, 3) := by decide +kernel
theorem dX11_lying_35 : decode cX11_lying 35 = .ok (.iload_n 3, 1) := by decide +kernel
theorem dX11_lying_36 : decode cX11_lying 36 = .ok (.iaload, 1) := by decide +kernel
theorem dX11_lying_37 : decode cX11_lying 37 = .ok (.iload_n 1, 1) := by decide +kernel
theorem dX11_lying_38 : decode cX11_lying 38 = .ok (.if_icmp .le 9, 3) := by decide +kernel
theorem dX11_lying_41 : decode cX11_lying 41 = .ok (.iload_n 2, 1) := by decide +kernel
theorem dX11_lying_42 : decode cX11_lying 42 = .ok (.iconst 1, 1) := by decide +kernel
theorem dX11_lying_43 : decode cX11_lying 43 = .ok (.iload_n 3, 1) := by decide +kernel
theorem dX11_lying_44 : decode cX11_lying 44 = .ok (.ishl, 1) := by decide +kernel
theorem dX11_lying_45 : decode cX11_lying 45 = .ok (.ior, 1) := by decide +kernel
theorem dX11_lying_46 : decode cX11_lying 46 = .ok (.istore_n 2, 1) := by decide +kernel
theorem dX11_lying_47 : decode cX11_lying 47 = .ok (.iinc 3 1, 3) := by decide +kernel
theorem dX11_lying_50 : decode cX11_lying 50 = .ok (.goto (-46), 3) := by decide +kernel
theorem dX11_lying_53 : decode cX11_lying 53 = .ok (.iload_n 2, 1) := by decide +kernel
theorem dX11_lying_54 : decode cX11_lying 54 = .ok (.ireturn, 1) := by decide +kernel
theorem dX11_lies_0 : decode cX11_lies 0 = .ok (.iload_n 1, 1) := by decide +kernel
theorem dX11_lies_1 : decode cX11_lies 1 = .ok (.iconst 0, 1) := by decide +kernel
theorem dX11_lies_2 : decode cX11_lies 2 = .ok (.bipush 47, 2) := by decide +kernel
theorem dX11_lies_4 : decode cX11_lies 4 = .ok (.invokestatic 127, 3) := by decide +kernel
theorem dX11_lies_7 : decode cX11_lies 7 = .ok (.ifCond .ne 6, 3) := by decide +kernel
theorem dX11_lies_10 : decode cX11_lies 10 = .ok (.bipush (-2), 2) := by decide +kernel
theorem dX11_lies_12 : decode cX11_lies 12 = .ok (.ireturn, 1) := by decide +kernel
theorem dX11_lies_13 : decode cX11_lies 13 = .ok (.aload_n 0, 1) := by decide +kernel
theorem dX11_lies_14 : decode cX11_lies 14 = .ok (.invokevirtual 264, 3) := by decide +kernel
theorem dX11_lies_17 : decode cX11_lies 17 = .ok (.aload_n 0, 1) := by decide +kernel
theorem dX11_lies_18 : decode cX11_lies 18 = .ok (.iload_n 1, 1) := by decide +kernel
theorem dX11_lies_19 : decode cX11_lies 19 = .ok (.invokevirtual 267, 3) := by decide +kernel
theorem dX11_lies_22 : decode cX11_lies 22 = .ok (.ireturn, 1) := by decide +kernel
theorem dX11_top_0 : decode cX11_top 0 = .ok (.iload_n 1, 1) := by decide +kernel
theorem dX11_top_1 : decode cX11_top 1 = .ok (.iconst 0, 1) := by decide +kernel
theorem dX11_top_2 : decode cX11_top 2 = .ok (.bipush 47, 2) := by decide +kernel
theorem dX11_top_4 : decode cX11_top 4 = .ok (.invokestatic 127, 3) := by decide +kernel
theorem dX11_top_7 : decode cX11_top 7 = .ok (.ifCond .ne 6, 3) := by decide +kernel
theorem dX11_top_10 : decode cX11_top 10 = .ok (.bipush (-2), 2) := by decide +kernel
theorem dX11_top_12 : decode cX11_top 12 = .ok (.ireturn, 1) := by decide +kernel
theorem dX11_top_13 : decode cX11_top 13 = .ok (.aload_n 0, 1) := by decide +kernel
theorem dX11_top_14 : decode cX11_top 14 = .ok (.invokevirtual 264, 3) := by decide +kernel
theorem dX11_top_17 : decode cX11_top 17 = .ok (.aload_n 0, 1) := by decide +kernel
theorem dX11_top_18 : decode cX11_top 18 = .ok (.iload_n 1, 1) := by decide +kernel
theorem dX11_top_19 : decode cX11_top 19 = .ok (.invokevirtual 267, 3) := by decide +kernel
theorem dX11_top_22 : decode cX11_top 22 = .ok (.istore_n 2, 1) := by decide +kernel
theorem dX11_top_23 : decode cX11_top 23 = .ok (.iconst (-1), 1) := by decide +kernel
theorem dX11_top_24 : decode cX11_top 24 = .ok (.istore_n 3, 1) := by decide +kernel
theorem dX11_top_25 : decode cX11_top 25 = .ok (.iconst 0, 1) := by decide +kernel
theorem dX11_top_26 : decode cX11_top 26 = .ok (.istore 4, 2) := by decide +kernel
theorem dX11_top_28 : decode cX11_top 28 = .ok (.iload 4, 2) := by decide +kernel
theorem dX11_top_30 : decode cX11_top 30 = .ok (.aload_n 0, 1) := by decide +kernel
theorem dX11_top_31 : decode cX11_top 31 = .ok (.getfield 131, 3) := by decide +kernel
theorem dX11_top_34 : decode cX11_top 34 = .ok (.if_icmp .ge 32, 3) := by decide +kernel
theorem dX11_top_37 : decode cX11_top 37 = .ok (.iload_n 2, 1) := by decide +kernel
theorem dX11_top_38 : decode cX11_top 38 = .ok (.iload 4, 2) := by decide +kernel
theorem dX11_top_40 : decode cX11_top 40 = .ok (.ishr, 1) := by decide +kernel
theorem dX11_top_41 : decode cX11_top 41 = .ok (.iconst 1, 1) := by decide +kernel
theorem dX11_top_42 : decode cX11_top 42 = .ok (.iand, 1) := by decide +kernel
theorem dX11_top_43 : decode cX11_top 43 = .ok (.iconst 1, 1) := by decide +kernel
theorem dX11_top_44 : decode cX11_top 44 = .ok (.if_icmp .ne 16, 3) := by decide +kernel
theorem dX11_top_47 : decode cX11_top 47 = .ok (.aload_n 0, 1) := by decide +kernel
theorem dX11_top_48 : decode cX11_top 48 = .ok (.iload 4, 2) := by decide +kernel
theorem dX11_top_50 : decode cX11_top 50 = .ok (.iload_n 3, 1) := by decide +kernel
theorem dX11_top_51 : decode cX11_top 51 = .ok (.invokevirtual 257, 3) := by decide +kernel
theorem dX11_top_54 : decode cX11_top 54 = .ok (.ifCond .eq 6, 3) := by decide +kernel
theorem dX11_top_57 : decode cX11_top 57 = .ok (.iload 4, 2) := by decide +kernel
theorem dX11_top_59 : decode cX11_top 59 = .ok (.istore_n 3, 1) := by decide +kernel
theorem dX11_top_60 : decode cX11_top 60 = .ok (.iinc 4 1, 3) := by decide +kernel
theorem dX11_top_63 : decode cX11_top 63 = .ok (.goto (-35), 3) := by decide +kernel
theorem dX11_top_66 : decode cX11_top 66 = .ok (.iload_n 3, 1) := by decide +kernel
theorem dX11_top_67 : decode cX11_top 67 = .ok (.ireturn, 1) := by decide +kernel
theorem dX11_read_0 : decode cX11_read 0 = .ok (.aload_n 0, 1) := by decide +kernel
theorem dX11_read_1 : decode cX11_read 1 = .ok (.iload_n 1, 1) := by decide +kernel
theorem dX11_read_2 : decode cX11_read 2 = .ok (.invokevirtual 138, 3) := by decide +kernel
theorem dX11_read_5 : decode cX11_read 5 = .ok (.ifCond .eq 11, 3) := by decide +kernel
theorem dX11_read_8 : decode cX11_read 8 = .ok (.aload_n 0, 1) := by decide +kernel
theorem dX11_read_9 : decode cX11_read 9 = .ok (.iload_n 2, 1) := by decide +kernel
theorem dX11_read_10 : decode cX11_read 10 = .ok (.invokevirtual 134, 3) := by decide +kernel
theorem dX11_read_13 : decode cX11_read 13 = .ok (.ifCond .ne 6, 3) := by decide +kernel
theorem dX11_read_16 : decode cX11_read 16 = .ok (.bipush (-2), 2) := by decide +kernel
theorem dX11_read_18 : decode cX11_read 18 = .ok (.ireturn, 1) := by decide +kernel
theorem dX11_read_19 : decode cX11_read 19 = .ok (.aload_n 0, 1) := by decide +kernel
theorem dX11_read_20 : decode cX11_read 20 = .ok (.invokevirtual 264, 3) := by decide +kernel
theorem dX11_read_23 : decode cX11_read 23 = .ok (.aload_n 0, 1) := by decide +kernel
theorem dX11_read_24 : decode cX11_read 24 = .ok (.getfield 52, 3) := by decide +kernel
theorem dX11_read_27 : decode cX11_read 27 = .ok (.bipush 10, 2) := by decide +kernel
theorem dX11_read_29 : decode cX11_read 29 = .ok (.iload_n 1, 1) := by decide +kernel
theorem dX11_read_30 : decode cX11_read 30 = .ok (.imul, 1) := by decide +kernel
theorem dX11_read_31 : decode cX11_read 31 = .ok (.iload_n 2, 1) := by decide +kernel
theorem dX11_read_32 : decode cX11_read 32 = .ok (.iadd, 1) := by decide +kernel
theorem dX11_read_33 : decode cX11_read 33 = .ok (.iaload, 1) := by decide +kernel
theorem dX11_read_34 : decode cX11_read 34 = .ok (.ireturn, 1) := by decide +kernel
theorem dX11_knew_0 : decode cX11_knew 0 = .ok (.aload_n 0, 1) := by decide +kernel
theorem dX11_knew_1 : decode cX11_knew 1 = .ok (.iload_n 1, 1) := by decide +kernel
theorem dX11_knew_2 : decode cX11_knew 2 = .ok (.invokevirtual 138, 3) := by decide +kernel
theorem dX11_knew_5 : decode cX11_knew 5 = .ok (.ifCond .eq 13, 3) := by decide +kernel
theorem dX11_knew_8 : decode cX11_knew 8 = .ok (.iload_n 2, 1) := by decide +kernel
theorem dX11_knew_9 : decode cX11_knew 9 = .ok (.iconst 0, 1) := by decide +kernel
theorem dX11_knew_10 : decode cX11_knew 10 = .ok (.bipush 47, 2) := by decide +kernel
theorem dX11_knew_12 : decode cX11_knew 12 = .ok (.invokestatic 127, 3) := by decide +kernel
theorem dX11_knew_15 : decode cX11_knew 15 = .ok (.ifCond .ne 6, 3) := by decide +kernel
theorem dX11_knew_18 : decode cX11_knew 18 = .ok (.bipush (-2), 2) := by decide +kernel
theorem dX11_knew_20 : decode cX11_knew 20 = .ok (.ireturn, 1) := by decide +kernel
theorem dX11_knew_21 : decode cX11_knew 21 = .ok (.aload_n 0, 1) := by decide +kernel
theorem dX11_knew_22 : decode cX11_knew 22 = .ok (.invokevirtual 264, 3) := by decide +kernel
theorem dX11_knew_25 : decode cX11_knew 25 = .ok (.iconst 0, 1) := by decide +kernel
theorem dX11_knew_26 : decode cX11_knew 26 = .ok (.istore_n 3, 1) := by decide +kernel
theorem dX11_knew_27 : decode cX11_knew 27 = .ok (.iconst 0, 1) := by decide +kernel
theorem dX11_knew_28 : decode cX11_knew 28 = .ok (.istore 4, 2) := by decide +kernel
theorem dX11_knew_30 : decode cX11_knew 30 = .ok (.iload 4, 2) := by decide +kernel
theorem dX11_knew_32 : decode cX11_knew 32 = .ok (.aload_n 0, 1) := by decide +kernel
theorem dX11_knew_33 : decode cX11_knew 33 = .ok (.getfield 131, 3) := by decide +kernel
theorem dX11_knew_36 : decode cX11_knew 36 = .ok (.if_icmp .ge 48, 3) := by decide +kernel
theorem dX11_knew_39 : decode cX11_knew 39 = .ok (.aload_n 0, 1) := by decide +kernel
theorem dX11_knew_40 : decode cX11_knew 40 = .ok (.getfield 52, 3) := by decide +kernel
theorem dX11_knew_43 : decode cX11_knew 43 = .ok (.bipush 10, 2) := by decide +kernel
theorem dX11_knew_45 : decode cX11_knew 45 = .ok (.iload_n 1, 1) := by decide +kernel
theorem dX11_knew_46 : decode cX11_knew 46 = .ok (.imul, 1) := by decide +kernel
theorem dX11_knew_47 : decode cX11_knew 47 = .ok (.iload 4, 2) := by decide +kernel
theorem dX11_knew_49 : decode cX11_knew 49 = .ok (.iadd, 1) := by decide +kernel
theorem dX11_knew_50 : decode cX11_knew 50 = .ok (.iaload, 1) := by decide +kernel
theorem dX11_knew_51 : decode cX11_knew 51 = .ok (.iconst (-1), 1) := by decide +kernel
theorem dX11_knew_52 : decode cX11_knew 52 = .ok (.if_icmp .eq 26, 3) := by decide +kernel
theorem dX11_knew_55 : decode cX11_knew 55 = .ok (.aload_n 0, 1) := by decide +kernel
theorem dX11_knew_56 : decode cX11_knew 56 = .ok (.getfield 52, 3) := by decide +kernel
theorem dX11_knew_59 : decode cX11_knew 59 = .ok (.bipush 10, 2) := by decide +kernel
theorem dX11_knew_61 : decode cX11_knew 61 = .ok (.iload_n 1, 1) := by decide +kernel
theorem dX11_knew_62 : decode cX11_knew 62 = .ok (.imul, 1) := by decide +kernel
theorem dX11_knew_63 : decode cX11_knew 63 = .ok (.iload 4, 2) := by decide +kernel
theorem dX11_knew_65 : decode cX11_knew 65 = .ok (.iadd, 1) := by decide +kernel
theorem dX11_knew_66 : decode cX11_knew 66 = .ok (.iaload, 1) := by decide +kernel
theorem dX11_knew_67 : decode cX11_knew 67 = .ok (.iload_n 2, 1) := by decide +kernel
theorem dX11_knew_68 : decode cX11_knew 68 = .ok (.if_icmp .gt 10, 3) := by decide +kernel
theorem dX11_knew_71 : decode cX11_knew 71 = .ok (.iload_n 3, 1) := by decide +kernel
theorem dX11_knew_72 : decode cX11_knew 72 = .ok (.iconst 1, 1) := by decide +kernel
theorem dX11_knew_73 : decode cX11_knew 73 = .ok (.iload 4, 2) := by decide +kernel
theorem dX11_knew_75 : decode cX11_knew 75 = .ok (.ishl, 1) := by decide +kernel
theorem dX11_knew_76 : decode cX11_knew 76 = .ok (.ior, 1) := by decide +kernel
theorem dX11_knew_77 : decode cX11_knew 77 = .ok (.istore_n 3, 1) := by decide +kernel
theorem dX11_knew_78 : decode cX11_knew 78 = .ok (.iinc 4 1, 3) := by decide +kernel
theorem dX11_knew_81 : decode cX11_knew 81 = .ok (.goto (-51), 3) := by decide +kernel
theorem dX11_knew_84 : decode cX11_knew 84 = .ok (.iload_n 3, 1) := by decide +kernel
theorem dX11_knew_85 : decode cX11_knew 85 = .ok (.ireturn, 1) := by decide +kernel
theorem dX11_done_0 : decode cX11_done 0 = .ok (.iload_n 1, 1) := by decide +kernel
theorem dX11_done_1 : decode cX11_done 1 = .ok (.iconst 0, 1) := by decide +kernel
theorem dX11_done_2 : decode cX11_done 2 = .ok (.iconst 3, 1) := by decide +kernel
theorem dX11_done_3 : decode cX11_done 3 = .ok (.invokestatic 127, 3) := by decide +kernel
theorem dX11_done_6 : decode cX11_done 6 = .ok (.ifCond .eq 16, 3) := by decide +kernel
theorem dX11_done_9 : decode cX11_done 9 = .ok (.iload_n 2, 1) := by decide +kernel
theorem dX11_done_10 : decode cX11_done 10 = .ok (.iconst (-1), 1) := by decide +kernel
theorem dX11_done_11 : decode cX11_done 11 = .ok (.if_icmp .eq 14, 3) := by decide +kernel
theorem dX11_done_14 : decode cX11_done 14 = .ok (.aload_n 0, 1) := by decide +kernel
theorem dX11_done_15 : decode cX11_done 15 = .ok (.iload_n 2, 1) := by decide +kernel
theorem dX11_done_16 : decode cX11_done 16 = .ok (.invokevirtual 138, 3) := by decide +kernel
theorem dX11_done_19 : decode cX11_done 19 = .ok (.ifCond .ne 6, 3) := by decide +kernel
theorem dX11_done_22 : decode cX11_done 22 = .ok (.bipush (-2), 2) := by decide +kernel
theorem dX11_done_24 : decode cX11_done 24 = .ok (.ireturn, 1) := by decide +kernel
theorem dX11_done_25 : decode cX11_done 25 = .ok (.aload_n 0, 1) := by decide +kernel
theorem dX11_done_26 : decode cX11_done 26 = .ok (.invokevirtual 264, 3) := by decide +kernel
theorem dX11_done_29 : decode cX11_done 29 = .ok (.iload_n 2, 1) := by decide +kernel
theorem dX11_done_30 : decode cX11_done 30 = .ok (.iconst (-1), 1) := by decide +kernel
theorem dX11_done_31 : decode cX11_done 31 = .ok (.if_icmp .ne 12, 3) := by decide +kernel
theorem dX11_done_34 : decode cX11_done 34 = .ok (.aload_n 0, 1) := by decide +kernel
theorem dX11_done_35 : decode cX11_done 35 = .ok (.getfield 58, 3) := by decide +kernel
theorem dX11_done_38 : decode cX11_done 38 = .ok (.iload_n 1, 1) := by decide +kernel
theorem dX11_done_39 : decode cX11_done 39 = .ok (.iaload, 1) := by decide +kernel
theorem dX11_done_40 : decode cX11_done 40 = .ok (.goto 13, 3) := by decide +kernel
theorem dX11_done_43 : decode cX11_done 43 = .ok (.aload_n 0, 1) := by decide +kernel
theorem dX11_done_44 : decode cX11_done 44 = .ok (.getfield 55, 3) := by decide +kernel
theorem dX11_done_47 : decode cX11_done 47 = .ok (.iconst 4, 1) := by decide +kernel
theorem dX11_done_48 : decode cX11_done 48 = .ok (.iload_n 2, 1) := by decide +kernel
theorem dX11_done_49 : decode cX11_done 49 = .ok (.imul, 1) := by decide +kernel
theorem dX11_done_50 : decode cX11_done 50 = .ok (.iload_n 1, 1) := by decide +kernel
theorem dX11_done_51 : decode cX11_done 51 = .ok (.iadd, 1) := by decide +kernel
theorem dX11_done_52 : decode cX11_done 52 = .ok (.iaload, 1) := by decide +kernel
theorem dX11_done_53 : decode cX11_done 53 = .ok (.ireturn, 1) := by decide +kernel
theorem dX11_when_0 : decode cX11_when 0 = .ok (.iload_n 1, 1) := by decide +kernel
theorem dX11_when_1 : decode cX11_when 1 = .ok (.iconst 0, 1) := by decide +kernel
theorem dX11_when_2 : decode cX11_when 2 = .ok (.iconst 3, 1) := by decide +kernel
theorem dX11_when_3 : decode cX11_when 3 = .ok (.invokestatic 127, 3) := by decide +kernel
theorem dX11_when_6 : decode cX11_when 6 = .ok (.ifCond .eq 12, 3) := by decide +kernel
theorem dX11_when_9 : decode cX11_when 9 = .ok (.iload_n 2, 1) := by decide +kernel
theorem dX11_when_10 : decode cX11_when 10 = .ok (.iconst 0, 1) := by decide +kernel
theorem dX11_when_11 : decode cX11_when 11 = .ok (.iconst 1, 1) := by decide +kernel
theorem dX11_when_12 : decode cX11_when 12 = .ok (.invokestatic 127, 3) := by decide +kernel
theorem dX11_when_15 : decode cX11_when 15 = .ok (.ifCond .ne 6, 3) := by decide +kernel
theorem dX11_when_18 : decode cX11_when 18 = .ok (.bipush (-2), 2) := by decide +kernel
theorem dX11_when_20 : decode cX11_when 20 = .ok (.ireturn, 1) := by decide +kernel
theorem dX11_when_21 : decode cX11_when 21 = .ok (.aload_n 0, 1) := by decide +kernel
theorem dX11_when_22 : decode cX11_when 22 = .ok (.invokevirtual 264, 3) := by decide +kernel
theorem dX11_when_25 : decode cX11_when 25 = .ok (.iload_n 2, 1) := by decide +kernel
theorem dX11_when_26 : decode cX11_when 26 = .ok (.ifCond .ne 12, 3) := by decide +kernel
theorem dX11_when_29 : decode cX11_when 29 = .ok (.aload_n 0, 1) := by decide +kernel
theorem dX11_when_30 : decode cX11_when 30 = .ok (.getfield 61, 3) := by decide +kernel
theorem dX11_when_33 : decode cX11_when 33 = .ok (.iload_n 1, 1) := by decide +kernel
theorem dX11_when_34 : decode cX11_when 34 = .ok (.iaload, 1) := by decide +kernel
theorem dX11_when_35 : decode cX11_when 35 = .ok (.goto 9, 3) := by decide +kernel
theorem dX11_when_38 : decode cX11_when 38 = .ok (.aload_n 0, 1) := by decide +kernel
theorem dX11_when_39 : decode cX11_when 39 = .ok (.getfield 64, 3) := by decide +kernel
theorem dX11_when_42 : decode cX11_when 42 = .ok (.iload_n 1, 1) := by decide +kernel
theorem dX11_when_43 : decode cX11_when 43 = .ok (.iaload, 1) := by decide +kernel
theorem dX11_when_44 : decode cX11_when 44 = .ok (.ireturn, 1) := by decide +kernel
theorem dX11_isAsked_0 : decode cX11_isAsked 0 = .ok (.iconst 0, 1) := by decide +kernel
theorem dX11_isAsked_1 : decode cX11_isAsked 1 = .ok (.istore_n 2, 1) := by decide +kernel
theorem dX11_isAsked_2 : decode cX11_isAsked 2 = .ok (.iload_n 2, 1) := by decide +kernel
theorem dX11_isAsked_3 : decode cX11_isAsked 3 = .ok (.aload_n 0, 1) := by decide +kernel
theorem dX11_isAsked_4 : decode cX11_isAsked 4 = .ok (.getfield 131, 3) := by decide +kernel
theorem dX11_isAsked_7 : decode cX11_isAsked 7 = .ok (.if_icmp .ge 29, 3) := by decide +kernel
theorem dX11_isAsked_10 : decode cX11_isAsked 10 = .ok (.aload_n 0, 1) := by decide +kernel
theorem dX11_isAsked_11 : decode cX11_isAsked 11 = .ok (.getfield 28, 3) := by decide +kernel
theorem dX11_isAsked_14 : decode cX11_isAsked 14 = .ok (.iload_n 2, 1) := by decide +kernel
theorem dX11_isAsked_15 : decode cX11_isAsked 15 = .ok (.iaload, 1) := by decide +kernel
theorem dX11_isAsked_16 : decode cX11_isAsked 16 = .ok (.iload_n 1, 1) := by decide +kernel
theorem dX11_isAsked_17 : decode cX11_isAsked 17 = .ok (.if_icmp .ne 13, 3) := by decide +kernel
theorem dX11_isAsked_20 : decode cX11_isAsked 20 = .ok (.aload_n 0, 1) := by decide +kernel
theorem dX11_isAsked_21 : decode cX11_isAsked 21 = .ok (.iload_n 2, 1) := by decide +kernel
theorem dX11_isAsked_22 : decode cX11_isAsked 22 = .ok (.invokevirtual 147, 3) := by decide +kernel
theorem dX11_isAsked_25 : decode cX11_isAsked 25 = .ok (.ifCond .le 5, 3) := by decide +kernel
theorem dX11_isAsked_28 : decode cX11_isAsked 28 = .ok (.iconst 1, 1) := by decide +kernel
theorem dX11_isAsked_29 : decode cX11_isAsked 29 = .ok (.ireturn, 1) := by decide +kernel
theorem dX11_isAsked_30 : decode cX11_isAsked 30 = .ok (.iinc 2 1, 3) := by decide +kernel
theorem dX11_isAsked_33 : decode cX11_isAsked 33 = .ok (.goto (-31), 3) := by decide +kernel
theorem dX11_isAsked_36 : decode cX11_isAsked 36 = .ok (.iconst 0, 1) := by decide +kernel
theorem dX11_isAsked_37 : decode cX11_isAsked 37 = .ok (.ireturn, 1) := by decide +kernel
theorem dX11_things_0 : decode cX11_things 0 = .ok (.iload_n 1, 1) := by decide +kernel
theorem dX11_things_1 : decode cX11_things 1 = .ok (.iconst 0, 1) := by decide +kernel
theorem dX11_things_2 : decode cX11_things 2 = .ok (.iconst 1, 1) := by decide +kernel
theorem dX11_things_3 : decode cX11_things 3 = .ok (.invokestatic 127, 3) := by decide +kernel
theorem dX11_things_6 : decode cX11_things 6 = .ok (.ifCond .ne 6, 3) := by decide +kernel
theorem dX11_things_9 : decode cX11_things 9 = .ok (.bipush (-2), 2) := by decide +kernel
theorem dX11_things_11 : decode cX11_things 11 = .ok (.ireturn, 1) := by decide +kernel
theorem dX11_things_12 : decode cX11_things 12 = .ok (.aload_n 0, 1) := by decide +kernel
theorem dX11_things_13 : decode cX11_things 13 = .ok (.invokevirtual 264, 3) := by decide +kernel
theorem dX11_things_16 : decode cX11_things 16 = .ok (.iconst 0, 1) := by decide +kernel
theorem dX11_things_17 : decode cX11_things 17 = .ok (.istore_n 2, 1) := by decide +kernel
theorem dX11_things_18 : decode cX11_things 18 = .ok (.iconst 0, 1) := by decide +kernel
theorem dX11_things_19 : decode cX11_things 19 = .ok (.istore_n 3, 1) := by decide +kernel
theorem dX11_things_20 : decode cX11_things 20 = .ok (.iload_n 3, 1) := by decide +kernel
theorem dX11_things_21 : decode cX11_things 21 = .ok (.iconst 4, 1) := by decide +kernel
theorem dX11_things_22 : decode cX11_things 22 = .ok (.if_icmp .ge 49, 3) := by decide +kernel
theorem dX11_things_25 : decode cX11_things 25 = .ok (.iload_n 1, 1) := by decide +kernel
theorem dX11_things_26 : decode cX11_things 26 = .ok (.ifCond .ne 23, 3) := by decide +kernel
theorem dX11_things_29 : decode cX11_things 29 = .ok (.aload_n 0, 1) := by decide +kernel
theorem dX11_things_30 : decode cX11_things 30 = .ok (.iload_n 3, 1) := by decide +kernel
theorem dX11_things_31 : decode cX11_things 31 = .ok (.invokevirtual 270, 3) := by decide +kernel
theorem dX11_things_34 : decode cX11_things 34 = .ok (.ifCond .eq 31, 3) := by decide +kernel
theorem dX11_things_37 : decode cX11_things 37 = .ok (.aload_n 0, 1) := by decide +kernel
theorem dX11_things_38 : decode cX11_things 38 = .ok (.getfield 58, 3) := by decide +kernel
theorem dX11_things_41 : decode cX11_things 41 = .ok (.iload_n 3, 1) := by decide +kernel
theorem dX11_things_42 : decode cX11_things 42 = .ok (.iaload, 1) := by decide +kernel
theorem dX11_things_43 : decode cX11_things 43 = .ok (.ifCond .ne 22, 3) := by decide +kernel
theorem dX11_things_46 : decode cX11_things 46 = .ok (.goto 13, 3) := by decide +kernel
theorem dX11_things_49 : decode cX11_things 49 = .ok (.aload_n 0, 1) := by decide +kernel
theorem dX11_things_50 : decode cX11_things 50 = .ok (.getfield 58, 3) := by decide +kernel
theorem dX11_things_53 : decode cX11_things 53 = .ok (.iload_n 3, 1) := by decide +kernel
theorem dX11_things_54 : decode cX11_things 54 = .ok (.iaload, 1) := by decide +kernel
theorem dX11_things_55 : decode cX11_things 55 = .ok (.iconst 1, 1) := by decide +kernel
theorem dX11_things_56 : decode cX11_things 56 = .ok (.if_icmp .le 9, 3) := by decide +kernel
theorem dX11_things_59 : decode cX11_things 59 = .ok (.iload_n 2, 1) := by decide +kernel
theorem dX11_things_60 : decode cX11_things 60 = .ok (.iconst 1, 1) := by decide +kernel
theorem dX11_things_61 : decode cX11_things 61 = .ok (.iload_n 3, 1) := by decide +kernel
theorem dX11_things_62 : decode cX11_things 62 = .ok (.ishl, 1) := by decide +kernel
theorem dX11_things_63 : decode cX11_things 63 = .ok (.ior, 1) := by decide +kernel
theorem dX11_things_64 : decode cX11_things 64 = .ok (.istore_n 2, 1) := by decide +kernel
theorem dX11_things_65 : decode cX11_things 65 = .ok (.iinc 3 1, 3) := by decide +kernel
theorem dX11_things_68 : decode cX11_things 68 = .ok (.goto (-48), 3) := by decide +kernel
theorem dX11_things_71 : decode cX11_things 71 = .ok (.iload_n 2, 1) := by decide +kernel
theorem dX11_things_72 : decode cX11_things 72 = .ok (.ireturn, 1) := by decide +kernel
theorem dX11_care_0 : decode cX11_care 0 = .ok (.iconst 0, 1) := by decide +kernel
theorem dX11_care_1 : decode cX11_care 1 = .ok (.istore_n 2, 1) := by decide +kernel
theorem dX11_care_2 : decode cX11_care 2 = .ok (.iconst 0, 1) := by decide +kernel
theorem dX11_care_3 : decode cX11_care 3 = .ok (.istore_n 3, 1) := by decide +kernel
theorem dX11_care_4 : decode cX11_care 4 = .ok (.iconst 0, 1) := by decide +kernel
theorem dX11_care_5 : decode cX11_care 5 = .ok (.istore 4, 2) := by decide +kernel
theorem dX11_care_7 : decode cX11_care 7 = .ok (.iload 4, 2) := by decide +kernel
theorem dX11_care_9 : decode cX11_care 9 = .ok (.aload_n 0, 1) := by decide +kernel
theorem dX11_care_10 : decode cX11_care 10 = .ok (.getfield 131, 3) := by decide +kernel
theorem dX11_care_13 : decode cX11_care 13 = .ok (.if_icmp .ge 41, 3) := by decide +kernel
theorem dX11_care_16 : decode cX11_care 16 = .ok (.aload_n 0, 1) := by decide +kernel
theorem dX11_care_17 : decode cX11_care 17 = .ok (.getfield 28, 3) := by decide +kernel
theorem dX11_care_20 : decode cX11_care 20 = .ok (.iload 4, 2) := by decide +kernel
theorem dX11_care_22 : decode cX11_care 22 = .ok (.iaload, 1) := by decide +kernel
theorem dX11_care_23 : decode cX11_care 23 = .ok (.iload_n 1, 1) := by decide +kernel
theorem dX11_care_24 : decode cX11_care 24 = .ok (.if_icmp .eq 6, 3) := by decide +kernel
theorem dX11_care_27 : decode cX11_care 27 = .ok (.goto 21, 3) := by decide +kernel
theorem dX11_care_30 : decode cX11_care 30 = .ok (.iload_n 2, 1) := by decide +kernel
theorem dX11_care_31 : decode cX11_care 31 = .ok (.aload_n 0, 1) := by decide +kernel
theorem dX11_care_32 : decode cX11_care 32 = .ok (.iload 4, 2) := by decide +kernel
theorem dX11_care_34 : decode cX11_care 34 = .ok (.invokevirtual 147, 3) := by decide +kernel
theorem dX11_care_37 : decode cX11_care 37 = .ok (.iadd, 1) := by decide +kernel
theorem dX11_care_38 : decode cX11_care 38 = .ok (.istore_n 2, 1) := by decide +kernel
theorem dX11_care_39 : decode cX11_care 39 = .ok (.iload_n 3, 1) := by decide +kernel
theorem dX11_care_40 : decode cX11_care 40 = .ok (.aload_n 0, 1) := by decide +kernel
theorem dX11_care_41 : decode cX11_care 41 = .ok (.iload 4, 2) := by decide +kernel
theorem dX11_care_43 : decode cX11_care 43 = .ok (.invokevirtual 150, 3) := by decide +kernel
theorem dX11_care_46 : decode cX11_care 46 = .ok (.iadd, 1) := by decide +kernel
theorem dX11_care_47 : decode cX11_care 47 = .ok (.istore_n 3, 1) := by decide +kernel
theorem dX11_care_48 : decode cX11_care 48 = .ok (.iinc 4 1, 3) := by decide +kernel
theorem dX11_care_51 : decode cX11_care 51 = .ok (.goto (-44), 3) := by decide +kernel
theorem dX11_care_54 : decode cX11_care 54 = .ok (.aload_n 0, 1) := by decide +kernel
theorem dX11_care_55 : decode cX11_care 55 = .ok (.iconst 2, 1) := by decide +kernel
theorem dX11_care_56 : decode cX11_care 56 = .ok (.iload_n 2, 1) := by decide +kernel
theorem dX11_care_57 : decode cX11_care 57 = .ok (.iload_n 3, 1) := by decide +kernel
theorem dX11_care_58 : decode cX11_care 58 = .ok (.bipush 48, 2) := by decide +kernel
theorem dX11_care_60 : decode cX11_care 60 = .ok (.iconst 0, 1) := by decide +kernel
theorem dX11_care_61 : decode cX11_care 61 = .ok (.iconst 0, 1) := by decide +kernel
theorem dX11_care_62 : decode cX11_care 62 = .ok (.iload_n 1, 1) := by decide +kernel
theorem dX11_care_63 : decode cX11_care 63 = .ok (.invokevirtual 260, 3) := by decide +kernel
theorem dX11_care_66 : decode cX11_care 66 = .ok (.istore 4, 2) := by decide +kernel
theorem dX11_care_68 : decode cX11_care 68 = .ok (.iload 4, 2) := by decide +kernel
theorem dX11_care_70 : decode cX11_care 70 = .ok (.ifCond .ge 7, 3) := by decide +kernel
theorem dX11_care_73 : decode cX11_care 73 = .ok (.iconst 0, 1) := by decide +kernel
theorem dX11_care_74 : decode cX11_care 74 = .ok (.goto 17, 3) := by decide +kernel
theorem dX11_care_77 : decode cX11_care 77 = .ok (.iload 4, 2) := by decide +kernel
theorem dX11_care_79 : decode cX11_care 79 = .ok (.bipush 99, 2) := by decide +kernel
theorem dX11_care_81 : decode cX11_care 81 = .ok (.if_icmp .le 8, 3) := by decide +kernel
theorem dX11_care_84 : decode cX11_care 84 = .ok (.bipush 99, 2) := by decide +kernel
theorem dX11_care_86 : decode cX11_care 86 = .ok (.goto 5, 3) := by decide +kernel
theorem dX11_care_89 : decode cX11_care 89 = .ok (.iload 4, 2) := by decide +kernel
theorem dX11_care_91 : decode cX11_care 91 = .ok (.ireturn, 1) := by decide +kernel
theorem dX11_harm_0 : decode cX11_harm 0 = .ok (.aload_n 0, 1) := by decide +kernel
theorem dX11_harm_1 : decode cX11_harm 1 = .ok (.invokevirtual 264, 3) := by decide +kernel
theorem dX11_harm_4 : decode cX11_harm 4 = .ok (.iconst 0, 1) := by decide +kernel
theorem dX11_harm_5 : decode cX11_harm 5 = .ok (.istore_n 1, 1) := by decide +kernel
theorem dX11_harm_6 : decode cX11_harm 6 = .ok (.iconst 0, 1) := by decide +kernel
theorem dX11_harm_7 : decode cX11_harm 7 = .ok (.istore_n 2, 1) := by decide +kernel
theorem dX11_harm_8 : decode cX11_harm 8 = .ok (.iload_n 2, 1) := by decide +kernel
theorem dX11_harm_9 : decode cX11_harm 9 = .ok (.iconst 4, 1) := by decide +kernel
theorem dX11_harm_10 : decode cX11_harm 10 = .ok (.if_icmp .ge 55, 3) := by decide +kernel
theorem dX11_harm_13 : decode cX11_harm 13 = .ok (.aload_n 0, 1) := by decide +kernel
theorem dX11_harm_14 : decode cX11_harm 14 = .ok (.getfield 58, 3) := by decide +kernel
theorem dX11_harm_17 : decode cX11_harm 17 = .ok (.iload_n 2, 1) := by decide +kernel
theorem dX11_harm_18 : decode cX11_harm 18 = .ok (.iaload, 1) := by decide +kernel
theorem dX11_harm_19 : decode cX11_harm 19 = .ok (.iconst 1, 1) := by decide +kernel
theorem dX11_harm_20 : decode cX11_harm 20 = .ok (.if_icmp .le 14, 3) := by decide +kernel
theorem dX11_harm_23 : decode cX11_harm 23 = .ok (.iload_n 1, 1) := by decide +kernel
theorem dX11_harm_24 : decode cX11_harm 24 = .ok (.aload_n 0, 1) := by decide +kernel
theorem dX11_harm_25 : decode cX11_harm 25 = .ok (.getfield 58, 3) := by decide +kernel
theorem dX11_harm_28 : decode cX11_harm 28 = .ok (.iload_n 2, 1) := by decide +kernel
theorem dX11_harm_29 : decode cX11_harm 29 = .ok (.iaload, 1) := by decide +kernel
theorem dX11_harm_30 : decode cX11_harm 30 = .ok (.iconst 1, 1) := by decide +kernel
theorem dX11_harm_31 : decode cX11_harm 31 = .ok (.isub, 1) := by decide +kernel
theorem dX11_harm_32 : decode cX11_harm 32 = .ok (.iadd, 1) := by decide +kernel
theorem dX11_harm_33 : decode cX11_harm 33 = .ok (.istore_n 1, 1) := by decide +kernel
theorem dX11_harm_34 : decode cX11_harm 34 = .ok (.aload_n 0, 1) := by decide +kernel
theorem dX11_harm_35 : decode cX11_harm 35 = .ok (.getfield 58, 3) := by decide +kernel
theorem dX11_harm_38 : decode cX11_harm 38 = .ok (.iload_n 2, 1) := by decide +kernel
theorem dX11_harm_39 : decode cX11_harm 39 = .ok (.iaload, 1) := by decide +kernel
theorem dX11_harm_40 : decode cX11_harm 40 = .ok (.ifCond .ne 19, 3) := by decide +kernel
theorem dX11_harm_43 : decode cX11_harm 43 = .ok (.aload_n 0, 1) := by decide +kernel
theorem dX11_harm_44 : decode cX11_harm 44 = .ok (.iload_n 2, 1) := by decide +kernel
theorem dX11_harm_45 : decode cX11_harm 45 = .ok (.invokevirtual 270, 3) := by decide +kernel
theorem dX11_harm_48 : decode cX11_harm 48 = .ok (.ifCond .eq 11, 3) := by decide +kernel
theorem dX11_harm_51 : decode cX11_harm 51 = .ok (.iload_n 1, 1) := by decide +kernel
theorem dX11_harm_52 : decode cX11_harm 52 = .ok (.aload_n 0, 1) := by decide +kernel
theorem dX11_harm_53 : decode cX11_harm 53 = .ok (.iload_n 2, 1) := by decide +kernel
theorem dX11_harm_54 : decode cX11_harm 54 = .ok (.invokevirtual 273, 3) := by decide +kernel
theorem dX11_harm_57 : decode cX11_harm 57 = .ok (.iadd, 1) := by decide +kernel
theorem dX11_harm_58 : decode cX11_harm 58 = .ok (.istore_n 1, 1) := by decide +kernel
theorem dX11_harm_59 : decode cX11_harm 59 = .ok (.iinc 2 1, 3) := by decide +kernel
theorem dX11_harm_62 : decode cX11_harm 62 = .ok (.goto (-54), 3) := by decide +kernel
theorem dX11_harm_65 : decode cX11_harm 65 = .ok (.iload_n 1, 1) := by decide +kernel
theorem dX11_harm_66 : decode cX11_harm 66 = .ok (.ireturn, 1) := by decide +kernel
theorem dX11_helps_0 : decode cX11_helps 0 = .ok (.iload_n 1, 1) := by decide +kernel
theorem dX11_helps_1 : decode cX11_helps 1 = .ok (.iconst 0, 1) := by decide +kernel
theorem dX11_helps_2 : decode cX11_helps 2 = .ok (.iconst 1, 1) := by decide +kernel
theorem dX11_helps_3 : decode cX11_helps 3 = .ok (.invokestatic 127, 3) := by decide +kernel
theorem dX11_helps_6 : decode cX11_helps 6 = .ok (.ifCond .ne 6, 3) := by decide +kernel
theorem dX11_helps_9 : decode cX11_helps 9 = .ok (.bipush (-2), 2) := by decide +kernel
theorem dX11_helps_11 : decode cX11_helps 11 = .ok (.ireturn, 1) := by decide +kernel
theorem dX11_helps_12 : decode cX11_helps 12 = .ok (.iconst (-1), 1) := by decide +kernel
theorem dX11_helps_13 : decode cX11_helps 13 = .ok (.istore_n 2, 1) := by decide +kernel
theorem dX11_helps_14 : decode cX11_helps 14 = .ok (.iconst (-1), 1) := by decide +kernel
theorem dX11_helps_15 : decode cX11_helps 15 = .ok (.istore_n 3, 1) := by decide +kernel
theorem dX11_helps_16 : decode cX11_helps 16 = .ok (.iconst 0, 1) := by decide +kernel
theorem dX11_helps_17 : decode cX11_helps 17 = .ok (.istore 4, 2) := by decide +kernel
theorem dX11_helps_19 : decode cX11_helps 19 = .ok (.iload 4, 2) := by decide +kernel
theorem dX11_helps_21 : decode cX11_helps 21 = .ok (.aload_n 0, 1) := by decide +kernel
theorem dX11_helps_22 : decode cX11_helps 22 = .ok (.getfield 123, 3) := by decide +kernel
theorem dX11_helps_25 : decode cX11_helps 25 = .ok (.if_icmp .ge 62, 3) := by decide +kernel
theorem dX11_helps_28 : decode cX11_helps 28 = .ok (.aload_n 0, 1) := by decide +kernel
theorem dX11_helps_29 : decode cX11_helps 29 = .ok (.getfield 16, 3) := by decide +kernel
theorem dX11_helps_32 : decode cX11_helps 32 = .ok (.iload 4, 2) := by decide +kernel
theorem dX11_helps_34 : decode cX11_helps 34 = .ok (.iaload, 1) := by decide +kernel
theorem dX11_helps_35 : decode cX11_helps 35 = .ok (.istore 5, 2) := by decide +kernel
theorem dX11_helps_37 : decode cX11_helps 37 = .ok (.aload_n 0, 1) := by decide +kernel
theorem dX11_helps_38 : decode cX11_helps 38 = .ok (.getfield 16, 3) := by decide +kernel
theorem dX11_helps_41 : decode cX11_helps 41 = .ok (.iload 4, 2) := by decide +kernel
theorem dX11_helps_43 : decode cX11_helps 43 = .ok (.bipush 12, 2) := by decide +kernel
theorem dX11_helps_45 : decode cX11_helps 45 = .ok (.iastore, 1) := by decide +kernel
theorem dX11_helps_46 : decode cX11_helps 46 = .ok (.aload_n 0, 1) := by decide +kernel
theorem dX11_helps_47 : decode cX11_helps 47 = .ok (.invokevirtual 275, 3) := by decide +kernel
theorem dX11_helps_50 : decode cX11_helps 50 = .ok (.istore 6, 2) := by decide +kernel
theorem dX11_helps_52 : decode cX11_helps 52 = .ok (.aload_n 0, 1) := by decide +kernel
theorem dX11_helps_53 : decode cX11_helps 53 = .ok (.getfield 16, 3) := by decide +kernel
theorem dX11_helps_56 : decode cX11_helps 56 = .ok (.iload 4, 2) := by decide +kernel
theorem dX11_helps_58 : decode cX11_helps 58 = .ok (.iload 5, 2) := by decide +kernel
theorem dX11_helps_60 : decode cX11_helps 60 = .ok (.iastore, 1) := by decide +kernel
theorem dX11_helps_61 : decode cX11_helps 61 = .ok (.iload_n 2, 1) := by decide +kernel
theorem dX11_helps_62 : decode cX11_helps 62 = .ok (.iconst (-1), 1) := by decide +kernel
theorem dX11_helps_63 : decode cX11_helps 63 = .ok (.if_icmp .eq 12, 3) := by decide +kernel
theorem dX11_helps_66 : decode cX11_helps 66 = .ok (.iload 6, 2) := by decide +kernel
theorem dX11_helps_68 : decode cX11_helps 68 = .ok (.iload_n 3, 1) := by decide +kernel
theorem dX11_helps_69 : decode cX11_helps 69 = .ok (.if_icmp .lt 6, 3) := by decide +kernel
theorem dX11_helps_72 : decode cX11_helps 72 = .ok (.goto 9, 3) := by decide +kernel
theorem dX11_helps_75 : decode cX11_helps 75 = .ok (.iload 4, 2) := by decide +kernel
theorem dX11_helps_77 : decode cX11_helps 77 = .ok (.istore_n 2, 1) := by decide +kernel
theorem dX11_helps_78 : decode cX11_helps 78 = .ok (.iload 6, 2) := by decide +kernel
theorem dX11_helps_80 : decode cX11_helps 80 = .ok (.istore_n 3, 1) := by decide +kernel
theorem dX11_helps_81 : decode cX11_helps 81 = .ok (.iinc 4 1, 3) := by decide +kernel
theorem dX11_helps_84 : decode cX11_helps 84 = .ok (.goto (-65), 3) := by decide +kernel
theorem dX11_helps_87 : decode cX11_helps 87 = .ok (.iload_n 1, 1) := by decide +kernel
theorem dX11_helps_88 : decode cX11_helps 88 = .ok (.ifCond .ne 7, 3) := by decide +kernel
theorem dX11_helps_91 : decode cX11_helps 91 = .ok (.iload_n 2, 1) := by decide +kernel
theorem dX11_helps_92 : decode cX11_helps 92 = .ok (.goto 4, 3) := by decide +kernel
theorem dX11_helps_95 : decode cX11_helps 95 = .ok (.iload_n 3, 1) := by decide +kernel
theorem dX11_helps_96 : decode cX11_helps 96 = .ok (.ireturn, 1) := by decide +kernel
theorem dX11_once_0 : decode cX11_once 0 = .ok (.aload_n 0, 1) := by decide +kernel
theorem dX11_once_1 : decode cX11_once 1 = .ok (.iload_n 1, 1) := by decide +kernel
theorem dX11_once_2 : decode cX11_once 2 = .ok (.invokevirtual 134, 3) := by decide +kernel
theorem dX11_once_5 : decode cX11_once 5 = .ok (.ifCond .ne 6, 3) := by decide +kernel
theorem dX11_once_8 : decode cX11_once 8 = .ok (.bipush (-2), 2) := by decide +kernel
theorem dX11_once_10 : decode cX11_once 10 = .ok (.ireturn, 1) := by decide +kernel
theorem dX11_once_11 : decode cX11_once 11 = .ok (.aload_n 0, 1) := by decide +kernel
theorem dX11_once_12 : decode cX11_once 12 = .ok (.getfield 25, 3) := by decide +kernel
theorem dX11_once_15 : decode cX11_once 15 = .ok (.iload_n 1, 1) := by decide +kernel
theorem dX11_once_16 : decode cX11_once 16 = .ok (.iaload, 1) := by decide +kernel
theorem dX11_once_17 : decode cX11_once 17 = .ok (.istore_n 2, 1) := by decide +kernel
theorem dX11_once_18 : decode cX11_once 18 = .ok (.iconst (-1), 1) := by decide +kernel
theorem dX11_once_19 : decode cX11_once 19 = .ok (.istore_n 3, 1) := by decide +kernel
theorem dX11_once_20 : decode cX11_once 20 = .ok (.bipush 47, 2) := by decide +kernel
theorem dX11_once_22 : decode cX11_once 22 = .ok (.istore 4, 2) := by decide +kernel
theorem dX11_once_24 : decode cX11_once 24 = .ok (.iload 4, 2) := by decide +kernel
theorem dX11_once_26 : decode cX11_once 26 = .ok (.ifCond .lt 44, 3) := by decide +kernel
theorem dX11_once_29 : decode cX11_once 29 = .ok (.iload_n 3, 1) := by decide +kernel
theorem dX11_once_30 : decode cX11_once 30 = .ok (.iconst (-1), 1) := by decide +kernel
theorem dX11_once_31 : decode cX11_once 31 = .ok (.if_icmp .ne 39, 3) := by decide +kernel
theorem dX11_once_34 : decode cX11_once 34 = .ok (.aload_n 0, 1) := by decide +kernel
theorem dX11_once_35 : decode cX11_once 35 = .ok (.getfield 25, 3) := by decide +kernel
theorem dX11_once_38 : decode cX11_once 38 = .ok (.iload_n 1, 1) := by decide +kernel
theorem dX11_once_39 : decode cX11_once 39 = .ok (.iload 4, 2) := by decide +kernel
theorem dX11_once_41 : decode cX11_once 41 = .ok (.iastore, 1) := by decide +kernel
theorem dX11_once_42 : decode cX11_once 42 = .ok (.aload_n 0, 1) := by decide +kernel
theorem dX11_once_43 : decode cX11_once 43 = .ok (.invokevirtual 264, 3) := by decide +kernel
theorem dX11_once_46 : decode cX11_once 46 = .ok (.aload_n 0, 1) := by decide +kernel
theorem dX11_once_47 : decode cX11_once 47 = .ok (.getfield 58, 3) := by decide +kernel
theorem dX11_once_50 : decode cX11_once 50 = .ok (.aload_n 0, 1) := by decide +kernel
theorem dX11_once_51 : decode cX11_once 51 = .ok (.getfield 28, 3) := by decide +kernel
theorem dX11_once_54 : decode cX11_once 54 = .ok (.iload_n 1, 1) := by decide +kernel
theorem dX11_once_55 : decode cX11_once 55 = .ok (.iaload, 1) := by decide +kernel
theorem dX11_once_56 : decode cX11_once 56 = .ok (.iaload, 1) := by decide +kernel
theorem dX11_once_57 : decode cX11_once 57 = .ok (.iconst 1, 1) := by decide +kernel
theorem dX11_once_58 : decode cX11_once 58 = .ok (.if_icmp .ne 6, 3) := by decide +kernel
theorem dX11_once_61 : decode cX11_once 61 = .ok (.iload 4, 2) := by decide +kernel
theorem dX11_once_63 : decode cX11_once 63 = .ok (.istore_n 3, 1) := by decide +kernel
theorem dX11_once_64 : decode cX11_once 64 = .ok (.iinc 4 (-1), 3) := by decide +kernel
theorem dX11_once_67 : decode cX11_once 67 = .ok (.goto (-43), 3) := by decide +kernel
theorem dX11_once_70 : decode cX11_once 70 = .ok (.aload_n 0, 1) := by decide +kernel
theorem dX11_once_71 : decode cX11_once 71 = .ok (.getfield 25, 3) := by decide +kernel
theorem dX11_once_74 : decode cX11_once 74 = .ok (.iload_n 1, 1) := by decide +kernel
theorem dX11_once_75 : decode cX11_once 75 = .ok (.iload_n 2, 1) := by decide +kernel
theorem dX11_once_76 : decode cX11_once 76 = .ok (.iastore, 1) := by decide +kernel
theorem dX11_once_77 : decode cX11_once 77 = .ok (.iload_n 3, 1) := by decide +kernel
theorem dX11_once_78 : decode cX11_once 78 = .ok (.ireturn, 1) := by decide +kernel
theorem dX11_whose_0 : decode cX11_whose 0 = .ok (.aload_n 0, 1) := by decide +kernel
theorem dX11_whose_1 : decode cX11_whose 1 = .ok (.iload_n 1, 1) := by decide +kernel
theorem dX11_whose_2 : decode cX11_whose 2 = .ok (.invokevirtual 138, 3) := by decide +kernel
theorem dX11_whose_5 : decode cX11_whose 5 = .ok (.ifCond .eq 14, 3) := by decide +kernel
theorem dX11_whose_8 : decode cX11_whose 8 = .ok (.iload_n 2, 1) := by decide +kernel
theorem dX11_whose_9 : decode cX11_whose 9 = .ok (.iconst 0, 1) := by decide +kernel
theorem dX11_whose_10 : decode cX11_whose 10 = .ok (.sipush 9999, 3) := by decide +kernel
theorem dX11_whose_13 : decode cX11_whose 13 = .ok (.invokestatic 127, 3) := by decide +kernel
theorem dX11_whose_16 : decode cX11_whose 16 = .ok (.ifCond .ne 6, 3) := by decide +kernel
theorem dX11_whose_19 : decode cX11_whose 19 = .ok (.bipush (-2), 2) := by decide +kernel
theorem dX11_whose_21 : decode cX11_whose 21 = .ok (.ireturn, 1) := by decide +kernel
theorem dX11_whose_22 : decode cX11_whose 22 = .ok (.aload_n 0, 1) := by decide +kernel
theorem dX11_whose_23 : decode cX11_whose 23 = .ok (.getfield 16, 3) := by decide +kernel
theorem dX11_whose_26 : decode cX11_whose 26 = .ok (.iload_n 1, 1) := by decide +kernel
theorem dX11_whose_27 : decode cX11_whose 27 = .ok (.iaload, 1) := by decide +kernel
theorem dX11_whose_28 : decode cX11_whose 28 = .ok (.istore_n 3, 1) := by decide +kernel
theorem dX11_whose_29 : decode cX11_whose 29 = .ok (.iconst (-1), 1) := by decide +kernel
theorem dX11_whose_30 : decode cX11_whose 30 = .ok (.istore 4, 2) := by decide +kernel
theorem dX11_whose_32 : decode cX11_whose 32 = .ok (.iconst 0, 1) := by decide +kernel
theorem dX11_whose_33 : decode cX11_whose 33 = .ok (.istore 5, 2) := by decide +kernel
theorem dX11_whose_35 : decode cX11_whose 35 = .ok (.iload 5, 2) := by decide +kernel
theorem dX11_whose_37 : decode cX11_whose 37 = .ok (.bipush 12, 2) := by decide +kernel
theorem dX11_whose_39 : decode cX11_whose 39 = .ok (.if_icmp .gt 35, 3) := by decide +kernel
theorem dX11_whose_42 : decode cX11_whose 42 = .ok (.iload 4, 2) := by decide +kernel
theorem dX11_whose_44 : decode cX11_whose 44 = .ok (.iconst (-1), 1) := by decide +kernel
theorem dX11_whose_45 : decode cX11_whose 45 = .ok (.if_icmp .ne 29, 3) := by decide +kernel
theorem dX11_whose_48 : decode cX11_whose 48 = .ok (.aload_n 0, 1) := by decide +kernel
theorem dX11_whose_49 : decode cX11_whose 49 = .ok (.getfield 16, 3) := by decide +kernel
theorem dX11_whose_52 : decode cX11_whose 52 = .ok (.iload_n 1, 1) := by decide +kernel
theorem dX11_whose_53 : decode cX11_whose 53 = .ok (.iload 5, 2) := by decide +kernel
theorem dX11_whose_55 : decode cX11_whose 55 = .ok (.iastore, 1) := by decide +kernel
theorem dX11_whose_56 : decode cX11_whose 56 = .ok (.aload_n 0, 1) := by decide +kernel
theorem dX11_whose_57 : decode cX11_whose 57 = .ok (.invokevirtual 275, 3) := by decide +kernel
theorem dX11_whose_60 : decode cX11_whose 60 = .ok (.iload_n 2, 1) := by decide +kernel
theorem dX11_whose_61 : decode cX11_whose 61 = .ok (.if_icmp .gt 7, 3) := by decide +kernel
theorem dX11_whose_64 : decode cX11_whose 64 = .ok (.iload 5, 2) := by decide +kernel
theorem dX11_whose_66 : decode cX11_whose 66 = .ok (.istore 4, 2) := by decide +kernel
theorem dX11_whose_68 : decode cX11_whose 68 = .ok (.iinc 5 1, 3) := by decide +kernel
theorem dX11_whose_71 : decode cX11_whose 71 = .ok (.goto (-36), 3) := by decide +kernel
theorem dX11_whose_74 : decode cX11_whose 74 = .ok (.aload_n 0, 1) := by decide +kernel
theorem dX11_whose_75 : decode cX11_whose 75 = .ok (.getfield 16, 3) := by decide +kernel
theorem dX11_whose_78 : decode cX11_whose 78 = .ok (.iload_n 1, 1) := by decide +kernel
theorem dX11_whose_79 : decode cX11_whose 79 = .ok (.iload_n 3, 1) := by decide +kernel
theorem dX11_whose_80 : decode cX11_whose 80 = .ok (.iastore, 1) := by decide +kernel
theorem dX11_whose_81 : decode cX11_whose 81 = .ok (.iload 4, 2) := by decide +kernel
theorem dX11_whose_83 : decode cX11_whose 83 = .ok (.ireturn, 1) := by decide +kernel
theorem dX11_mark_0 : decode cX11_mark 0 = .ok (.aload_n 0, 1) := by decide +kernel
theorem dX11_mark_1 : decode cX11_mark 1 = .ok (.iload_n 1, 1) := by decide +kernel
theorem dX11_mark_2 : decode cX11_mark 2 = .ok (.invokevirtual 134, 3) := by decide +kernel
theorem dX11_mark_5 : decode cX11_mark 5 = .ok (.ifCond .eq 16, 3) := by decide +kernel
theorem dX11_mark_8 : decode cX11_mark 8 = .ok (.aload_n 0, 1) := by decide +kernel
theorem dX11_mark_9 : decode cX11_mark 9 = .ok (.iload_n 2, 1) := by decide +kernel
theorem dX11_mark_10 : decode cX11_mark 10 = .ok (.invokevirtual 134, 3) := by decide +kernel
theorem dX11_mark_13 : decode cX11_mark 13 = .ok (.ifCond .eq 8, 3) := by decide +kernel
theorem dX11_mark_16 : decode cX11_mark 16 = .ok (.iload_n 1, 1) := by decide +kernel
theorem dX11_mark_17 : decode cX11_mark 17 = .ok (.iload_n 2, 1) := by decide +kernel
theorem dX11_mark_18 : decode cX11_mark 18 = .ok (.if_icmp .ne 6, 3) := by decide +kernel
theorem dX11_mark_21 : decode cX11_mark 21 = .ok (.bipush (-2), 2) := by decide +kernel
theorem dX11_mark_23 : decode cX11_mark 23 = .ok (.ireturn, 1) := by decide +kernel
theorem dX11_mark_24 : decode cX11_mark 24 = .ok (.aload_n 0, 1) := by decide +kernel
theorem dX11_mark_25 : decode cX11_mark 25 = .ok (.getfield 278, 3) := by decide +kernel
theorem dX11_mark_28 : decode cX11_mark 28 = .ok (.bipush 20, 2) := by decide +kernel
theorem dX11_mark_30 : decode cX11_mark 30 = .ok (.if_icmp .ne 6, 3) := by decide +kernel
theorem dX11_mark_33 : decode cX11_mark 33 = .ok (.bipush (-4), 2) := by decide +kernel
theorem dX11_mark_35 : decode cX11_mark 35 = .ok (.ireturn, 1) := by decide +kernel
theorem dX11_mark_36 : decode cX11_mark 36 = .ok (.aload_n 0, 1) := by decide +kernel
theorem dX11_mark_37 : decode cX11_mark 37 = .ok (.getfield 34, 3) := by decide +kernel
theorem dX11_mark_40 : decode cX11_mark 40 = .ok (.aload_n 0, 1) := by decide +kernel
theorem dX11_mark_41 : decode cX11_mark 41 = .ok (.getfield 278, 3) := by decide +kernel
theorem dX11_mark_44 : decode cX11_mark 44 = .ok (.iload_n 1, 1) := by decide +kernel
theorem dX11_mark_45 : decode cX11_mark 45 = .ok (.iastore, 1) := by decide +kernel
theorem dX11_mark_46 : decode cX11_mark 46 = .ok (.aload_n 0, 1) := by decide +kernel
theorem dX11_mark_47 : decode cX11_mark 47 = .ok (.getfield 37, 3) := by decide +kernel
theorem dX11_mark_50 : decode cX11_mark 50 = .ok (.aload_n 0, 1) := by decide +kernel
theorem dX11_mark_51 : decode cX11_mark 51 = .ok (.getfield 278, 3) := by decide +kernel
theorem dX11_mark_54 : decode cX11_mark 54 = .ok (.iload_n 2, 1) := by decide +kernel
theorem dX11_mark_55 : decode cX11_mark 55 = .ok (.iastore, 1) := by decide +kernel
theorem dX11_mark_56 : decode cX11_mark 56 = .ok (.aload_n 0, 1) := by decide +kernel
theorem dX11_mark_57 : decode cX11_mark 57 = .ok (.dup, 1) := by decide +kernel
theorem dX11_mark_58 : decode cX11_mark 58 = .ok (.getfield 278, 3) := by decide +kernel
theorem dX11_mark_61 : decode cX11_mark 61 = .ok (.iconst 1, 1) := by decide +kernel
theorem dX11_mark_62 : decode cX11_mark 62 = .ok (.iadd, 1) := by decide +kernel
theorem dX11_mark_63 : decode cX11_mark 63 = .ok (.dup_x1, 1) := by decide +kernel
theorem dX11_mark_64 : decode cX11_mark 64 = .ok (.putfield 278, 3) := by decide +kernel
theorem dX11_mark_67 : decode cX11_mark 67 = .ok (.ireturn, 1) := by decide +kernel
theorem dX11_all_0 : decode cX11_all 0 = .ok (.iconst 0, 1) := by decide +kernel
theorem dX11_all_1 : decode cX11_all 1 = .ok (.istore_n 3, 1) := by decide +kernel
theorem dX11_all_2 : decode cX11_all 2 = .ok (.iload_n 3, 1) := by decide +kernel
theorem dX11_all_3 : decode cX11_all 3 = .ok (.bipush 10, 2) := by decide +kernel
theorem dX11_all_5 : decode cX11_all 5 = .ok (.if_icmp .ge 16, 3) := by decide +kernel
theorem dX11_all_8 : decode cX11_all 8 = .ok (.aload_n 0, 1) := by decide +kernel
theorem dX11_all_9 : decode cX11_all 9 = .ok (.getfield 74, 3) := by decide +kernel
theorem dX11_all_12 : decode cX11_all 12 = .ok (.iload_n 3, 1) := by decide +kernel
theorem dX11_all_13 : decode cX11_all 13 = .ok (.iconst 0, 1) := by decide +kernel
theorem dX11_all_14 : decode cX11_all 14 = .ok (.iastore, 1) := by decide +kernel
theorem dX11_all_15 : decode cX11_all 15 = .ok (.iinc 3 1, 3) := by decide +kernel
theorem dX11_all_18 : decode cX11_all 18 = .ok (.goto (-16), 3) := by decide +kernel
theorem dX11_all_21 : decode cX11_all 21 = .ok (.iconst 0, 1) := by decide +kernel
theorem dX11_all_22 : decode cX11_all 22 = .ok (.istore_n 3, 1) := by decide +kernel
theorem dX11_all_23 : decode cX11_all 23 = .ok (.iload_n 3, 1) := by decide +kernel
theorem dX11_all_24 : decode cX11_all 24 = .ok (.aload_n 0, 1) := by decide +kernel
theorem dX11_all_25 : decode cX11_all 25 = .ok (.getfield 278, 3) := by decide +kernel
theorem dX11_all_28 : decode cX11_all 28 = .ok (.if_icmp .ge 31, 3) := by decide +kernel
theorem dX11_all_31 : decode cX11_all 31 = .ok (.aload_n 0, 1) := by decide +kernel
theorem dX11_all_32 : decode cX11_all 32 = .ok (.getfield 74, 3) := by decide +kernel
theorem dX11_all_35 : decode cX11_all 35 = .ok (.aload_n 0, 1) := by decide +kernel
theorem dX11_all_36 : decode cX11_all 36 = .ok (.getfield 37, 3) := by decide +kernel
theorem dX11_all_39 : decode cX11_all 39 = .ok (.iload_n 3, 1) := by decide +kernel
theorem dX11_all_40 : decode cX11_all 40 = .ok (.iaload, 1) := by decide +kernel
theorem dX11_all_41 : decode cX11_all 41 = .ok (.dup2, 1) := by decide +kernel
theorem dX11_all_42 : decode cX11_all 42 = .ok (.iaload, 1) := by decide +kernel
theorem dX11_all_43 : decode cX11_all 43 = .ok (.iconst 1, 1) := by decide +kernel
theorem dX11_all_44 : decode cX11_all 44 = .ok (.aload_n 0, 1) := by decide +kernel
theorem dX11_all_45 : decode cX11_all 45 = .ok (.getfield 34, 3) := by decide +kernel
theorem dX11_all_48 : decode cX11_all 48 = .ok (.iload_n 3, 1) := by decide +kernel
theorem dX11_all_49 : decode cX11_all 49 = .ok (.iaload, 1) := by decide +kernel
theorem dX11_all_50 : decode cX11_all 50 = .ok (.ishl, 1) := by decide +kernel
theorem dX11_all_51 : decode cX11_all 51 = .ok (.ior, 1) := by decide +kernel
theorem dX11_all_52 : decode cX11_all 52 = .ok (.iastore, 1) := by decide +kernel
theorem dX11_all_53 : decode cX11_all 53 = .ok (.iinc 3 1, 3) := by decide +kernel
theorem dX11_all_56 : decode cX11_all 56 = .ok (.goto (-33), 3) := by decide +kernel
theorem dX11_all_59 : decode cX11_all 59 = .ok (.iload_n 1, 1) := by decide +kernel
theorem dX11_all_60 : decode cX11_all 60 = .ok (.iconst (-1), 1) := by decide +kernel
theorem dX11_all_61 : decode cX11_all 61 = .ok (.if_icmp .eq 15, 3) := by decide +kernel
theorem dX11_all_64 : decode cX11_all 64 = .ok (.aload_n 0, 1) := by decide +kernel
theorem dX11_all_65 : decode cX11_all 65 = .ok (.getfield 74, 3) := by decide +kernel
theorem dX11_all_68 : decode cX11_all 68 = .ok (.iload_n 2, 1) := by decide +kernel
theorem dX11_all_69 : decode cX11_all 69 = .ok (.dup2, 1) := by decide +kernel
theorem dX11_all_70 : decode cX11_all 70 = .ok (.iaload, 1) := by decide +kernel
theorem dX11_all_71 : decode cX11_all 71 = .ok (.iconst 1, 1) := by decide +kernel
theorem dX11_all_72 : decode cX11_all 72 = .ok (.iload_n 1, 1) := by decide +kernel
theorem dX11_all_73 : decode cX11_all 73 = .ok (.ishl, 1) := by decide +kernel
theorem dX11_all_74 : decode cX11_all 74 = .ok (.ior, 1) := by decide +kernel
theorem dX11_all_75 : decode cX11_all 75 = .ok (.iastore, 1) := by decide +kernel
theorem dX11_all_76 : decode cX11_all 76 = .ok (.iconst 1, 1) := by decide +kernel
theorem dX11_all_77 : decode cX11_all 77 = .ok (.aload_n 0, 1) := by decide +kernel
theorem dX11_all_78 : decode cX11_all 78 = .ok (.getfield 131, 3) := by decide +kernel
theorem dX11_all_81 : decode cX11_all 81 = .ok (.ishl, 1) := by decide +kernel
theorem dX11_all_82 : decode cX11_all 82 = .ok (.istore_n 3, 1) := by decide +kernel
theorem dX11_all_83 : decode cX11_all 83 = .ok (.iconst 0, 1) := by decide +kernel
theorem dX11_all_84 : decode cX11_all 84 = .ok (.istore 4, 2) := by decide +kernel
theorem dX11_all_86 : decode cX11_all 86 = .ok (.iload 4, 2) := by decide +kernel
theorem dX11_all_88 : decode cX11_all 88 = .ok (.iload_n 3, 1) := by decide +kernel
theorem dX11_all_89 : decode cX11_all 89 = .ok (.if_icmp .ge 17, 3) := by decide +kernel
theorem dX11_all_92 : decode cX11_all 92 = .ok (.aload_n 0, 1) := by decide +kernel
theorem dX11_all_93 : decode cX11_all 93 = .ok (.getfield 70, 3) := by decide +kernel
theorem dX11_all_96 : decode cX11_all 96 = .ok (.iload 4, 2) := by decide +kernel
theorem dX11_all_98 : decode cX11_all 98 = .ok (.lconst 0, 1) := by decide +kernel
theorem dX11_all_99 : decode cX11_all 99 = .ok (.lastore, 1) := by decide +kernel
theorem dX11_all_100 : decode cX11_all 100 = .ok (.iinc 4 1, 3) := by decide +kernel
theorem dX11_all_103 : decode cX11_all 103 = .ok (.goto (-17), 3) := by decide +kernel
theorem dX11_all_106 : decode cX11_all 106 = .ok (.aload_n 0, 1) := by decide +kernel
theorem dX11_all_107 : decode cX11_all 107 = .ok (.getfield 70, 3) := by decide +kernel
theorem dX11_all_110 : decode cX11_all 110 = .ok (.iconst 0, 1) := by decide +kernel
theorem dX11_all_111 : decode cX11_all 111 = .ok (.lconst 1, 1) := by decide +kernel
theorem dX11_all_112 : decode cX11_all 112 = .ok (.lastore, 1) := by decide +kernel
theorem dX11_all_113 : decode cX11_all 113 = .ok (.iconst 0, 1) := by decide +kernel
theorem dX11_all_114 : decode cX11_all 114 = .ok (.istore 4, 2) := by decide +kernel
theorem dX11_all_116 : decode cX11_all 116 = .ok (.iload 4, 2) := by decide +kernel
theorem dX11_all_118 : decode cX11_all 118 = .ok (.iload_n 3, 1) := by decide +kernel
theorem dX11_all_119 : decode cX11_all 119 = .ok (.if_icmp .ge 89, 3) := by decide +kernel
theorem dX11_all_122 : decode cX11_all 122 = .ok (.aload_n 0, 1) := by decide +kernel
theorem dX11_all_123 : decode cX11_all 123 = .ok (.getfield 70, 3) := by decide +kernel
theorem dX11_all_126 : decode cX11_all 126 = .ok (.iload 4, 2) := by decide +kernel
theorem dX11_all_128 : decode cX11_all 128 = .ok (.laload, 1) := by decide +kernel
theorem dX11_all_129 : decode cX11_all 129 = .ok (.lconst 0, 1) := by decide +kernel
theorem dX11_all_130 : decode cX11_all 130 = .ok (.lcmp, 1) := by decide +kernel
theorem dX11_all_131 : decode cX11_all 131 = .ok (.ifCond .ne 6, 3) := by decide +kernel
theorem dX11_all_134 : decode cX11_all 134 = .ok (.goto 68, 3) := by decide +kernel
theorem dX11_all_137 : decode cX11_all 137 = .ok (.iconst 0, 1) := by decide +kernel
theorem dX11_all_138 : decode cX11_all 138 = .ok (.istore 5, 2) := by decide +kernel
theorem dX11_all_140 : decode cX11_all 140 = .ok (.iload 5, 2) := by decide +kernel
theorem dX11_all_142 : decode cX11_all 142 = .ok (.aload_n 0, 1) := by decide +kernel
theorem dX11_all_143 : decode cX11_all 143 = .ok (.getfield 131, 3) := by decide +kernel
theorem dX11_all_146 : decode cX11_all 146 = .ok (.if_icmp .ge 56, 3) := by decide +kernel
theorem dX11_all_149 : decode cX11_all 149 = .ok (.iload 4, 2) := by decide +kernel
theorem dX11_all_151 : decode cX11_all 151 = .ok (.iload 5, 2) := by decide +kernel
theorem dX11_all_153 : decode cX11_all 153 = .ok (.ishr, 1) := by decide +kernel
theorem dX11_all_154 : decode cX11_all 154 = .ok (.iconst 1, 1) := by decide +kernel
theorem dX11_all_155 : decode cX11_all 155 = .ok (.iand, 1) := by decide +kernel
theorem dX11_all_156 : decode cX11_all 156 = .ok (.ifCond .ne 40, 3) := by decide +kernel
theorem dX11_all_159 : decode cX11_all 159 = .ok (.aload_n 0, 1) := by decide +kernel
theorem dX11_all_160 : decode cX11_all 160 = .ok (.getfield 74, 3) := by decide +kernel
theorem dX11_all_163 : decode cX11_all 163 = .ok (.iload 5, 2) := by decide +kernel
theorem dX11_all_165 : decode cX11_all 165 = .ok (.iaload, 1) := by decide +kernel
theorem dX11_all_166 : decode cX11_all 166 = .ok (.iload 4, 2) := by decide +kernel
theorem dX11_all_168 : decode cX11_all 168 = .ok (.iconst (-1), 1) := by decide +kernel
theorem dX11_all_169 : decode cX11_all 169 = .ok (.ixor, 1) := by decide +kernel
theorem dX11_all_170 : decode cX11_all 170 = .ok (.iand, 1) := by decide +kernel
theorem dX11_all_171 : decode cX11_all 171 = .ok (.ifCond .ne 25, 3) := by decide +kernel
theorem dX11_all_174 : decode cX11_all 174 = .ok (.aload_n 0, 1) := by decide +kernel
theorem dX11_all_175 : decode cX11_all 175 = .ok (.getfield 70, 3) := by decide +kernel
theorem dX11_all_178 : decode cX11_all 178 = .ok (.iload 4, 2) := by decide +kernel
theorem dX11_all_180 : decode cX11_all 180 = .ok (.iconst 1, 1) := by decide +kernel
theorem dX11_all_181 : decode cX11_all 181 = .ok (.iload 5, 2) := by decide +kernel
theorem dX11_all_183 : decode cX11_all 183 = .ok (.ishl, 1) := by decide +kernel
theorem dX11_all_184 : decode cX11_all 184 = .ok (.ior, 1) := by decide +kernel
theorem dX11_all_185 : decode cX11_all 185 = .ok (.dup2, 1) := by decide +kernel
theorem dX11_all_186 : decode cX11_all 186 = .ok (.laload, 1) := by decide +kernel
theorem dX11_all_187 : decode cX11_all 187 = .ok (.aload_n 0, 1) := by decide +kernel
theorem dX11_all_188 : decode cX11_all 188 = .ok (.getfield 70, 3) := by decide +kernel
theorem dX11_all_191 : decode cX11_all 191 = .ok (.iload 4, 2) := by decide +kernel
theorem dX11_all_193 : decode cX11_all 193 = .ok (.laload, 1) := by decide +kernel
theorem dX11_all_194 : decode cX11_all 194 = .ok (.ladd, 1) := by decide +kernel
theorem dX11_all_195 : decode cX11_all 195 = .ok (.lastore, 1) := by decide +kernel
theorem dX11_all_196 : decode cX11_all 196 = .ok (.iinc 5 1, 3) := by decide +kernel
theorem dX11_all_199 : decode cX11_all 199 = .ok (.goto (-59), 3) := by decide +kernel
theorem dX11_all_202 : decode cX11_all 202 = .ok (.iinc 4 1, 3) := by decide +kernel
theorem dX11_all_205 : decode cX11_all 205 = .ok (.goto (-89), 3) := by decide +kernel
theorem dX11_all_208 : decode cX11_all 208 = .ok (.aload_n 0, 1) := by decide +kernel
theorem dX11_all_209 : decode cX11_all 209 = .ok (.getfield 70, 3) := by decide +kernel
theorem dX11_all_212 : decode cX11_all 212 = .ok (.iload_n 3, 1) := by decide +kernel
theorem dX11_all_213 : decode cX11_all 213 = .ok (.iconst 1, 1) := by decide +kernel
theorem dX11_all_214 : decode cX11_all 214 = .ok (.isub, 1) := by decide +kernel
theorem dX11_all_215 : decode cX11_all 215 = .ok (.laload, 1) := by decide +kernel
theorem dX11_all_216 : decode cX11_all 216 = .ok (.lreturn, 1) := by decide +kernel
theorem dX11_orders_0 : decode cX11_orders 0 = .ok (.aload_n 0, 1) := by decide +kernel
theorem dX11_orders_1 : decode cX11_orders 1 = .ok (.iconst (-1), 1) := by decide +kernel
theorem dX11_orders_2 : decode cX11_orders 2 = .ok (.iconst (-1), 1) := by decide +kernel
theorem dX11_orders_3 : decode cX11_orders 3 = .ok (.invokevirtual 281, 3) := by decide +kernel
theorem dX11_orders_6 : decode cX11_orders 6 = .ok (.lreturn, 1) := by decide +kernel
theorem dX11_odds_0 : decode cX11_odds 0 = .ok (.aload_n 0, 1) := by decide +kernel
theorem dX11_odds_1 : decode cX11_odds 1 = .ok (.iload_n 1, 1) := by decide +kernel
theorem dX11_odds_2 : decode cX11_odds 2 = .ok (.invokevirtual 134, 3) := by decide +kernel
theorem dX11_odds_5 : decode cX11_odds 5 = .ok (.ifCond .eq 25, 3) := by decide +kernel
theorem dX11_odds_8 : decode cX11_odds 8 = .ok (.aload_n 0, 1) := by decide +kernel
theorem dX11_odds_9 : decode cX11_odds 9 = .ok (.iload_n 2, 1) := by decide +kernel
theorem dX11_odds_10 : decode cX11_odds 10 = .ok (.invokevirtual 134, 3) := by decide +kernel
theorem dX11_odds_13 : decode cX11_odds 13 = .ok (.ifCond .eq 17, 3) := by decide +kernel
theorem dX11_odds_16 : decode cX11_odds 16 = .ok (.iload_n 1, 1) := by decide +kernel
theorem dX11_odds_17 : decode cX11_odds 17 = .ok (.iload_n 2, 1) := by decide +kernel
theorem dX11_odds_18 : decode cX11_odds 18 = .ok (.if_icmp .eq 12, 3) := by decide +kernel
theorem dX11_odds_21 : decode cX11_odds 21 = .ok (.iload_n 3, 1) := by decide +kernel
theorem dX11_odds_22 : decode cX11_odds 22 = .ok (.iconst 0, 1) := by decide +kernel
theorem dX11_odds_23 : decode cX11_odds 23 = .ok (.iconst 1, 1) := by decide +kernel
theorem dX11_odds_24 : decode cX11_odds 24 = .ok (.invokestatic 127, 3) := by decide +kernel
theorem dX11_odds_27 : decode cX11_odds 27 = .ok (.ifCond .ne 7, 3) := by decide +kernel
theorem dX11_odds_30 : decode cX11_odds 30 = .ok (.ldc2_w 285, 3) := by decide +kernel
theorem dX11_odds_33 : decode cX11_odds 33 = .ok (.lreturn, 1) := by decide +kernel
theorem dX11_odds_34 : decode cX11_odds 34 = .ok (.aload_n 0, 1) := by decide +kernel
theorem dX11_odds_35 : decode cX11_odds 35 = .ok (.iconst (-1), 1) := by decide +kernel
theorem dX11_odds_36 : decode cX11_odds 36 = .ok (.iconst (-1), 1) := by decide +kernel
theorem dX11_odds_37 : decode cX11_odds 37 = .ok (.invokevirtual 281, 3) := by decide +kernel
theorem dX11_odds_40 : decode cX11_odds 40 = .ok (.lstore 4, 2) := by decide +kernel
theorem dX11_odds_42 : decode cX11_odds 42 = .ok (.lload 4, 2) := by decide +kernel
theorem dX11_odds_44 : decode cX11_odds 44 = .ok (.lconst 0, 1) := by decide +kernel
theorem dX11_odds_45 : decode cX11_odds 45 = .ok (.lcmp, 1) := by decide +kernel
theorem dX11_odds_46 : decode cX11_odds 46 = .ok (.ifCond .ne 6, 3) := by decide +kernel
theorem dX11_odds_49 : decode cX11_odds 49 = .ok (.iload_n 3, 1) := by decide +kernel
theorem dX11_odds_50 : decode cX11_odds 50 = .ok (.i2l, 1) := by decide +kernel
theorem dX11_odds_51 : decode cX11_odds 51 = .ok (.lreturn, 1) := by decide +kernel
theorem dX11_odds_52 : decode cX11_odds 52 = .ok (.aload_n 0, 1) := by decide +kernel
theorem dX11_odds_53 : decode cX11_odds 53 = .ok (.iload_n 1, 1) := by decide +kernel
theorem dX11_odds_54 : decode cX11_odds 54 = .ok (.iload_n 2, 1) := by decide +kernel
theorem dX11_odds_55 : decode cX11_odds 55 = .ok (.invokevirtual 281, 3) := by decide +kernel
theorem dX11_odds_58 : decode cX11_odds 58 = .ok (.lstore 6, 2) := by decide +kernel
theorem dX11_odds_60 : decode cX11_odds 60 = .ok (.lload 6, 2) := by decide +kernel
theorem dX11_odds_62 : decode cX11_odds 62 = .ok (.lstore 8, 2) := by decide +kernel
theorem dX11_odds_64 : decode cX11_odds 64 = .ok (.lload 4, 2) := by decide +kernel
theorem dX11_odds_66 : decode cX11_odds 66 = .ok (.lstore 10, 2) := by decide +kernel
theorem dX11_odds_68 : decode cX11_odds 68 = .ok (.lload 10, 2) := by decide +kernel
theorem dX11_odds_70 : decode cX11_odds 70 = .ok (.lconst 0, 1) := by decide +kernel
theorem dX11_odds_71 : decode cX11_odds 71 = .ok (.lcmp, 1) := by decide +kernel
theorem dX11_odds_72 : decode cX11_odds 72 = .ok (.ifCond .eq 21, 3) := by decide +kernel
theorem dX11_odds_75 : decode cX11_odds 75 = .ok (.lload 8, 2) := by decide +kernel
theorem dX11_odds_77 : decode cX11_odds 77 = .ok (.lload 10, 2) := by decide +kernel
theorem dX11_odds_79 : decode cX11_odds 79 = .ok (.lrem, 1) := by decide +kernel
theorem dX11_odds_80 : decode cX11_odds 80 = .ok (.lstore 12, 2) := by decide +kernel
theorem dX11_odds_82 : decode cX11_odds 82 = .ok (.lload 10, 2) := by decide +kernel
theorem dX11_odds_84 : decode cX11_odds 84 = .ok (.lstore 8, 2) := by decide +kernel
theorem dX11_odds_86 : decode cX11_odds 86 = .ok (.lload 12, 2) := by decide +kernel
theorem dX11_odds_88 : decode cX11_odds 88 = .ok (.lstore 10, 2) := by decide +kernel
theorem dX11_odds_90 : decode cX11_odds 90 = .ok (.goto (-22), 3) := by decide +kernel
theorem dX11_odds_93 : decode cX11_odds 93 = .ok (.iload_n 3, 1) := by decide +kernel
theorem dX11_odds_94 : decode cX11_odds 94 = .ok (.ifCond .ne 11, 3) := by decide +kernel
theorem dX11_odds_97 : decode cX11_odds 97 = .ok (.lload 6, 2) := by decide +kernel
theorem dX11_odds_99 : decode cX11_odds 99 = .ok (.lload 8, 2) := by decide +kernel
theorem dX11_odds_101 : decode cX11_odds 101 = .ok (.ldiv, 1) := by decide +kernel
theorem dX11_odds_102 : decode cX11_odds 102 = .ok (.goto 8, 3) := by decide +kernel
theorem dX11_odds_105 : decode cX11_odds 105 = .ok (.lload 4, 2) := by decide +kernel
theorem dX11_odds_107 : decode cX11_odds 107 = .ok (.lload 8, 2) := by decide +kernel
theorem dX11_odds_109 : decode cX11_odds 109 = .ok (.ldiv, 1) := by decide +kernel
theorem dX11_odds_110 : decode cX11_odds 110 = .ok (.lreturn, 1) := by decide +kernel
theorem dX11_place_0 : decode cX11_place 0 = .ok (.aload_n 0, 1) := by decide +kernel
theorem dX11_place_1 : decode cX11_place 1 = .ok (.iload_n 1, 1) := by decide +kernel
theorem dX11_place_2 : decode cX11_place 2 = .ok (.invokevirtual 134, 3) := by decide +kernel
theorem dX11_place_5 : decode cX11_place 5 = .ok (.ifCond .eq 12, 3) := by decide +kernel
theorem dX11_place_8 : decode cX11_place 8 = .ok (.iload_n 2, 1) := by decide +kernel
theorem dX11_place_9 : decode cX11_place 9 = .ok (.iconst 0, 1) := by decide +kernel
theorem dX11_place_10 : decode cX11_place 10 = .ok (.iconst 1, 1) := by decide +kernel
theorem dX11_place_11 : decode cX11_place 11 = .ok (.invokestatic 127, 3) := by decide +kernel
theorem dX11_place_14 : decode cX11_place 14 = .ok (.ifCond .ne 6, 3) := by decide +kernel
theorem dX11_place_17 : decode cX11_place 17 = .ok (.bipush (-2), 2) := by decide +kernel
theorem dX11_place_19 : decode cX11_place 19 = .ok (.ireturn, 1) := by decide +kernel
theorem dX11_place_20 : decode cX11_place 20 = .ok (.aload_n 0, 1) := by decide +kernel
theorem dX11_place_21 : decode cX11_place 21 = .ok (.iconst (-1), 1) := by decide +kernel
theorem dX11_place_22 : decode cX11_place 22 = .ok (.iconst (-1), 1) := by decide +kernel
theorem dX11_place_23 : decode cX11_place 23 = .ok (.invokevirtual 281, 3) := by decide +kernel
theorem dX11_place_26 : decode cX11_place 26 = .ok (.lconst 0, 1) := by decide +kernel
theorem dX11_place_27 : decode cX11_place 27 = .ok (.lcmp, 1) := by decide +kernel
theorem dX11_place_28 : decode cX11_place 28 = .ok (.ifCond .ne 5, 3) := by decide +kernel
theorem dX11_place_31 : decode cX11_place 31 = .ok (.iconst (-1), 1) := by decide +kernel
theorem dX11_place_32 : decode cX11_place 32 = .ok (.ireturn, 1) := by decide +kernel
theorem dX11_place_33 : decode cX11_place 33 = .ok (.iconst 1, 1) := by decide +kernel
theorem dX11_place_34 : decode cX11_place 34 = .ok (.iload_n 1, 1) := by decide +kernel
theorem dX11_place_35 : decode cX11_place 35 = .ok (.ishl, 1) := by decide +kernel
theorem dX11_place_36 : decode cX11_place 36 = .ok (.istore_n 3, 1) := by decide +kernel
theorem dX11_place_37 : decode cX11_place 37 = .ok (.iconst 0, 1) := by decide +kernel
theorem dX11_place_38 : decode cX11_place 38 = .ok (.istore 4, 2) := by decide +kernel
theorem dX11_place_40 : decode cX11_place 40 = .ok (.iload 4, 2) := by decide +kernel
theorem dX11_place_42 : decode cX11_place 42 = .ok (.aload_n 0, 1) := by decide +kernel
theorem dX11_place_43 : decode cX11_place 43 = .ok (.getfield 131, 3) := by decide +kernel
theorem dX11_place_46 : decode cX11_place 46 = .ok (.if_icmp .ge 90, 3) := by decide +kernel
theorem dX11_place_49 : decode cX11_place 49 = .ok (.iconst 0, 1) := by decide +kernel
theorem dX11_place_50 : decode cX11_place 50 = .ok (.istore 5, 2) := by decide +kernel
theorem dX11_place_52 : decode cX11_place 52 = .ok (.iload 5, 2) := by decide +kernel
theorem dX11_place_54 : decode cX11_place 54 = .ok (.aload_n 0, 1) := by decide +kernel
theorem dX11_place_55 : decode cX11_place 55 = .ok (.getfield 278, 3) := by decide +kernel
theorem dX11_place_58 : decode cX11_place 58 = .ok (.if_icmp .ge 72, 3) := by decide +kernel
theorem dX11_place_61 : decode cX11_place 61 = .ok (.iload_n 2, 1) := by decide +kernel
theorem dX11_place_62 : decode cX11_place 62 = .ok (.ifCond .ne 30, 3) := by decide +kernel
theorem dX11_place_65 : decode cX11_place 65 = .ok (.iload_n 3, 1) := by decide +kernel
theorem dX11_place_66 : decode cX11_place 66 = .ok (.aload_n 0, 1) := by decide +kernel
theorem dX11_place_67 : decode cX11_place 67 = .ok (.getfield 37, 3) := by decide +kernel
theorem dX11_place_70 : decode cX11_place 70 = .ok (.iload 5, 2) := by decide +kernel
theorem dX11_place_72 : decode cX11_place 72 = .ok (.iaload, 1) := by decide +kernel
theorem dX11_place_73 : decode cX11_place 73 = .ok (.ishr, 1) := by decide +kernel
theorem dX11_place_74 : decode cX11_place 74 = .ok (.iconst 1, 1) := by decide +kernel
theorem dX11_place_75 : decode cX11_place 75 = .ok (.iand, 1) := by decide +kernel
theorem dX11_place_76 : decode cX11_place 76 = .ok (.iconst 1, 1) := by decide +kernel
theorem dX11_place_77 : decode cX11_place 77 = .ok (.if_icmp .ne 15, 3) := by decide +kernel
theorem dX11_place_80 : decode cX11_place 80 = .ok (.iload_n 3, 1) := by decide +kernel
theorem dX11_place_81 : decode cX11_place 81 = .ok (.iconst 1, 1) := by decide +kernel
theorem dX11_place_82 : decode cX11_place 82 = .ok (.aload_n 0, 1) := by decide +kernel
theorem dX11_place_83 : decode cX11_place 83 = .ok (.getfield 34, 3) := by decide +kernel
theorem dX11_place_86 : decode cX11_place 86 = .ok (.iload 5, 2) := by decide +kernel
theorem dX11_place_88 : decode cX11_place 88 = .ok (.iaload, 1) := by decide +kernel
theorem dX11_place_89 : decode cX11_place 89 = .ok (.ishl, 1) := by decide +kernel
theorem dX11_place_90 : decode cX11_place 90 = .ok (.ior, 1) := by decide +kernel
theorem dX11_place_91 : decode cX11_place 91 = .ok (.istore_n 3, 1) := by decide +kernel
theorem dX11_place_92 : decode cX11_place 92 = .ok (.iload_n 2, 1) := by decide +kernel
theorem dX11_place_93 : decode cX11_place 93 = .ok (.iconst 1, 1) := by decide +kernel
theorem dX11_place_94 : decode cX11_place 94 = .ok (.if_icmp .ne 30, 3) := by decide +kernel
theorem dX11_place_97 : decode cX11_place 97 = .ok (.iload_n 3, 1) := by decide +kernel
theorem dX11_place_98 : decode cX11_place 98 = .ok (.aload_n 0, 1) := by decide +kernel
theorem dX11_place_99 : decode cX11_place 99 = .ok (.getfield 34, 3) := by decide +kernel
theorem dX11_place_102 : decode cX11_place 102 = .ok (.iload 5, 2) := by decide +kernel
theorem dX11_place_104 : decode cX11_place 104 = .ok (.iaload, 1) := by decide +kernel
theorem dX11_place_105 : decode cX11_place 105 = .ok (.ishr, 1) := by decide +kernel
theorem dX11_place_106 : decode cX11_place 106 = .ok (.iconst 1, 1) := by decide +kernel
theorem dX11_place_107 : decode cX11_place 107 = .ok (.iand, 1) := by decide +kernel
theorem dX11_place_108 : decode cX11_place 108 = .ok (.iconst 1, 1) := by decide +kernel
theorem dX11_place_109 : decode cX11_place 109 = .ok (.if_icmp .ne 15, 3) := by decide +kernel
theorem dX11_place_112 : decode cX11_place 112 = .ok (.iload_n 3, 1) := by decide +kernel
theorem dX11_place_113 : decode cX11_place 113 = .ok (.iconst 1, 1) := by decide +kernel
theorem dX11_place_114 : decode cX11_place 114 = .ok (.aload_n 0, 1) := by decide +kernel
theorem dX11_place_115 : decode cX11_place 115 = .ok (.getfield 37, 3) := by decide +kernel
theorem dX11_place_118 : decode cX11_place 118 = .ok (.iload 5, 2) := by decide +kernel
theorem dX11_place_120 : decode cX11_place 120 = .ok (.iaload, 1) := by decide +kernel
theorem dX11_place_121 : decode cX11_place 121 = .ok (.ishl, 1) := by decide +kernel
theorem dX11_place_122 : decode cX11_place 122 = .ok (.ior, 1) := by decide +kernel
theorem dX11_place_123 : decode cX11_place 123 = .ok (.istore_n 3, 1) := by decide +kernel
theorem dX11_place_124 : decode cX11_place 124 = .ok (.iinc 5 1, 3) := by decide +kernel
theorem dX11_place_127 : decode cX11_place 127 = .ok (.goto (-75), 3) := by decide +kernel
theorem dX11_place_130 : decode cX11_place 130 = .ok (.iinc 4 1, 3) := by decide +kernel
theorem dX11_place_133 : decode cX11_place 133 = .ok (.goto (-93), 3) := by decide +kernel
theorem dX11_place_136 : decode cX11_place 136 = .ok (.iload_n 3, 1) := by decide +kernel
theorem dX11_place_137 : decode cX11_place 137 = .ok (.invokestatic 287, 3) := by decide +kernel
theorem dX11_place_140 : decode cX11_place 140 = .ok (.iconst 1, 1) := by decide +kernel
theorem dX11_place_141 : decode cX11_place 141 = .ok (.isub, 1) := by decide +kernel
theorem dX11_place_142 : decode cX11_place 142 = .ok (.istore 4, 2) := by decide +kernel
theorem dX11_place_144 : decode cX11_place 144 = .ok (.iload_n 2, 1) := by decide +kernel
theorem dX11_place_145 : decode cX11_place 145 = .ok (.ifCond .ne 8, 3) := by decide +kernel
theorem dX11_place_148 : decode cX11_place 148 = .ok (.iload 4, 2) := by decide +kernel
theorem dX11_place_150 : decode cX11_place 150 = .ok (.goto 12, 3) := by decide +kernel
theorem dX11_place_153 : decode cX11_place 153 = .ok (.aload_n 0, 1) := by decide +kernel
theorem dX11_place_154 : decode cX11_place 154 = .ok (.getfield 131, 3) := by decide +kernel
theorem dX11_place_157 : decode cX11_place 157 = .ok (.iconst 1, 1) := by decide +kernel
theorem dX11_place_158 : decode cX11_place 158 = .ok (.isub, 1) := by decide +kernel
theorem dX11_place_159 : decode cX11_place 159 = .ok (.iload 4, 2) := by decide +kernel
theorem dX11_place_161 : decode cX11_place 161 = .ok (.isub, 1) := by decide +kernel
theorem dX11_place_162 : decode cX11_place 162 = .ok (.ireturn, 1) := by decide +kernel
theorem dX11_came_0 : decode cX11_came 0 = .ok (.iload_n 1, 1) := by decide +kernel
theorem dX11_came_1 : decode cX11_came 1 = .ok (.iconst 0, 1) := by decide +kernel
theorem dX11_came_2 : decode cX11_came 2 = .ok (.iconst 3, 1) := by decide +kernel
theorem dX11_came_3 : decode cX11_came 3 = .ok (.invokestatic 127, 3) := by decide +kernel
theorem dX11_came_6 : decode cX11_came 6 = .ok (.ifCond .ne 6, 3) := by decide +kernel
theorem dX11_came_9 : decode cX11_came 9 = .ok (.bipush (-2), 2) := by decide +kernel
theorem dX11_came_11 : decode cX11_came 11 = .ok (.ireturn, 1) := by decide +kernel
theorem dX11_came_12 : decode cX11_came 12 = .ok (.aload_n 0, 1) := by decide +kernel
theorem dX11_came_13 : decode cX11_came 13 = .ok (.getfield 92, 3) := by decide +kernel
theorem dX11_came_16 : decode cX11_came 16 = .ok (.iload_n 1, 1) := by decide +kernel
theorem dX11_came_17 : decode cX11_came 17 = .ok (.iaload, 1) := by decide +kernel
theorem dX11_came_18 : decode cX11_came 18 = .ok (.iconst (-1), 1) := by decide +kernel
theorem dX11_came_19 : decode cX11_came 19 = .ok (.if_icmp .ne 6, 3) := by decide +kernel
theorem dX11_came_22 : decode cX11_came 22 = .ok (.bipush (-11), 2) := by decide +kernel
theorem dX11_came_24 : decode cX11_came 24 = .ok (.ireturn, 1) := by decide +kernel
theorem dX11_came_25 : decode cX11_came 25 = .ok (.aload_n 0, 1) := by decide +kernel
theorem dX11_came_26 : decode cX11_came 26 = .ok (.getfield 95, 3) := by decide +kernel
theorem dX11_came_29 : decode cX11_came 29 = .ok (.iload_n 1, 1) := by decide +kernel
theorem dX11_came_30 : decode cX11_came 30 = .ok (.iaload, 1) := by decide +kernel
theorem dX11_came_31 : decode cX11_came 31 = .ok (.iconst 1, 1) := by decide +kernel
theorem dX11_came_32 : decode cX11_came 32 = .ok (.if_icmp .ge 6, 3) := by decide +kernel
theorem dX11_came_35 : decode cX11_came 35 = .ok (.bipush (-2), 2) := by decide +kernel
theorem dX11_came_37 : decode cX11_came 37 = .ok (.ireturn, 1) := by decide +kernel
theorem dX11_came_38 : decode cX11_came 38 = .ok (.iconst 0, 1) := by decide +kernel
theorem dX11_came_39 : decode cX11_came 39 = .ok (.istore_n 2, 1) := by decide +kernel
theorem dX11_came_40 : decode cX11_came 40 = .ok (.iload_n 2, 1) := by decide +kernel
theorem dX11_came_41 : decode cX11_came 41 = .ok (.aload_n 0, 1) := by decide +kernel
theorem dX11_came_42 : decode cX11_came 42 = .ok (.getfield 95, 3) := by decide +kernel
theorem dX11_came_45 : decode cX11_came 45 = .ok (.iload_n 1, 1) := by decide +kernel
theorem dX11_came_46 : decode cX11_came 46 = .ok (.iaload, 1) := by decide +kernel
theorem dX11_came_47 : decode cX11_came 47 = .ok (.if_icmp .ge 63, 3) := by decide +kernel
theorem dX11_came_50 : decode cX11_came 50 = .ok (.iconst 0, 1) := by decide +kernel
theorem dX11_came_51 : decode cX11_came 51 = .ok (.istore_n 3, 1) := by decide +kernel
theorem dX11_came_52 : decode cX11_came 52 = .ok (.iconst 0, 1) := by decide +kernel
theorem dX11_came_53 : decode cX11_came 53 = .ok (.istore 4, 2) := by decide +kernel
theorem dX11_came_55 : decode cX11_came 55 = .ok (.iload 4, 2) := by decide +kernel
theorem dX11_came_57 : decode cX11_came 57 = .ok (.aload_n 0, 1) := by decide +kernel
theorem dX11_came_58 : decode cX11_came 58 = .ok (.getfield 123, 3) := by decide +kernel
theorem dX11_came_61 : decode cX11_came 61 = .ok (.if_icmp .ge 26, 3) := by decide +kernel
theorem dX11_came_64 : decode cX11_came 64 = .ok (.aload_n 0, 1) := by decide +kernel
theorem dX11_came_65 : decode cX11_came 65 = .ok (.iload 4, 2) := by decide +kernel
theorem dX11_came_67 : decode cX11_came 67 = .ok (.iload_n 2, 1) := by decide +kernel
theorem dX11_came_68 : decode cX11_came 68 = .ok (.invokevirtual 246, 3) := by decide +kernel
theorem dX11_came_71 : decode cX11_came 71 = .ok (.ifCond .eq 10, 3) := by decide +kernel
theorem dX11_came_74 : decode cX11_came 74 = .ok (.iload_n 3, 1) := by decide +kernel
theorem dX11_came_75 : decode cX11_came 75 = .ok (.iconst 1, 1) := by decide +kernel
theorem dX11_came_76 : decode cX11_came 76 = .ok (.iload 4, 2) := by decide +kernel
theorem dX11_came_78 : decode cX11_came 78 = .ok (.ishl, 1) := by decide +kernel
theorem dX11_came_79 : decode cX11_came 79 = .ok (.ior, 1) := by decide +kernel
theorem dX11_came_80 : decode cX11_came 80 = .ok (.istore_n 3, 1) := by decide +kernel
theorem dX11_came_81 : decode cX11_came 81 = .ok (.iinc 4 1, 3) := by decide +kernel
theorem dX11_came_84 : decode cX11_came 84 = .ok (.goto (-29), 3) := by decide +kernel
theorem dX11_came_87 : decode cX11_came 87 = .ok (.aload_n 0, 1) := by decide +kernel
theorem dX11_came_88 : decode cX11_came 88 = .ok (.getfield 98, 3) := by decide +kernel
theorem dX11_came_91 : decode cX11_came 91 = .ok (.bipush 40, 2) := by decide +kernel
theorem dX11_came_93 : decode cX11_came 93 = .ok (.iload_n 1, 1) := by decide +kernel
theorem dX11_came_94 : decode cX11_came 94 = .ok (.imul, 1) := by decide +kernel
theorem dX11_came_95 : decode cX11_came 95 = .ok (.iload_n 2, 1) := by decide +kernel
theorem dX11_came_96 : decode cX11_came 96 = .ok (.iadd, 1) := by decide +kernel
theorem dX11_came_97 : decode cX11_came 97 = .ok (.iaload, 1) := by decide +kernel
theorem dX11_came_98 : decode cX11_came 98 = .ok (.iload_n 3, 1) := by decide +kernel
theorem dX11_came_99 : decode cX11_came 99 = .ok (.if_icmp .eq 5, 3) := by decide +kernel
theorem dX11_came_102 : decode cX11_came 102 = .ok (.iload_n 2, 1) := by decide +kernel
theorem dX11_came_103 : decode cX11_came 103 = .ok (.ireturn, 1) := by decide +kernel
theorem dX11_came_104 : decode cX11_came 104 = .ok (.iinc 2 1, 3) := by decide +kernel
theorem dX11_came_107 : decode cX11_came 107 = .ok (.goto (-67), 3) := by decide +kernel
theorem dX11_came_110 : decode cX11_came 110 = .ok (.iconst (-1), 1) := by decide +kernel
theorem dX11_came_111 : decode cX11_came 111 = .ok (.ireturn, 1) := by decide +kernel
theorem dX11_image_0 : decode cX11_image 0 = .ok (.aload_n 0, 1) := by decide +kernel
theorem dX11_image_1 : decode cX11_image 1 = .ok (.iconst 1, 1) := by decide +kernel
theorem dX11_image_2 : decode cX11_image 2 = .ok (.putfield 292, 3) := by decide +kernel
theorem dX11_image_5 : decode cX11_image 5 = .ok (.aload_n 0, 1) := by decide +kernel
theorem dX11_image_6 : decode cX11_image 6 = .ok (.aload_n 0, 1) := by decide +kernel
theorem dX11_image_7 : decode cX11_image 7 = .ok (.getfield 123, 3) := by decide +kernel
theorem dX11_image_10 : decode cX11_image 10 = .ok (.putfield 296, 3) := by decide +kernel
theorem dX11_image_13 : decode cX11_image 13 = .ok (.aload_n 0, 1) := by decide +kernel
theorem dX11_image_14 : decode cX11_image 14 = .ok (.aload_n 0, 1) := by decide +kernel
theorem dX11_image_15 : decode cX11_image 15 = .ok (.getfield 131, 3) := by decide +kernel
theorem dX11_image_18 : decode cX11_image 18 = .ok (.putfield 299, 3) := by decide +kernel
theorem dX11_image_21 : decode cX11_image 21 = .ok (.aload_n 0, 1) := by decide +kernel
theorem dX11_image_22 : decode cX11_image 22 = .ok (.aload_n 0, 1) := by decide +kernel
theorem dX11_image_23 : decode cX11_image 23 = .ok (.getfield 278, 3) := by decide +kernel
theorem dX11_image_26 : decode cX11_image 26 = .ok (.putfield 302, 3) := by decide +kernel
theorem dX11_image_29 : decode cX11_image 29 = .ok (.aload_n 0, 1) := by decide +kernel
theorem dX11_image_30 : decode cX11_image 30 = .ok (.aload_n 0, 1) := by decide +kernel
theorem dX11_image_31 : decode cX11_image 31 = .ok (.getfield 243, 3) := by decide +kernel
theorem dX11_image_34 : decode cX11_image 34 = .ok (.putfield 305, 3) := by decide +kernel
theorem dX11_image_37 : decode cX11_image 37 = .ok (.iconst 0, 1) := by decide +kernel
theorem dX11_image_38 : decode cX11_image 38 = .ok (.istore_n 1, 1) := by decide +kernel
theorem dX11_image_39 : decode cX11_image 39 = .ok (.iload_n 1, 1) := by decide +kernel
theorem dX11_image_40 : decode cX11_image 40 = .ok (.aload_n 0, 1) := by decide +kernel
theorem dX11_image_41 : decode cX11_image 41 = .ok (.getfield 123, 3) := by decide +kernel
theorem dX11_image_44 : decode cX11_image 44 = .ok (.if_icmp .ge 57, 3) := by decide +kernel
theorem dX11_image_47 : decode cX11_image 47 = .ok (.aload_n 0, 1) := by decide +kernel
theorem dX11_image_48 : decode cX11_image 48 = .ok (.getfield 77, 3) := by decide +kernel
theorem dX11_image_51 : decode cX11_image 51 = .ok (.iload_n 1, 1) := by decide +kernel
theorem dX11_image_52 : decode cX11_image 52 = .ok (.aload_n 0, 1) := by decide +kernel
theorem dX11_image_53 : decode cX11_image 53 = .ok (.getfield 7, 3) := by decide +kernel
theorem dX11_image_56 : decode cX11_image 56 = .ok (.iload_n 1, 1) := by decide +kernel
theorem dX11_image_57 : decode cX11_image 57 = .ok (.iaload, 1) := by decide +kernel
theorem dX11_image_58 : decode cX11_image 58 = .ok (.iastore, 1) := by decide +kernel
theorem dX11_image_59 : decode cX11_image 59 = .ok (.aload_n 0, 1) := by decide +kernel
theorem dX11_image_60 : decode cX11_image 60 = .ok (.getfield 80, 3) := by decide +kernel
theorem dX11_image_63 : decode cX11_image 63 = .ok (.iload_n 1, 1) := by decide +kernel
theorem dX11_image_64 : decode cX11_image 64 = .ok (.aload_n 0, 1) := by decide +kernel
theorem dX11_image_65 : decode cX11_image 65 = .ok (.getfield 13, 3) := by decide +kernel
theorem dX11_image_68 : decode cX11_image 68 = .ok (.iload_n 1, 1) := by decide +kernel
theorem dX11_image_69 : decode cX11_image 69 = .ok (.iaload, 1) := by decide +kernel
theorem dX11_image_70 : decode cX11_image 70 = .ok (.iastore, 1) := by decide +kernel
theorem dX11_image_71 : decode cX11_image 71 = .ok (.aload_n 0, 1) := by decide +kernel
theorem dX11_image_72 : decode cX11_image 72 = .ok (.getfield 83, 3) := by decide +kernel
theorem dX11_image_75 : decode cX11_image 75 = .ok (.iload_n 1, 1) := by decide +kernel
theorem dX11_image_76 : decode cX11_image 76 = .ok (.aload_n 0, 1) := by decide +kernel
theorem dX11_image_77 : decode cX11_image 77 = .ok (.getfield 16, 3) := by decide +kernel
theorem dX11_image_80 : decode cX11_image 80 = .ok (.iload_n 1, 1) := by decide +kernel
theorem dX11_image_81 : decode cX11_image 81 = .ok (.iaload, 1) := by decide +kernel
theorem dX11_image_82 : decode cX11_image 82 = .ok (.iastore, 1) := by decide +kernel
theorem dX11_image_83 : decode cX11_image 83 = .ok (.aload_n 0, 1) := by decide +kernel
theorem dX11_image_84 : decode cX11_image 84 = .ok (.getfield 86, 3) := by decide +kernel
theorem dX11_image_87 : decode cX11_image 87 = .ok (.iload_n 1, 1) := by decide +kernel
theorem dX11_image_88 : decode cX11_image 88 = .ok (.aload_n 0, 1) := by decide +kernel
theorem dX11_image_89 : decode cX11_image 89 = .ok (.getfield 19, 3) := by decide +kernel
theorem dX11_image_92 : decode cX11_image 92 = .ok (.iload_n 1, 1) := by decide +kernel
theorem dX11_image_93 : decode cX11_image 93 = .ok (.iaload, 1) := by decide +kernel
theorem dX11_image_94 : decode cX11_image 94 = .ok (.iastore, 1) := by decide +kernel
theorem dX11_image_95 : decode cX11_image 95 = .ok (.iinc 1 1, 3) := by decide +kernel
theorem dX11_image_98 : decode cX11_image 98 = .ok (.goto (-59), 3) := by decide +kernel
theorem dX11_image_101 : decode cX11_image 101 = .ok (.iconst 0, 1) := by decide +kernel
theorem dX11_image_102 : decode cX11_image 102 = .ok (.istore_n 1, 1) := by decide +kernel
theorem dX11_image_103 : decode cX11_image 103 = .ok (.iload_n 1, 1) := by decide +kernel
theorem dX11_image_104 : decode cX11_image 104 = .ok (.aload_n 0, 1) := by decide +kernel
theorem dX11_image_105 : decode cX11_image 105 = .ok (.getfield 131, 3) := by decide +kernel
theorem dX11_image_108 : decode cX11_image 108 = .ok (.if_icmp .ge 21, 3) := by decide +kernel
theorem dX11_image_111 : decode cX11_image 111 = .ok (.aload_n 0, 1) := by decide +kernel
theorem dX11_image_112 : decode cX11_image 112 = .ok (.getfield 89, 3) := by decide +kernel
theorem dX11_image_115 : decode cX11_image 115 = .ok (.iload_n 1, 1) := by decide +kernel
theorem dX11_image_116 : decode cX11_image 116 = .ok (.aload_n 0, 1) := by decide +kernel
theorem dX11_image_117 : decode cX11_image 117 = .ok (.getfield 25, 3) := by decide +kernel
theorem dX11_image_120 : decode cX11_image 120 = .ok (.iload_n 1, 1) := by decide +kernel
theorem dX11_image_121 : decode cX11_image 121 = .ok (.iaload, 1) := by decide +kernel
theorem dX11_image_122 : decode cX11_image 122 = .ok (.iastore, 1) := by decide +kernel
theorem dX11_image_123 : decode cX11_image 123 = .ok (.iinc 1 1, 3) := by decide +kernel
theorem dX11_image_126 : decode cX11_image 126 = .ok (.goto (-23), 3) := by decide +kernel
theorem dX11_image_129 : decode cX11_image 129 = .ok (.aload_n 0, 1) := by decide +kernel
theorem dX11_image_130 : decode cX11_image 130 = .ok (.getfield 278, 3) := by decide +kernel
theorem dX11_image_133 : decode cX11_image 133 = .ok (.ireturn, 1) := by decide +kernel
theorem dX11_back_0 : decode cX11_back 0 = .ok (.aload_n 0, 1) := by decide +kernel
theorem dX11_back_1 : decode cX11_back 1 = .ok (.getfield 292, 3) := by decide +kernel
theorem dX11_back_4 : decode cX11_back 4 = .ok (.ifCond .ne 6, 3) := by decide +kernel
theorem dX11_back_7 : decode cX11_back 7 = .ok (.bipush (-3), 2) := by decide +kernel
theorem dX11_back_9 : decode cX11_back 9 = .ok (.ireturn, 1) := by decide +kernel
theorem dX11_back_10 : decode cX11_back 10 = .ok (.iconst 0, 1) := by decide +kernel
theorem dX11_back_11 : decode cX11_back 11 = .ok (.istore_n 1, 1) := by decide +kernel
theorem dX11_back_12 : decode cX11_back 12 = .ok (.iload_n 1, 1) := by decide +kernel
theorem dX11_back_13 : decode cX11_back 13 = .ok (.aload_n 0, 1) := by decide +kernel
theorem dX11_back_14 : decode cX11_back 14 = .ok (.getfield 296, 3) := by decide +kernel
theorem dX11_back_17 : decode cX11_back 17 = .ok (.if_icmp .ge 57, 3) := by decide +kernel
theorem dX11_back_20 : decode cX11_back 20 = .ok (.aload_n 0, 1) := by decide +kernel
theorem dX11_back_21 : decode cX11_back 21 = .ok (.getfield 7, 3) := by decide +kernel
theorem dX11_back_24 : decode cX11_back 24 = .ok (.iload_n 1, 1) := by decide +kernel
theorem dX11_back_25 : decode cX11_back 25 = .ok (.aload_n 0, 1) := by decide +kernel
theorem dX11_back_26 : decode cX11_back 26 = .ok (.getfield 77, 3) := by decide +kernel
theorem dX11_back_29 : decode cX11_back 29 = .ok (.iload_n 1, 1) := by decide +kernel
theorem dX11_back_30 : decode cX11_back 30 = .ok (.iaload, 1) := by decide +kernel
theorem dX11_back_31 : decode cX11_back 31 = .ok (.iastore, 1) := by decide +kernel
theorem dX11_back_32 : decode cX11_back 32 = .ok (.aload_n 0, 1) := by decide +kernel
theorem dX11_back_33 : decode cX11_back 33 = .ok (.getfield 13, 3) := by decide +kernel
theorem dX11_back_36 : decode cX11_back 36 = .ok (.iload_n 1, 1) := by decide +kernel
theorem dX11_back_37 : decode cX11_back 37 = .ok (.aload_n 0, 1) := by decide +kernel
theorem dX11_back_38 : decode cX11_back 38 = .ok (.getfield 80, 3) := by decide +kernel
theorem dX11_back_41 : decode cX11_back 41 = .ok (.iload_n 1, 1) := by decide +kernel
theorem dX11_back_42 : decode cX11_back 42 = .ok (.iaload, 1) := by decide +kernel
theorem dX11_back_43 : decode cX11_back 43 = .ok (.iastore, 1) := by decide +kernel
theorem dX11_back_44 : decode cX11_back 44 = .ok (.aload_n 0, 1) := by decide +kernel
theorem dX11_back_45 : decode cX11_back 45 = .ok (.getfield 16, 3) := by decide +kernel
theorem dX11_back_48 : decode cX11_back 48 = .ok (.iload_n 1, 1) := by decide +kernel
theorem dX11_back_49 : decode cX11_back 49 = .ok (.aload_n 0, 1) := by decide +kernel
theorem dX11_back_50 : decode cX11_back 50 = .ok (.getfield 83, 3) := by decide +kernel
theorem dX11_back_53 : decode cX11_back 53 = .ok (.iload_n 1, 1) := by decide +kernel
theorem dX11_back_54 : decode cX11_back 54 = .ok (.iaload, 1) := by decide +kernel
theorem dX11_back_55 : decode cX11_back 55 = .ok (.iastore, 1) := by decide +kernel
theorem dX11_back_56 : decode cX11_back 56 = .ok (.aload_n 0, 1) := by decide +kernel
theorem dX11_back_57 : decode cX11_back 57 = .ok (.getfield 19, 3) := by decide +kernel
theorem dX11_back_60 : decode cX11_back 60 = .ok (.iload_n 1, 1) := by decide +kernel
theorem dX11_back_61 : decode cX11_back 61 = .ok (.aload_n 0, 1) := by decide +kernel
theorem dX11_back_62 : decode cX11_back 62 = .ok (.getfield 86, 3) := by decide +kernel
theorem dX11_back_65 : decode cX11_back 65 = .ok (.iload_n 1, 1) := by decide +kernel
theorem dX11_back_66 : decode cX11_back 66 = .ok (.iaload, 1) := by decide +kernel
theorem dX11_back_67 : decode cX11_back 67 = .ok (.iastore, 1) := by decide +kernel
theorem dX11_back_68 : decode cX11_back 68 = .ok (.iinc 1 1, 3) := by decide +kernel
theorem dX11_back_71 : decode cX11_back 71 = .ok (.goto (-59), 3) := by decide +kernel
theorem dX11_back_74 : decode cX11_back 74 = .ok (.iconst 0, 1) := by decide +kernel
theorem dX11_back_75 : decode cX11_back 75 = .ok (.istore_n 1, 1) := by decide +kernel
theorem dX11_back_76 : decode cX11_back 76 = .ok (.iload_n 1, 1) := by decide +kernel
theorem dX11_back_77 : decode cX11_back 77 = .ok (.aload_n 0, 1) := by decide +kernel
theorem dX11_back_78 : decode cX11_back 78 = .ok (.getfield 299, 3) := by decide +kernel
theorem dX11_back_81 : decode cX11_back 81 = .ok (.if_icmp .ge 21, 3) := by decide +kernel
theorem dX11_back_84 : decode cX11_back 84 = .ok (.aload_n 0, 1) := by decide +kernel
theorem dX11_back_85 : decode cX11_back 85 = .ok (.getfield 25, 3) := by decide +kernel
theorem dX11_back_88 : decode cX11_back 88 = .ok (.iload_n 1, 1) := by decide +kernel
theorem dX11_back_89 : decode cX11_back 89 = .ok (.aload_n 0, 1) := by decide +kernel
theorem dX11_back_90 : decode cX11_back 90 = .ok (.getfield 89, 3) := by decide +kernel
theorem dX11_back_93 : decode cX11_back 93 = .ok (.iload_n 1, 1) := by decide +kernel
theorem dX11_back_94 : decode cX11_back 94 = .ok (.iaload, 1) := by decide +kernel
theorem dX11_back_95 : decode cX11_back 95 = .ok (.iastore, 1) := by decide +kernel
theorem dX11_back_96 : decode cX11_back 96 = .ok (.iinc 1 1, 3) := by decide +kernel
theorem dX11_back_99 : decode cX11_back 99 = .ok (.goto (-23), 3) := by decide +kernel
theorem dX11_back_102 : decode cX11_back 102 = .ok (.aload_n 0, 1) := by decide +kernel
theorem dX11_back_103 : decode cX11_back 103 = .ok (.aload_n 0, 1) := by decide +kernel
theorem dX11_back_104 : decode cX11_back 104 = .ok (.getfield 302, 3) := by decide +kernel
theorem dX11_back_107 : decode cX11_back 107 = .ok (.putfield 278, 3) := by decide +kernel
theorem dX11_back_110 : decode cX11_back 110 = .ok (.aload_n 0, 1) := by decide +kernel
theorem dX11_back_111 : decode cX11_back 111 = .ok (.aload_n 0, 1) := by decide +kernel
theorem dX11_back_112 : decode cX11_back 112 = .ok (.getfield 305, 3) := by decide +kernel
theorem dX11_back_115 : decode cX11_back 115 = .ok (.putfield 243, 3) := by decide +kernel
theorem dX11_back_118 : decode cX11_back 118 = .ok (.aload_n 0, 1) := by decide +kernel
theorem dX11_back_119 : decode cX11_back 119 = .ok (.getfield 278, 3) := by decide +kernel
theorem dX11_back_122 : decode cX11_back 122 = .ok (.ireturn, 1) := by decide +kernel
theorem dX11_count_0 : decode cX11_count 0 = .ok (.iload_n 1, 1) := by decide +kernel
theorem dX11_count_1 : decode cX11_count 1 = .ok (.tableswitch 69 0 5 #[39, 44, 49, 54, 59, 64], 39) := by decide +kernel
theorem dX11_count_40 : decode cX11_count 40 = .ok (.aload_n 0, 1) := by decide +kernel
theorem dX11_count_41 : decode cX11_count 41 = .ok (.getfield 123, 3) := by decide +kernel
theorem dX11_count_44 : decode cX11_count 44 = .ok (.ireturn, 1) := by decide +kernel
theorem dX11_count_45 : decode cX11_count 45 = .ok (.aload_n 0, 1) := by decide +kernel
theorem dX11_count_46 : decode cX11_count 46 = .ok (.getfield 131, 3) := by decide +kernel
theorem dX11_count_49 : decode cX11_count 49 = .ok (.ireturn, 1) := by decide +kernel
theorem dX11_count_50 : decode cX11_count 50 = .ok (.aload_n 0, 1) := by decide +kernel
theorem dX11_count_51 : decode cX11_count 51 = .ok (.getfield 278, 3) := by decide +kernel
theorem dX11_count_54 : decode cX11_count 54 = .ok (.ireturn, 1) := by decide +kernel
theorem dX11_count_55 : decode cX11_count 55 = .ok (.aload_n 0, 1) := by decide +kernel
theorem dX11_count_56 : decode cX11_count 56 = .ok (.getfield 187, 3) := by decide +kernel
theorem dX11_count_59 : decode cX11_count 59 = .ok (.ireturn, 1) := by decide +kernel
theorem dX11_count_60 : decode cX11_count 60 = .ok (.aload_n 0, 1) := by decide +kernel
theorem dX11_count_61 : decode cX11_count 61 = .ok (.getfield 153, 3) := by decide +kernel
theorem dX11_count_64 : decode cX11_count 64 = .ok (.ireturn, 1) := by decide +kernel
theorem dX11_count_65 : decode cX11_count 65 = .ok (.aload_n 0, 1) := by decide +kernel
theorem dX11_count_66 : decode cX11_count 66 = .ok (.getfield 243, 3) := by decide +kernel
theorem dX11_count_69 : decode cX11_count 69 = .ok (.ireturn, 1) := by decide +kernel
theorem dX11_count_70 : decode cX11_count 70 = .ok (.bipush (-2), 2) := by decide +kernel
theorem dX11_count_72 : decode cX11_count 72 = .ok (.ireturn, 1) := by decide +kernel
theorem dX11_sheet_0 : decode cX11_sheet 0 = .ok (.iload_n 1, 1) := by decide +kernel
theorem dX11_sheet_1 : decode cX11_sheet 1 = .ok (.iconst 0, 1) := by decide +kernel
theorem dX11_sheet_2 : decode cX11_sheet 2 = .ok (.iconst 3, 1) := by decide +kernel
theorem dX11_sheet_3 : decode cX11_sheet 3 = .ok (.invokestatic 127, 3) := by decide +kernel
theorem dX11_sheet_6 : decode cX11_sheet 6 = .ok (.ifCond .eq 12, 3) := by decide +kernel
theorem dX11_sheet_9 : decode cX11_sheet 9 = .ok (.iload_n 2, 1) := by decide +kernel
theorem dX11_sheet_10 : decode cX11_sheet 10 = .ok (.iconst (-1), 1) := by decide +kernel
theorem dX11_sheet_11 : decode cX11_sheet 11 = .ok (.iconst 2, 1) := by decide +kernel
theorem dX11_sheet_12 : decode cX11_sheet 12 = .ok (.invokestatic 127, 3) := by decide +kernel
theorem dX11_sheet_15 : decode cX11_sheet 15 = .ok (.ifCond .ne 6, 3) := by decide +kernel
theorem dX11_sheet_18 : decode cX11_sheet 18 = .ok (.bipush (-2), 2) := by decide +kernel
theorem dX11_sheet_20 : decode cX11_sheet 20 = .ok (.ireturn, 1) := by decide +kernel
theorem dX11_sheet_21 : decode cX11_sheet 21 = .ok (.iload_n 2, 1) := by decide +kernel
theorem dX11_sheet_22 : decode cX11_sheet 22 = .ok (.iconst (-1), 1) := by decide +kernel
theorem dX11_sheet_23 : decode cX11_sheet 23 = .ok (.if_icmp .ne 12, 3) := by decide +kernel
theorem dX11_sheet_26 : decode cX11_sheet 26 = .ok (.aload_n 0, 1) := by decide +kernel
theorem dX11_sheet_27 : decode cX11_sheet 27 = .ok (.getfield 92, 3) := by decide +kernel
theorem dX11_sheet_30 : decode cX11_sheet 30 = .ok (.iload_n 1, 1) := by decide +kernel
theorem dX11_sheet_31 : decode cX11_sheet 31 = .ok (.iconst (-1), 1) := by decide +kernel
theorem dX11_sheet_32 : decode cX11_sheet 32 = .ok (.iastore, 1) := by decide +kernel
theorem dX11_sheet_33 : decode cX11_sheet 33 = .ok (.iconst 1, 1) := by decide +kernel
theorem dX11_sheet_34 : decode cX11_sheet 34 = .ok (.ireturn, 1) := by decide +kernel
theorem dX11_sheet_35 : decode cX11_sheet 35 = .ok (.iload_n 3, 1) := by decide +kernel
theorem dX11_sheet_36 : decode cX11_sheet 36 = .ok (.bipush 40, 2) := by decide +kernel
theorem dX11_sheet_38 : decode cX11_sheet 38 = .ok (.if_icmp .le 6, 3) := by decide +kernel
theorem dX11_sheet_41 : decode cX11_sheet 41 = .ok (.bipush (-2), 2) := by decide +kernel
theorem dX11_sheet_43 : decode cX11_sheet 43 = .ok (.ireturn, 1) := by decide +kernel
theorem dX11_sheet_44 : decode cX11_sheet 44 = .ok (.iload_n 3, 1) := by decide +kernel
theorem dX11_sheet_45 : decode cX11_sheet 45 = .ok (.ifCond .ge 6, 3) := by decide +kernel
theorem dX11_sheet_48 : decode cX11_sheet 48 = .ok (.bipush (-14), 2) := by decide +kernel
theorem dX11_sheet_50 : decode cX11_sheet 50 = .ok (.ireturn, 1) := by decide +kernel
theorem dX11_sheet_51 : decode cX11_sheet 51 = .ok (.aload_n 0, 1) := by decide +kernel
theorem dX11_sheet_52 : decode cX11_sheet 52 = .ok (.getfield 92, 3) := by decide +kernel
theorem dX11_sheet_55 : decode cX11_sheet 55 = .ok (.iload_n 1, 1) := by decide +kernel
theorem dX11_sheet_56 : decode cX11_sheet 56 = .ok (.iload_n 2, 1) := by decide +kernel
theorem dX11_sheet_57 : decode cX11_sheet 57 = .ok (.iastore, 1) := by decide +kernel
theorem dX11_sheet_58 : decode cX11_sheet 58 = .ok (.aload_n 0, 1) := by decide +kernel
theorem dX11_sheet_59 : decode cX11_sheet 59 = .ok (.getfield 95, 3) := by decide +kernel
theorem dX11_sheet_62 : decode cX11_sheet 62 = .ok (.iload_n 1, 1) := by decide +kernel
theorem dX11_sheet_63 : decode cX11_sheet 63 = .ok (.iload_n 3, 1) := by decide +kernel
theorem dX11_sheet_64 : decode cX11_sheet 64 = .ok (.iastore, 1) := by decide +kernel
theorem dX11_sheet_65 : decode cX11_sheet 65 = .ok (.iconst 0, 1) := by decide +kernel
theorem dX11_sheet_66 : decode cX11_sheet 66 = .ok (.istore 4, 2) := by decide +kernel
theorem dX11_sheet_68 : decode cX11_sheet 68 = .ok (.iload 4, 2) := by decide +kernel
theorem dX11_sheet_70 : decode cX11_sheet 70 = .ok (.bipush 40, 2) := by decide +kernel
theorem dX11_sheet_72 : decode cX11_sheet 72 = .ok (.if_icmp .ge 22, 3) := by decide +kernel
theorem dX11_sheet_75 : decode cX11_sheet 75 = .ok (.aload_n 0, 1) := by decide +kernel
theorem dX11_sheet_76 : decode cX11_sheet 76 = .ok (.getfield 98, 3) := by decide +kernel
theorem dX11_sheet_79 : decode cX11_sheet 79 = .ok (.bipush 40, 2) := by decide +kernel
theorem dX11_sheet_81 : decode cX11_sheet 81 = .ok (.iload_n 1, 1) := by decide +kernel
theorem dX11_sheet_82 : decode cX11_sheet 82 = .ok (.imul, 1) := by decide +kernel
theorem dX11_sheet_83 : decode cX11_sheet 83 = .ok (.iload 4, 2) := by decide +kernel
theorem dX11_sheet_85 : decode cX11_sheet 85 = .ok (.iadd, 1) := by decide +kernel
theorem dX11_sheet_86 : decode cX11_sheet 86 = .ok (.iconst 0, 1) := by decide +kernel
theorem dX11_sheet_87 : decode cX11_sheet 87 = .ok (.iastore, 1) := by decide +kernel
theorem dX11_sheet_88 : decode cX11_sheet 88 = .ok (.iinc 4 1, 3) := by decide +kernel
theorem dX11_sheet_91 : decode cX11_sheet 91 = .ok (.goto (-23), 3) := by decide +kernel
theorem dX11_sheet_94 : decode cX11_sheet 94 = .ok (.iconst 1, 1) := by decide +kernel
theorem dX11_sheet_95 : decode cX11_sheet 95 = .ok (.ireturn, 1) := by decide +kernel
theorem dX11_cell_0 : decode cX11_cell 0 = .ok (.iload_n 1, 1) := by decide +kernel
theorem dX11_cell_1 : decode cX11_cell 1 = .ok (.iconst 0, 1) := by decide +kernel
theorem dX11_cell_2 : decode cX11_cell 2 = .ok (.iconst 3, 1) := by decide +kernel
theorem dX11_cell_3 : decode cX11_cell 3 = .ok (.invokestatic 127, 3) := by decide +kernel
theorem dX11_cell_6 : decode cX11_cell 6 = .ok (.ifCond .ne 6, 3) := by decide +kernel
theorem dX11_cell_9 : decode cX11_cell 9 = .ok (.bipush (-2), 2) := by decide +kernel
theorem dX11_cell_11 : decode cX11_cell 11 = .ok (.ireturn, 1) := by decide +kernel
theorem dX11_cell_12 : decode cX11_cell 12 = .ok (.aload_n 0, 1) := by decide +kernel
theorem dX11_cell_13 : decode cX11_cell 13 = .ok (.getfield 92, 3) := by decide +kernel
theorem dX11_cell_16 : decode cX11_cell 16 = .ok (.iload_n 1, 1) := by decide +kernel
theorem dX11_cell_17 : decode cX11_cell 17 = .ok (.iaload, 1) := by decide +kernel
theorem dX11_cell_18 : decode cX11_cell 18 = .ok (.iconst (-1), 1) := by decide +kernel
theorem dX11_cell_19 : decode cX11_cell 19 = .ok (.if_icmp .ne 6, 3) := by decide +kernel
theorem dX11_cell_22 : decode cX11_cell 22 = .ok (.bipush (-11), 2) := by decide +kernel
theorem dX11_cell_24 : decode cX11_cell 24 = .ok (.ireturn, 1) := by decide +kernel
theorem dX11_cell_25 : decode cX11_cell 25 = .ok (.iload_n 2, 1) := by decide +kernel
theorem dX11_cell_26 : decode cX11_cell 26 = .ok (.iconst 0, 1) := by decide +kernel
theorem dX11_cell_27 : decode cX11_cell 27 = .ok (.aload_n 0, 1) := by decide +kernel
theorem dX11_cell_28 : decode cX11_cell 28 = .ok (.getfield 95, 3) := by decide +kernel
theorem dX11_cell_31 : decode cX11_cell 31 = .ok (.iload_n 1, 1) := by decide +kernel
theorem dX11_cell_32 : decode cX11_cell 32 = .ok (.iaload, 1) := by decide +kernel
theorem dX11_cell_33 : decode cX11_cell 33 = .ok (.iconst 1, 1) := by decide +kernel
theorem dX11_cell_34 : decode cX11_cell 34 = .ok (.isub, 1) := by decide +kernel
theorem dX11_cell_35 : decode cX11_cell 35 = .ok (.invokestatic 127, 3) := by decide +kernel
theorem dX11_cell_38 : decode cX11_cell 38 = .ok (.ifCond .ne 6, 3) := by decide +kernel
theorem dX11_cell_41 : decode cX11_cell 41 = .ok (.bipush (-12), 2) := by decide +kernel
theorem dX11_cell_43 : decode cX11_cell 43 = .ok (.ireturn, 1) := by decide +kernel
theorem dX11_cell_44 : decode cX11_cell 44 = .ok (.aload_n 0, 1) := by decide +kernel
theorem dX11_cell_45 : decode cX11_cell 45 = .ok (.getfield 98, 3) := by decide +kernel
theorem dX11_cell_48 : decode cX11_cell 48 = .ok (.bipush 40, 2) := by decide +kernel
theorem dX11_cell_50 : decode cX11_cell 50 = .ok (.iload_n 1, 1) := by decide +kernel
theorem dX11_cell_51 : decode cX11_cell 51 = .ok (.imul, 1) := by decide +kernel
theorem dX11_cell_52 : decode cX11_cell 52 = .ok (.iload_n 2, 1) := by decide +kernel
theorem dX11_cell_53 : decode cX11_cell 53 = .ok (.iadd, 1) := by decide +kernel
theorem dX11_cell_54 : decode cX11_cell 54 = .ok (.aload_n 0, 1) := by decide +kernel
theorem dX11_cell_55 : decode cX11_cell 55 = .ok (.getfield 92, 3) := by decide +kernel
theorem dX11_cell_58 : decode cX11_cell 58 = .ok (.iload_n 1, 1) := by decide +kernel
theorem dX11_cell_59 : decode cX11_cell 59 = .ok (.iaload, 1) := by decide +kernel
theorem dX11_cell_60 : decode cX11_cell 60 = .ok (.ifCond .ne 8, 3) := by decide +kernel
theorem dX11_cell_63 : decode cX11_cell 63 = .ok (.iload_n 3, 1) := by decide +kernel
theorem dX11_cell_64 : decode cX11_cell 64 = .ok (.i2b, 1) := by decide +kernel
theorem dX11_cell_65 : decode cX11_cell 65 = .ok (.goto 19, 3) := by decide +kernel
theorem dX11_cell_68 : decode cX11_cell 68 = .ok (.aload_n 0, 1) := by decide +kernel
theorem dX11_cell_69 : decode cX11_cell 69 = .ok (.getfield 92, 3) := by decide +kernel
theorem dX11_cell_72 : decode cX11_cell 72 = .ok (.iload_n 1, 1) := by decide +kernel
theorem dX11_cell_73 : decode cX11_cell 73 = .ok (.iaload, 1) := by decide +kernel
theorem dX11_cell_74 : decode cX11_cell 74 = .ok (.iconst 1, 1) := by decide +kernel
theorem dX11_cell_75 : decode cX11_cell 75 = .ok (.if_icmp .ne 8, 3) := by decide +kernel
theorem dX11_cell_78 : decode cX11_cell 78 = .ok (.iload_n 3, 1) := by decide +kernel
theorem dX11_cell_79 : decode cX11_cell 79 = .ok (.i2s, 1) := by decide +kernel
theorem dX11_cell_80 : decode cX11_cell 80 = .ok (.goto 4, 3) := by decide +kernel
theorem dX11_cell_83 : decode cX11_cell 83 = .ok (.iload_n 3, 1) := by decide +kernel
theorem dX11_cell_84 : decode cX11_cell 84 = .ok (.iastore, 1) := by decide +kernel
theorem dX11_cell_85 : decode cX11_cell 85 = .ok (.iconst 1, 1) := by decide +kernel
theorem dX11_cell_86 : decode cX11_cell 86 = .ok (.ireturn, 1) := by decide +kernel
theorem dX11_copy_0 : decode cX11_copy 0 = .ok (.iload_n 1, 1) := by decide +kernel
theorem dX11_copy_1 : decode cX11_copy 1 = .ok (.iconst 0, 1) := by decide +kernel
theorem dX11_copy_2 : decode cX11_copy 2 = .ok (.iconst 3, 1) := by decide +kernel
theorem dX11_copy_3 : decode cX11_copy 3 = .ok (.invokestatic 127, 3) := by decide +kernel
theorem dX11_copy_6 : decode cX11_copy 6 = .ok (.ifCond .eq 12, 3) := by decide +kernel
theorem dX11_copy_9 : decode cX11_copy 9 = .ok (.iload_n 3, 1) := by decide +kernel
theorem dX11_copy_10 : decode cX11_copy 10 = .ok (.iconst 0, 1) := by decide +kernel
theorem dX11_copy_11 : decode cX11_copy 11 = .ok (.iconst 3, 1) := by decide +kernel
theorem dX11_copy_12 : decode cX11_copy 12 = .ok (.invokestatic 127, 3) := by decide +kernel
theorem dX11_copy_15 : decode cX11_copy 15 = .ok (.ifCond .ne 6, 3) := by decide +kernel
theorem dX11_copy_18 : decode cX11_copy 18 = .ok (.bipush (-2), 2) := by decide +kernel
theorem dX11_copy_20 : decode cX11_copy 20 = .ok (.ireturn, 1) := by decide +kernel
theorem dX11_copy_21 : decode cX11_copy 21 = .ok (.aload_n 0, 1) := by decide +kernel
theorem dX11_copy_22 : decode cX11_copy 22 = .ok (.getfield 92, 3) := by decide +kernel
theorem dX11_copy_25 : decode cX11_copy 25 = .ok (.iload_n 1, 1) := by decide +kernel
theorem dX11_copy_26 : decode cX11_copy 26 = .ok (.iaload, 1) := by decide +kernel
theorem dX11_copy_27 : decode cX11_copy 27 = .ok (.iconst (-1), 1) := by decide +kernel
theorem dX11_copy_28 : decode cX11_copy 28 = .ok (.if_icmp .eq 13, 3) := by decide +kernel
theorem dX11_copy_31 : decode cX11_copy 31 = .ok (.aload_n 0, 1) := by decide +kernel
theorem dX11_copy_32 : decode cX11_copy 32 = .ok (.getfield 92, 3) := by decide +kernel
theorem dX11_copy_35 : decode cX11_copy 35 = .ok (.iload_n 3, 1) := by decide +kernel
theorem dX11_copy_36 : decode cX11_copy 36 = .ok (.iaload, 1) := by decide +kernel
theorem dX11_copy_37 : decode cX11_copy 37 = .ok (.iconst (-1), 1) := by decide +kernel
theorem dX11_copy_38 : decode cX11_copy 38 = .ok (.if_icmp .ne 6, 3) := by decide +kernel
theorem dX11_copy_41 : decode cX11_copy 41 = .ok (.bipush (-11), 2) := by decide +kernel
theorem dX11_copy_43 : decode cX11_copy 43 = .ok (.ireturn, 1) := by decide +kernel
theorem dX11_copy_44 : decode cX11_copy 44 = .ok (.aload_n 0, 1) := by decide +kernel
theorem dX11_copy_45 : decode cX11_copy 45 = .ok (.getfield 92, 3) := by decide +kernel
theorem dX11_copy_48 : decode cX11_copy 48 = .ok (.iload_n 1, 1) := by decide +kernel
theorem dX11_copy_49 : decode cX11_copy 49 = .ok (.iaload, 1) := by decide +kernel
theorem dX11_copy_50 : decode cX11_copy 50 = .ok (.aload_n 0, 1) := by decide +kernel
theorem dX11_copy_51 : decode cX11_copy 51 = .ok (.getfield 92, 3) := by decide +kernel
theorem dX11_copy_54 : decode cX11_copy 54 = .ok (.iload_n 3, 1) := by decide +kernel
theorem dX11_copy_55 : decode cX11_copy 55 = .ok (.iaload, 1) := by decide +kernel
theorem dX11_copy_56 : decode cX11_copy 56 = .ok (.if_icmp .eq 6, 3) := by decide +kernel
theorem dX11_copy_59 : decode cX11_copy 59 = .ok (.bipush (-13), 2) := by decide +kernel
theorem dX11_copy_61 : decode cX11_copy 61 = .ok (.ireturn, 1) := by decide +kernel
theorem dX11_copy_62 : decode cX11_copy 62 = .ok (.iload_n 2, 1) := by decide +kernel
theorem dX11_copy_63 : decode cX11_copy 63 = .ok (.ifCond .lt 48, 3) := by decide +kernel
theorem dX11_copy_66 : decode cX11_copy 66 = .ok (.iload 4, 2) := by decide +kernel
theorem dX11_copy_68 : decode cX11_copy 68 = .ok (.ifCond .lt 43, 3) := by decide +kernel
theorem dX11_copy_71 : decode cX11_copy 71 = .ok (.iload 5, 2) := by decide +kernel
theorem dX11_copy_73 : decode cX11_copy 73 = .ok (.ifCond .lt 38, 3) := by decide +kernel
theorem dX11_copy_76 : decode cX11_copy 76 = .ok (.iload_n 2, 1) := by decide +kernel
theorem dX11_copy_77 : decode cX11_copy 77 = .ok (.i2l, 1) := by decide +kernel
theorem dX11_copy_78 : decode cX11_copy 78 = .ok (.iload 5, 2) := by decide +kernel
theorem dX11_copy_80 : decode cX11_copy 80 = .ok (.i2l, 1) := by decide +kernel
theorem dX11_copy_81 : decode cX11_copy 81 = .ok (.ladd, 1) := by decide +kernel
theorem dX11_copy_82 : decode cX11_copy 82 = .ok (.aload_n 0, 1) := by decide +kernel
theorem dX11_copy_83 : decode cX11_copy 83 = .ok (.getfield 95, 3) := by decide +kernel
theorem dX11_copy_86 : decode cX11_copy 86 = .ok (.iload_n 1, 1) := by decide +kernel
theorem dX11_copy_87 : decode cX11_copy 87 = .ok (.iaload, 1) := by decide +kernel
theorem dX11_copy_88 : decode cX11_copy 88 = .ok (.i2l, 1) := by decide +kernel
theorem dX11_copy_89 : decode cX11_copy 89 = .ok (.lcmp, 1) := by decide +kernel
theorem dX11_copy_90 : decode cX11_copy 90 = .ok (.ifCond .gt 21, 3) := by decide +kernel
theorem dX11_copy_93 : decode cX11_copy 93 = .ok (.iload 4, 2) := by decide +kernel
theorem dX11_copy_95 : decode cX11_copy 95 = .ok (.i2l, 1) := by decide +kernel
theorem dX11_copy_96 : decode cX11_copy 96 = .ok (.iload 5, 2) := by decide +kernel
theorem dX11_copy_98 : decode cX11_copy 98 = .ok (.i2l, 1) := by decide +kernel
theorem dX11_copy_99 : decode cX11_copy 99 = .ok (.ladd, 1) := by decide +kernel
theorem dX11_copy_100 : decode cX11_copy 100 = .ok (.aload_n 0, 1) := by decide +kernel
theorem dX11_copy_101 : decode cX11_copy 101 = .ok (.getfield 95, 3) := by decide +kernel
theorem dX11_copy_104 : decode cX11_copy 104 = .ok (.iload_n 3, 1) := by decide +kernel
theorem dX11_copy_105 : decode cX11_copy 105 = .ok (.iaload, 1) := by decide +kernel
theorem dX11_copy_106 : decode cX11_copy 106 = .ok (.i2l, 1) := by decide +kernel
theorem dX11_copy_107 : decode cX11_copy 107 = .ok (.lcmp, 1) := by decide +kernel
theorem dX11_copy_108 : decode cX11_copy 108 = .ok (.ifCond .le 6, 3) := by decide +kernel
theorem dX11_copy_111 : decode cX11_copy 111 = .ok (.bipush (-12), 2) := by decide +kernel
theorem dX11_copy_113 : decode cX11_copy 113 = .ok (.ireturn, 1) := by decide +kernel
theorem dX11_copy_114 : decode cX11_copy 114 = .ok (.iconst 0, 1) := by decide +kernel
theorem dX11_copy_115 : decode cX11_copy 115 = .ok (.istore 6, 2) := by decide +kernel
theorem dX11_copy_117 : decode cX11_copy 117 = .ok (.iload 6, 2) := by decide +kernel
theorem dX11_copy_119 : decode cX11_copy 119 = .ok (.iload 5, 2) := by decide +kernel
theorem dX11_copy_121 : decode cX11_copy 121 = .ok (.if_icmp .ge 30, 3) := by decide +kernel
theorem dX11_copy_124 : decode cX11_copy 124 = .ok (.aload_n 0, 1) := by decide +kernel
theorem dX11_copy_125 : decode cX11_copy 125 = .ok (.getfield 101, 3) := by decide +kernel
theorem dX11_copy_128 : decode cX11_copy 128 = .ok (.iload 6, 2) := by decide +kernel
theorem dX11_copy_130 : decode cX11_copy 130 = .ok (.aload_n 0, 1) := by decide +kernel
theorem dX11_copy_131 : decode cX11_copy 131 = .ok (.getfield 98, 3) := by decide +kernel
theorem dX11_copy_134 : decode cX11_copy 134 = .ok (.bipush 40, 2) := by decide +kernel
theorem dX11_copy_136 : decode cX11_copy 136 = .ok (.iload_n 1, 1) := by decide +kernel
theorem dX11_copy_137 : decode cX11_copy 137 = .ok (.imul, 1) := by decide +kernel
theorem dX11_copy_138 : decode cX11_copy 138 = .ok (.iload_n 2, 1) := by decide +kernel
theorem dX11_copy_139 : decode cX11_copy 139 = .ok (.iadd, 1) := by decide +kernel
theorem dX11_copy_140 : decode cX11_copy 140 = .ok (.iload 6, 2) := by decide +kernel
theorem dX11_copy_142 : decode cX11_copy 142 = .ok (.iadd, 1) := by decide +kernel
theorem dX11_copy_143 : decode cX11_copy 143 = .ok (.iaload, 1) := by decide +kernel
theorem dX11_copy_144 : decode cX11_copy 144 = .ok (.iastore, 1) := by decide +kernel
theorem dX11_copy_145 : decode cX11_copy 145 = .ok (.iinc 6 1, 3) := by decide +kernel
theorem dX11_copy_148 : decode cX11_copy 148 = .ok (.goto (-31), 3) := by decide +kernel
theorem dX11_copy_151 : decode cX11_copy 151 = .ok (.iconst 0, 1) := by decide +kernel
theorem dX11_copy_152 : decode cX11_copy 152 = .ok (.istore 6, 2) := by decide +kernel
theorem dX11_copy_154 : decode cX11_copy 154 = .ok (.iload 6, 2) := by decide +kernel
theorem dX11_copy_156 : decode cX11_copy 156 = .ok (.iload 5, 2) := by decide +kernel
theorem dX11_copy_158 : decode cX11_copy 158 = .ok (.if_icmp .ge 31, 3) := by decide +kernel
theorem dX11_copy_161 : decode cX11_copy 161 = .ok (.aload_n 0, 1) := by decide +kernel
theorem dX11_copy_162 : decode cX11_copy 162 = .ok (.getfield 98, 3) := by decide +kernel
theorem dX11_copy_165 : decode cX11_copy 165 = .ok (.bipush 40, 2) := by decide +kernel
theorem dX11_copy_167 : decode cX11_copy 167 = .ok (.iload_n 3, 1) := by decide +kernel
theorem dX11_copy_168 : decode cX11_copy 168 = .ok (.imul, 1) := by decide +kernel
theorem dX11_copy_169 : decode cX11_copy 169 = .ok (.iload 4, 2) := by decide +kernel
theorem dX11_copy_171 : decode cX11_copy 171 = .ok (.iadd, 1) := by decide +kernel
theorem dX11_copy_172 : decode cX11_copy 172 = .ok (.iload 6, 2) := by decide +kernel
theorem dX11_copy_174 : decode cX11_copy 174 = .ok (.iadd, 1) := by decide +kernel
theorem dX11_copy_175 : decode cX11_copy 175 = .ok (.aload_n 0, 1) := by decide +kernel
theorem dX11_copy_176 : decode cX11_copy 176 = .ok (.getfield 101, 3) := by decide +kernel
theorem dX11_copy_179 : decode cX11_copy 179 = .ok (.iload 6, 2) := by decide +kernel
theorem dX11_copy_181 : decode cX11_copy 181 = .ok (.iaload, 1) := by decide +kernel
theorem dX11_copy_182 : decode cX11_copy 182 = .ok (.iastore, 1) := by decide +kernel
theorem dX11_copy_183 : decode cX11_copy 183 = .ok (.iinc 6 1, 3) := by decide +kernel
theorem dX11_copy_186 : decode cX11_copy 186 = .ok (.goto (-32), 3) := by decide +kernel
theorem dX11_copy_189 : decode cX11_copy 189 = .ok (.iload 5, 2) := by decide +kernel
theorem dX11_copy_191 : decode cX11_copy 191 = .ok (.ireturn, 1) := by decide +kernel
theorem dX11_notes_0 : decode cX11_notes 0 = .ok (.iload_n 1, 1) := by decide +kernel
theorem dX11_notes_1 : decode cX11_notes 1 = .ok (.iconst 0, 1) := by decide +kernel
theorem dX11_notes_2 : decode cX11_notes 2 = .ok (.iconst 3, 1) := by decide +kernel
theorem dX11_notes_3 : decode cX11_notes 3 = .ok (.invokestatic 127, 3) := by decide +kernel
theorem dX11_notes_6 : decode cX11_notes 6 = .ok (.ifCond .eq 23, 3) := by decide +kernel
theorem dX11_notes_9 : decode cX11_notes 9 = .ok (.iload_n 2, 1) := by decide +kernel
theorem dX11_notes_10 : decode cX11_notes 10 = .ok (.iconst 0, 1) := by decide +kernel
theorem dX11_notes_11 : decode cX11_notes 11 = .ok (.iconst 2, 1) := by decide +kernel
theorem dX11_notes_12 : decode cX11_notes 12 = .ok (.invokestatic 127, 3) := by decide +kernel
theorem dX11_notes_15 : decode cX11_notes 15 = .ok (.ifCond .eq 14, 3) := by decide +kernel
theorem dX11_notes_18 : decode cX11_notes 18 = .ok (.iload 4, 2) := by decide +kernel
theorem dX11_notes_20 : decode cX11_notes 20 = .ok (.iconst 0, 1) := by decide +kernel
theorem dX11_notes_21 : decode cX11_notes 21 = .ok (.bipush 10, 2) := by decide +kernel
theorem dX11_notes_23 : decode cX11_notes 23 = .ok (.invokestatic 127, 3) := by decide +kernel
theorem dX11_notes_26 : decode cX11_notes 26 = .ok (.ifCond .ne 6, 3) := by decide +kernel
theorem dX11_notes_29 : decode cX11_notes 29 = .ok (.bipush (-2), 2) := by decide +kernel
theorem dX11_notes_31 : decode cX11_notes 31 = .ok (.ireturn, 1) := by decide +kernel
theorem dX11_notes_32 : decode cX11_notes 32 = .ok (.aload_n 0, 1) := by decide +kernel
theorem dX11_notes_33 : decode cX11_notes 33 = .ok (.getfield 92, 3) := by decide +kernel
theorem dX11_notes_36 : decode cX11_notes 36 = .ok (.iload_n 1, 1) := by decide +kernel
theorem dX11_notes_37 : decode cX11_notes 37 = .ok (.iaload, 1) := by decide +kernel
theorem dX11_notes_38 : decode cX11_notes 38 = .ok (.iconst (-1), 1) := by decide +kernel
theorem dX11_notes_39 : decode cX11_notes 39 = .ok (.if_icmp .ne 6, 3) := by decide +kernel
theorem dX11_notes_42 : decode cX11_notes 42 = .ok (.bipush (-11), 2) := by decide +kernel
theorem dX11_notes_44 : decode cX11_notes 44 = .ok (.ireturn, 1) := by decide +kernel
theorem dX11_notes_45 : decode cX11_notes 45 = .ok (.aload_n 0, 1) := by decide +kernel
theorem dX11_notes_46 : decode cX11_notes 46 = .ok (.getfield 92, 3) := by decide +kernel
theorem dX11_notes_49 : decode cX11_notes 49 = .ok (.iload_n 1, 1) := by decide +kernel
theorem dX11_notes_50 : decode cX11_notes 50 = .ok (.iaload, 1) := by decide +kernel
theorem dX11_notes_51 : decode cX11_notes 51 = .ok (.iload_n 2, 1) := by decide +kernel
theorem dX11_notes_52 : decode cX11_notes 52 = .ok (.if_icmp .eq 6, 3) := by decide +kernel
theorem dX11_notes_55 : decode cX11_notes 55 = .ok (.bipush (-13), 2) := by decide +kernel
theorem dX11_notes_57 : decode cX11_notes 57 = .ok (.ireturn, 1) := by decide +kernel
theorem dX11_notes_58 : decode cX11_notes 58 = .ok (.iconst 0, 1) := by decide +kernel
theorem dX11_notes_59 : decode cX11_notes 59 = .ok (.istore 5, 2) := by decide +kernel
theorem dX11_notes_61 : decode cX11_notes 61 = .ok (.iconst 0, 1) := by decide +kernel
theorem dX11_notes_62 : decode cX11_notes 62 = .ok (.istore 6, 2) := by decide +kernel
theorem dX11_notes_64 : decode cX11_notes 64 = .ok (.iload 6, 2) := by decide +kernel
theorem dX11_notes_66 : decode cX11_notes 66 = .ok (.iload 4, 2) := by decide +kernel
theorem dX11_notes_68 : decode cX11_notes 68 = .ok (.if_icmp .ge 93, 3) := by decide +kernel
theorem dX11_notes_71 : decode cX11_notes 71 = .ok (.iload_n 3, 1) := by decide +kernel
theorem dX11_notes_72 : decode cX11_notes 72 = .ok (.i2l, 1) := by decide +kernel
theorem dX11_notes_73 : decode cX11_notes 73 = .ok (.ldc2_w 308, 3) := by decide +kernel
theorem dX11_notes_76 : decode cX11_notes 76 = .ok (.iload 6, 2) := by decide +kernel
theorem dX11_notes_78 : decode cX11_notes 78 = .ok (.i2l, 1) := by decide +kernel
theorem dX11_notes_79 : decode cX11_notes 79 = .ok (.lmul, 1) := by decide +kernel
theorem dX11_notes_80 : decode cX11_notes 80 = .ok (.ladd, 1) := by decide +kernel
theorem dX11_notes_81 : decode cX11_notes 81 = .ok (.lstore 7, 2) := by decide +kernel
theorem dX11_notes_83 : decode cX11_notes 83 = .ok (.lload 7, 2) := by decide +kernel
theorem dX11_notes_85 : decode cX11_notes 85 = .ok (.lconst 0, 1) := by decide +kernel
theorem dX11_notes_86 : decode cX11_notes 86 = .ok (.lcmp, 1) := by decide +kernel
theorem dX11_notes_87 : decode cX11_notes 87 = .ok (.ifCond .lt 20, 3) := by decide +kernel
theorem dX11_notes_90 : decode cX11_notes 90 = .ok (.lload 7, 2) := by decide +kernel
theorem dX11_notes_92 : decode cX11_notes 92 = .ok (.ldc2_w 310, 3) := by decide +kernel
theorem dX11_notes_95 : decode cX11_notes 95 = .ok (.ladd, 1) := by decide +kernel
theorem dX11_notes_96 : decode cX11_notes 96 = .ok (.aload_n 0, 1) := by decide +kernel
theorem dX11_notes_97 : decode cX11_notes 97 = .ok (.getfield 95, 3) := by decide +kernel
theorem dX11_notes_100 : decode cX11_notes 100 = .ok (.iload_n 1, 1) := by decide +kernel
theorem dX11_notes_101 : decode cX11_notes 101 = .ok (.iaload, 1) := by decide +kernel
theorem dX11_notes_102 : decode cX11_notes 102 = .ok (.i2l, 1) := by decide +kernel
theorem dX11_notes_103 : decode cX11_notes 103 = .ok (.lcmp, 1) := by decide +kernel
theorem dX11_notes_104 : decode cX11_notes 104 = .ok (.ifCond .lt 6, 3) := by decide +kernel
theorem dX11_notes_107 : decode cX11_notes 107 = .ok (.bipush (-12), 2) := by decide +kernel
theorem dX11_notes_109 : decode cX11_notes 109 = .ok (.ireturn, 1) := by decide +kernel
theorem dX11_notes_110 : decode cX11_notes 110 = .ok (.bipush 40, 2) := by decide +kernel
theorem dX11_notes_112 : decode cX11_notes 112 = .ok (.iload_n 1, 1) := by decide +kernel
theorem dX11_notes_113 : decode cX11_notes 113 = .ok (.imul, 1) := by decide +kernel
theorem dX11_notes_114 : decode cX11_notes 114 = .ok (.lload 7, 2) := by decide +kernel
theorem dX11_notes_116 : decode cX11_notes 116 = .ok (.l2i, 1) := by decide +kernel
theorem dX11_notes_117 : decode cX11_notes 117 = .ok (.iadd, 1) := by decide +kernel
theorem dX11_notes_118 : decode cX11_notes 118 = .ok (.istore 9, 2) := by decide +kernel
theorem dX11_notes_120 : decode cX11_notes 120 = .ok (.aload_n 0, 1) := by decide +kernel
theorem dX11_notes_121 : decode cX11_notes 121 = .ok (.aload_n 0, 1) := by decide +kernel
theorem dX11_notes_122 : decode cX11_notes 122 = .ok (.getfield 98, 3) := by decide +kernel
theorem dX11_notes_125 : decode cX11_notes 125 = .ok (.iload 9, 2) := by decide +kernel
theorem dX11_notes_127 : decode cX11_notes 127 = .ok (.iaload, 1) := by decide +kernel
theorem dX11_notes_128 : decode cX11_notes 128 = .ok (.aload_n 0, 1) := by decide +kernel
theorem dX11_notes_129 : decode cX11_notes 129 = .ok (.getfield 98, 3) := by decide +kernel
theorem dX11_notes_132 : decode cX11_notes 132 = .ok (.iload 9, 2) := by decide +kernel
theorem dX11_notes_134 : decode cX11_notes 134 = .ok (.iconst 1, 1) := by decide +kernel
theorem dX11_notes_135 : decode cX11_notes 135 = .ok (.iadd, 1) := by decide +kernel
theorem dX11_notes_136 : decode cX11_notes 136 = .ok (.iaload, 1) := by decide +kernel
theorem dX11_notes_137 : decode cX11_notes 137 = .ok (.aload_n 0, 1) := by decide +kernel
theorem dX11_notes_138 : decode cX11_notes 138 = .ok (.getfield 98, 3) := by decide +kernel
theorem dX11_notes_141 : decode cX11_notes 141 = .ok (.iload 9, 2) := by decide +kernel
theorem dX11_notes_143 : decode cX11_notes 143 = .ok (.iconst 2, 1) := by decide +kernel
theorem dX11_notes_144 : decode cX11_notes 144 = .ok (.iadd, 1) := by decide +kernel
theorem dX11_notes_145 : decode cX11_notes 145 = .ok (.iaload, 1) := by decide +kernel
theorem dX11_notes_146 : decode cX11_notes 146 = .ok (.invokevirtual 312, 3) := by decide +kernel
theorem dX11_notes_149 : decode cX11_notes 149 = .ok (.ifCond .lt 6, 3) := by decide +kernel
theorem dX11_notes_152 : decode cX11_notes 152 = .ok (.iinc 5 1, 3) := by decide +kernel
theorem dX11_notes_155 : decode cX11_notes 155 = .ok (.iinc 6 1, 3) := by decide +kernel
theorem dX11_notes_158 : decode cX11_notes 158 = .ok (.goto (-94), 3) := by decide +kernel
theorem dX11_notes_161 : decode cX11_notes 161 = .ok (.iload 5, 2) := by decide +kernel
theorem dX11_notes_163 : decode cX11_notes 163 = .ok (.ireturn, 1) := by decide +kernel
theorem dX11_taken_0 : decode cX11_taken 0 = .ok (.iload_n 2, 1) := by decide +kernel
theorem dX11_taken_1 : decode cX11_taken 1 = .ok (.iconst 0, 1) := by decide +kernel
theorem dX11_taken_2 : decode cX11_taken 2 = .ok (.iconst 5, 1) := by decide +kernel
theorem dX11_taken_3 : decode cX11_taken 3 = .ok (.invokestatic 127, 3) := by decide +kernel
theorem dX11_taken_6 : decode cX11_taken 6 = .ok (.ifCond .ne 6, 3) := by decide +kernel
theorem dX11_taken_9 : decode cX11_taken 9 = .ok (.bipush (-2), 2) := by decide +kernel
theorem dX11_taken_11 : decode cX11_taken 11 = .ok (.ireturn, 1) := by decide +kernel
theorem dX11_taken_12 : decode cX11_taken 12 = .ok (.aload_n 0, 1) := by decide +kernel
theorem dX11_taken_13 : decode cX11_taken 13 = .ok (.iload_n 1, 1) := by decide +kernel
theorem dX11_taken_14 : decode cX11_taken 14 = .ok (.invokevirtual 134, 3) := by decide +kernel
theorem dX11_taken_17 : decode cX11_taken 17 = .ok (.ifCond .ne 6, 3) := by decide +kernel
theorem dX11_taken_20 : decode cX11_taken 20 = .ok (.bipush (-11), 2) := by decide +kernel
theorem dX11_taken_22 : decode cX11_taken 22 = .ok (.ireturn, 1) := by decide +kernel
theorem dX11_taken_23 : decode cX11_taken 23 = .ok (.aload_n 0, 1) := by decide +kernel
theorem dX11_taken_24 : decode cX11_taken 24 = .ok (.getfield 22, 3) := by decide +kernel
theorem dX11_taken_27 : decode cX11_taken 27 = .ok (.iload_n 1, 1) := by decide +kernel
theorem dX11_taken_28 : decode cX11_taken 28 = .ok (.iaload, 1) := by decide +kernel
theorem dX11_taken_29 : decode cX11_taken 29 = .ok (.istore_n 3, 1) := by decide +kernel
theorem dX11_taken_30 : decode cX11_taken 30 = .ok (.iload_n 3, 1) := by decide +kernel
theorem dX11_taken_31 : decode cX11_taken 31 = .ok (.iload_n 2, 1) := by decide +kernel
theorem dX11_taken_32 : decode cX11_taken 32 = .ok (.if_icmp .eq 28, 3) := by decide +kernel
theorem dX11_taken_35 : decode cX11_taken 35 = .ok (.iload_n 3, 1) := by decide +kernel
theorem dX11_taken_36 : decode cX11_taken 36 = .ok (.ifCond .le 24, 3) := by decide +kernel
theorem dX11_taken_39 : decode cX11_taken 39 = .ok (.iload_n 3, 1) := by decide +kernel
theorem dX11_taken_40 : decode cX11_taken 40 = .ok (.iconst 1, 1) := by decide +kernel
theorem dX11_taken_41 : decode cX11_taken 41 = .ok (.if_icmp .eq 8, 3) := by decide +kernel
theorem dX11_taken_44 : decode cX11_taken 44 = .ok (.iload_n 3, 1) := by decide +kernel
theorem dX11_taken_45 : decode cX11_taken 45 = .ok (.iconst 2, 1) := by decide +kernel
theorem dX11_taken_46 : decode cX11_taken 46 = .ok (.if_icmp .ne 7, 3) := by decide +kernel
theorem dX11_taken_49 : decode cX11_taken 49 = .ok (.iconst 0, 1) := by decide +kernel
theorem dX11_taken_50 : decode cX11_taken 50 = .ok (.goto 6, 3) := by decide +kernel
theorem dX11_taken_53 : decode cX11_taken 53 = .ok (.iload_n 3, 1) := by decide +kernel
theorem dX11_taken_54 : decode cX11_taken 54 = .ok (.iconst 2, 1) := by decide +kernel
theorem dX11_taken_55 : decode cX11_taken 55 = .ok (.isub, 1) := by decide +kernel
theorem dX11_taken_56 : decode cX11_taken 56 = .ok (.istore_n 3, 1) := by decide +kernel
theorem dX11_taken_57 : decode cX11_taken 57 = .ok (.goto (-27), 3) := by decide +kernel
theorem dX11_taken_60 : decode cX11_taken 60 = .ok (.iload_n 3, 1) := by decide +kernel
theorem dX11_taken_61 : decode cX11_taken 61 = .ok (.iload_n 2, 1) := by decide +kernel
theorem dX11_taken_62 : decode cX11_taken 62 = .ok (.if_icmp .ne 12, 3) := by decide +kernel
theorem dX11_taken_65 : decode cX11_taken 65 = .ok (.aload_n 0, 1) := by decide +kernel
theorem dX11_taken_66 : decode cX11_taken 66 = .ok (.getfield 31, 3) := by decide +kernel
theorem dX11_taken_69 : decode cX11_taken 69 = .ok (.iload_n 1, 1) := by decide +kernel
theorem dX11_taken_70 : decode cX11_taken 70 = .ok (.iaload, 1) := by decide +kernel
theorem dX11_taken_71 : decode cX11_taken 71 = .ok (.goto 5, 3) := by decide +kernel
theorem dX11_taken_74 : decode cX11_taken 74 = .ok (.bipush (-13), 2) := by decide +kernel
theorem dX11_taken_76 : decode cX11_taken 76 = .ok (.ireturn, 1) := by decide +kernel
theorem dJ6_bitCount_0f7a4_0 : decode cJ6_bitCount_0f7a4 0 = .ok (.iload_n 0, 1) := by decide +kernel
theorem dJ6_bitCount_0f7a4_1 : decode cJ6_bitCount_0f7a4 1 = .ok (.iload_n 0, 1) := by decide +kernel
theorem dJ6_bitCount_0f7a4_2 : decode cJ6_bitCount_0f7a4 2 = .ok (.iconst 1, 1) := by decide +kernel
theorem dJ6_bitCount_0f7a4_3 : decode cJ6_bitCount_0f7a4 3 = .ok (.iushr, 1) := by decide +kernel
theorem dJ6_bitCount_0f7a4_4 : decode cJ6_bitCount_0f7a4 4 = .ok (.ldc_w 265, 3) := by decide +kernel
theorem dJ6_bitCount_0f7a4_7 : decode cJ6_bitCount_0f7a4 7 = .ok (.iand, 1) := by decide +kernel
theorem dJ6_bitCount_0f7a4_8 : decode cJ6_bitCount_0f7a4 8 = .ok (.isub, 1) := by decide +kernel
theorem dJ6_bitCount_0f7a4_9 : decode cJ6_bitCount_0f7a4 9 = .ok (.istore_n 0, 1) := by decide +kernel
theorem dJ6_bitCount_0f7a4_10 : decode cJ6_bitCount_0f7a4 10 = .ok (.iload_n 0, 1) := by decide +kernel
theorem dJ6_bitCount_0f7a4_11 : decode cJ6_bitCount_0f7a4 11 = .ok (.ldc_w 266, 3) := by decide +kernel
theorem dJ6_bitCount_0f7a4_14 : decode cJ6_bitCount_0f7a4 14 = .ok (.iand, 1) := by decide +kernel
theorem dJ6_bitCount_0f7a4_15 : decode cJ6_bitCount_0f7a4 15 = .ok (.iload_n 0, 1) := by decide +kernel
theorem dJ6_bitCount_0f7a4_16 : decode cJ6_bitCount_0f7a4 16 = .ok (.iconst 2, 1) := by decide +kernel
theorem dJ6_bitCount_0f7a4_17 : decode cJ6_bitCount_0f7a4 17 = .ok (.iushr, 1) := by decide +kernel
theorem dJ6_bitCount_0f7a4_18 : decode cJ6_bitCount_0f7a4 18 = .ok (.ldc_w 266, 3) := by decide +kernel
theorem dJ6_bitCount_0f7a4_21 : decode cJ6_bitCount_0f7a4 21 = .ok (.iand, 1) := by decide +kernel
theorem dJ6_bitCount_0f7a4_22 : decode cJ6_bitCount_0f7a4 22 = .ok (.iadd, 1) := by decide +kernel
theorem dJ6_bitCount_0f7a4_23 : decode cJ6_bitCount_0f7a4 23 = .ok (.istore_n 0, 1) := by decide +kernel
theorem dJ6_bitCount_0f7a4_24 : decode cJ6_bitCount_0f7a4 24 = .ok (.iload_n 0, 1) := by decide +kernel
theorem dJ6_bitCount_0f7a4_25 : decode cJ6_bitCount_0f7a4 25 = .ok (.iload_n 0, 1) := by decide +kernel
theorem dJ6_bitCount_0f7a4_26 : decode cJ6_bitCount_0f7a4 26 = .ok (.iconst 4, 1) := by decide +kernel
theorem dJ6_bitCount_0f7a4_27 : decode cJ6_bitCount_0f7a4 27 = .ok (.iushr, 1) := by decide +kernel
theorem dJ6_bitCount_0f7a4_28 : decode cJ6_bitCount_0f7a4 28 = .ok (.iadd, 1) := by decide +kernel
theorem dJ6_bitCount_0f7a4_29 : decode cJ6_bitCount_0f7a4 29 = .ok (.ldc_w 267, 3) := by decide +kernel
theorem dJ6_bitCount_0f7a4_32 : decode cJ6_bitCount_0f7a4 32 = .ok (.iand, 1) := by decide +kernel
theorem dJ6_bitCount_0f7a4_33 : decode cJ6_bitCount_0f7a4 33 = .ok (.istore_n 0, 1) := by decide +kernel
theorem dJ6_bitCount_0f7a4_34 : decode cJ6_bitCount_0f7a4 34 = .ok (.iload_n 0, 1) := by decide +kernel
theorem dJ6_bitCount_0f7a4_35 : decode cJ6_bitCount_0f7a4 35 = .ok (.iload_n 0, 1) := by decide +kernel
theorem dJ6_bitCount_0f7a4_36 : decode cJ6_bitCount_0f7a4 36 = .ok (.bipush 8, 2) := by decide +kernel
theorem dJ6_bitCount_0f7a4_38 : decode cJ6_bitCount_0f7a4 38 = .ok (.iushr, 1) := by decide +kernel
theorem dJ6_bitCount_0f7a4_39 : decode cJ6_bitCount_0f7a4 39 = .ok (.iadd, 1) := by decide +kernel
theorem dJ6_bitCount_0f7a4_40 : decode cJ6_bitCount_0f7a4 40 = .ok (.istore_n 0, 1) := by decide +kernel
theorem dJ6_bitCount_0f7a4_41 : decode cJ6_bitCount_0f7a4 41 = .ok (.iload_n 0, 1) := by decide +kernel
theorem dJ6_bitCount_0f7a4_42 : decode cJ6_bitCount_0f7a4 42 = .ok (.iload_n 0, 1) := by decide +kernel
theorem dJ6_bitCount_0f7a4_43 : decode cJ6_bitCount_0f7a4 43 = .ok (.bipush 16, 2) := by decide +kernel
theorem dJ6_bitCount_0f7a4_45 : decode cJ6_bitCount_0f7a4 45 = .ok (.iushr, 1) := by decide +kernel
theorem dJ6_bitCount_0f7a4_46 : decode cJ6_bitCount_0f7a4 46 = .ok (.iadd, 1) := by decide +kernel
theorem dJ6_bitCount_0f7a4_47 : decode cJ6_bitCount_0f7a4 47 = .ok (.istore_n 0, 1) := by decide +kernel
theorem dJ6_bitCount_0f7a4_48 : decode cJ6_bitCount_0f7a4 48 = .ok (.iload_n 0, 1) := by decide +kernel
theorem dJ6_bitCount_0f7a4_49 : decode cJ6_bitCount_0f7a4 49 = .ok (.bipush 63, 2) := by decide +kernel
theorem dJ6_bitCount_0f7a4_51 : decode cJ6_bitCount_0f7a4 51 = .ok (.iand, 1) := by decide +kernel
theorem dJ6_bitCount_0f7a4_52 : decode cJ6_bitCount_0f7a4 52 = .ok (.ireturn, 1) := by decide +kernel
theorem dJ9_max_7cf53_0 : decode cJ9_max_7cf53 0 = .ok (.iload_n 0, 1) := by decide +kernel
theorem dJ9_max_7cf53_1 : decode cJ9_max_7cf53 1 = .ok (.iload_n 1, 1) := by decide +kernel
theorem dJ9_max_7cf53_2 : decode cJ9_max_7cf53 2 = .ok (.if_icmp .lt 7, 3) := by decide +kernel
theorem dJ9_max_7cf53_5 : decode cJ9_max_7cf53 5 = .ok (.iload_n 0, 1) := by decide +kernel
theorem dJ9_max_7cf53_6 : decode cJ9_max_7cf53 6 = .ok (.goto 4, 3) := by decide +kernel
theorem dJ9_max_7cf53_9 : decode cJ9_max_7cf53 9 = .ok (.iload_n 1, 1) := by decide +kernel
theorem dJ9_max_7cf53_10 : decode cJ9_max_7cf53 10 = .ok (.ireturn, 1) := by decide +kernel
theorem dJ9_min_7cf53_0 : decode cJ9_min_7cf53 0 = .ok (.iload_n 0, 1) := by decide +kernel
theorem dJ9_min_7cf53_1 : decode cJ9_min_7cf53 1 = .ok (.iload_n 1, 1) := by decide +kernel
theorem dJ9_min_7cf53_2 : decode cJ9_min_7cf53 2 = .ok (.if_icmp .gt 7, 3) := by decide +kernel
theorem dJ9_min_7cf53_5 : decode cJ9_min_7cf53 5 = .ok (.iload_n 0, 1) := by decide +kernel
theorem dJ9_min_7cf53_6 : decode cJ9_min_7cf53 6 = .ok (.goto 4, 3) := by decide +kernel
theorem dJ9_min_7cf53_9 : decode cJ9_min_7cf53 9 = .ok (.iload_n 1, 1) := by decide +kernel
theorem dJ9_min_7cf53_10 : decode cJ9_min_7cf53 10 = .ok (.ireturn, 1) := by decide +kernel
theorem dJ0_length_8abf5_0 : decode cJ0_length_8abf5 0 = .ok (.aload_n 0, 1) := by decide +kernel
theorem dJ0_length_8abf5_1 : decode cJ0_length_8abf5 1 = .ok (.getfield 9, 3) := by decide +kernel
theorem dJ0_length_8abf5_4 : decode cJ0_length_8abf5 4 = .ok (.arraylength, 1) := by decide +kernel
theorem dJ0_length_8abf5_5 : decode cJ0_length_8abf5 5 = .ok (.aload_n 0, 1) := by decide +kernel
theorem dJ0_length_8abf5_6 : decode cJ0_length_8abf5 6 = .ok (.invokevirtual 335, 3) := by decide +kernel
theorem dJ0_length_8abf5_9 : decode cJ0_length_8abf5 9 = .ok (.ishr, 1) := by decide +kernel
theorem dJ0_length_8abf5_10 : decode cJ0_length_8abf5 10 = .ok (.ireturn, 1) := by decide +kernel
theorem dJ0_charAt_5068e_0 : decode cJ0_charAt_5068e 0 = .ok (.aload_n 0, 1) := by decide +kernel
theorem dJ0_charAt_5068e_1 : decode cJ0_charAt_5068e 1 = .ok (.invokevirtual 492, 3) := by decide +kernel
theorem dJ0_charAt_5068e_4 : decode cJ0_charAt_5068e 4 = .ok (.ifCond .eq 12, 3) := by decide +kernel
theorem dJ0_charAt_5068e_7 : decode cJ0_charAt_5068e 7 = .ok (.aload_n 0, 1) := by decide +kernel
theorem dJ0_charAt_5068e_8 : decode cJ0_charAt_5068e 8 = .ok (.getfield 9, 3) := by decide +kernel
theorem dJ0_charAt_5068e_11 : decode cJ0_charAt_5068e 11 = .ok (.iload_n 1, 1) := by decide +kernel
theorem dJ0_charAt_5068e_12 : decode cJ0_charAt_5068e 12 = .ok (.invokestatic 495, 3) := by decide +kernel
theorem dJ0_charAt_5068e_15 : decode cJ0_charAt_5068e 15 = .ok (.ireturn, 1) := by decide +kernel
theorem dJ0_charAt_5068e_16 : decode cJ0_charAt_5068e 16 = .ok (.aload_n 0, 1) := by decide +kernel
theorem dJ0_charAt_5068e_17 : decode cJ0_charAt_5068e 17 = .ok (.getfield 9, 3) := by decide +kernel
theorem dJ0_charAt_5068e_20 : decode cJ0_charAt_5068e 20 = .ok (.iload_n 1, 1) := by decide +kernel
theorem dJ0_charAt_5068e_21 : decode cJ0_charAt_5068e 21 = .ok (.invokestatic 498, 3) := by decide +kernel
theorem dJ0_charAt_5068e_24 : decode cJ0_charAt_5068e 24 = .ok (.ireturn, 1) := by decide +kernel
theorem dJ0_coder_7d493_0 : decode cJ0_coder_7d493 0 = .ok (.getstatic 38, 3) := by decide +kernel
theorem dJ0_coder_7d493_3 : decode cJ0_coder_7d493 3 = .ok (.ifCond .eq 10, 3) := by decide +kernel
theorem dJ0_coder_7d493_6 : decode cJ0_coder_7d493 6 = .ok (.aload_n 0, 1) := by decide +kernel
theorem dJ0_coder_7d493_7 : decode cJ0_coder_7d493 7 = .ok (.getfield 15, 3) := by decide +kernel
theorem dJ0_coder_7d493_10 : decode cJ0_coder_7d493 10 = .ok (.goto 4, 3) := by decide +kernel
theorem dJ0_coder_7d493_13 : decode cJ0_coder_7d493 13 = .ok (.iconst 1, 1) := by decide +kernel
theorem dJ0_coder_7d493_14 : decode cJ0_coder_7d493 14 = .ok (.ireturn, 1) := by decide +kernel
theorem dJ0_isLatin1_aae02_0 : decode cJ0_isLatin1_aae02 0 = .ok (.getstatic 38, 3) := by decide +kernel
theorem dJ0_isLatin1_aae02_3 : decode cJ0_isLatin1_aae02 3 = .ok (.ifCond .eq 14, 3) := by decide +kernel
theorem dJ0_isLatin1_aae02_6 : decode cJ0_isLatin1_aae02 6 = .ok (.aload_n 0, 1) := by decide +kernel
theorem dJ0_isLatin1_aae02_7 : decode cJ0_isLatin1_aae02 7 = .ok (.getfield 15, 3) := by decide +kernel
theorem dJ0_isLatin1_aae02_10 : decode cJ0_isLatin1_aae02 10 = .ok (.ifCond .ne 7, 3) := by decide +kernel
theorem dJ0_isLatin1_aae02_13 : decode cJ0_isLatin1_aae02 13 = .ok (.iconst 1, 1) := by decide +kernel
theorem dJ0_isLatin1_aae02_14 : decode cJ0_isLatin1_aae02 14 = .ok (.goto 4, 3) := by decide +kernel
theorem dJ0_isLatin1_aae02_17 : decode cJ0_isLatin1_aae02 17 = .ok (.iconst 0, 1) := by decide +kernel
theorem dJ0_isLatin1_aae02_18 : decode cJ0_isLatin1_aae02 18 = .ok (.ireturn, 1) := by decide +kernel
theorem dJ0_checkIndex_df160_0 : decode cJ0_checkIndex_df160 0 = .ok (.iload_n 0, 1) := by decide +kernel
theorem dJ0_checkIndex_df160_1 : decode cJ0_checkIndex_df160 1 = .ok (.iload_n 1, 1) := by decide +kernel
theorem dJ0_checkIndex_df160_2 : decode cJ0_checkIndex_df160 2 = .ok (.getstatic 1053, 3) := by decide +kernel
theorem dJ0_checkIndex_df160_5 : decode cJ0_checkIndex_df160 5 = .ok (.invokestatic 1059, 3) := by decide +kernel
theorem dJ0_checkIndex_df160_8 : decode cJ0_checkIndex_df160 8 = .ok (.pop, 1) := by decide +kernel
theorem dJ0_checkIndex_df160_9 : decode cJ0_checkIndex_df160 9 = .ok (.return_, 1) := by decide +kernel
theorem dJ1_charAt_3b067_0 : decode cJ1_charAt_3b067 0 = .ok (.iload_n 1, 1) := by decide +kernel
theorem dJ1_charAt_3b067_1 : decode cJ1_charAt_3b067 1 = .ok (.aload_n 0, 1) := by decide +kernel
theorem dJ1_charAt_3b067_2 : decode cJ1_charAt_3b067 2 = .ok (.arraylength, 1) := by decide +kernel
theorem dJ1_charAt_3b067_3 : decode cJ1_charAt_3b067 3 = .ok (.invokestatic 9, 3) := by decide +kernel
theorem dJ1_charAt_3b067_6 : decode cJ1_charAt_3b067 6 = .ok (.aload_n 0, 1) := by decide +kernel
theorem dJ1_charAt_3b067_7 : decode cJ1_charAt_3b067 7 = .ok (.iload_n 1, 1) := by decide +kernel
theorem dJ1_charAt_3b067_8 : decode cJ1_charAt_3b067 8 = .ok (.baload, 1) := by decide +kernel
theorem dJ1_charAt_3b067_9 : decode cJ1_charAt_3b067 9 = .ok (.sipush 255, 3) := by decide +kernel
theorem dJ1_charAt_3b067_12 : decode cJ1_charAt_3b067 12 = .ok (.iand, 1) := by decide +kernel
theorem dJ1_charAt_3b067_13 : decode cJ1_charAt_3b067 13 = .ok (.i2c, 1) := by decide +kernel
theorem dJ1_charAt_3b067_14 : decode cJ1_charAt_3b067 14 = .ok (.ireturn, 1) := by decide +kernel
theorem dJ2_getChar_3b067_0 : decode cJ2_getChar_3b067 0 = .ok (.getstatic 44, 3) := by decide +kernel
theorem dJ2_getChar_3b067_3 : decode cJ2_getChar_3b067 3 = .ok (.ifCond .ne 25, 3) := by decide +kernel
theorem dJ2_getChar_3b067_6 : decode cJ2_getChar_3b067 6 = .ok (.iload_n 1, 1) := by decide +kernel
theorem dJ2_getChar_3b067_7 : decode cJ2_getChar_3b067 7 = .ok (.ifCond .lt 11, 3) := by decide +kernel
theorem dJ2_getChar_3b067_10 : decode cJ2_getChar_3b067 10 = .ok (.iload_n 1, 1) := by decide +kernel
theorem dJ2_getChar_3b067_11 : decode cJ2_getChar_3b067 11 = .ok (.aload_n 0, 1) := by decide +kernel
theorem dJ2_getChar_3b067_12 : decode cJ2_getChar_3b067 12 = .ok (.invokestatic 48, 3) := by decide +kernel
theorem dJ2_getChar_3b067_15 : decode cJ2_getChar_3b067 15 = .ok (.if_icmp .lt 13, 3) := by decide +kernel
theorem dJ2_getChar_3b067_18 : decode cJ2_getChar_3b067 18 = .ok (.new 52, 3) := by decide +kernel
theorem dJ2_getChar_3b067_21 : decode cJ2_getChar_3b067 21 = .ok (.dup, 1) := by decide +kernel
theorem dJ2_getChar_3b067_22 : decode cJ2_getChar_3b067 22 = .ok (.ldc 54, 2) := by decide +kernel
theorem dJ2_getChar_3b067_24 : decode cJ2_getChar_3b067 24 = .ok (.invokespecial 56, 3) := by decide +kernel
theorem dJ2_getChar_3b067_27 : decode cJ2_getChar_3b067 27 = .ok (.athrow, 1) := by decide +kernel
theorem dJ2_getChar_3b067_28 : decode cJ2_getChar_3b067 28 = .ok (.iload_n 1, 1) := by decide +kernel
theorem dJ2_getChar_3b067_29 : decode cJ2_getChar_3b067 29 = .ok (.iconst 1, 1) := by decide +kernel
theorem dJ2_getChar_3b067_30 : decode cJ2_getChar_3b067 30 = .ok (.ishl, 1) := by decide +kernel
theorem dJ2_getChar_3b067_31 : decode cJ2_getChar_3b067 31 = .ok (.istore_n 1, 1) := by decide +kernel
theorem dJ2_getChar_3b067_32 : decode cJ2_getChar_3b067 32 = .ok (.aload_n 0, 1) := by decide +kernel
theorem dJ2_getChar_3b067_33 : decode cJ2_getChar_3b067 33 = .ok (.iload_n 1, 1) := by decide +kernel
theorem dJ2_getChar_3b067_34 : decode cJ2_getChar_3b067 34 = .ok (.iinc 1 1, 3) := by decide +kernel
theorem dJ2_getChar_3b067_37 : decode cJ2_getChar_3b067 37 = .ok (.baload, 1) := by decide +kernel
theorem dJ2_getChar_3b067_38 : decode cJ2_getChar_3b067 38 = .ok (.sipush 255, 3) := by decide +kernel
theorem dJ2_getChar_3b067_41 : decode cJ2_getChar_3b067 41 = .ok (.iand, 1) := by decide +kernel
theorem dJ2_getChar_3b067_42 : decode cJ2_getChar_3b067 42 = .ok (.getstatic 59, 3) := by decide +kernel
theorem dJ2_getChar_3b067_45 : decode cJ2_getChar_3b067 45 = .ok (.ishl, 1) := by decide +kernel
theorem dJ2_getChar_3b067_46 : decode cJ2_getChar_3b067 46 = .ok (.aload_n 0, 1) := by decide +kernel
theorem dJ2_getChar_3b067_47 : decode cJ2_getChar_3b067 47 = .ok (.iload_n 1, 1) := by decide +kernel
theorem dJ2_getChar_3b067_48 : decode cJ2_getChar_3b067 48 = .ok (.baload, 1) := by decide +kernel
theorem dJ2_getChar_3b067_49 : decode cJ2_getChar_3b067 49 = .ok (.sipush 255, 3) := by decide +kernel
theorem dJ2_getChar_3b067_52 : decode cJ2_getChar_3b067 52 = .ok (.iand, 1) := by decide +kernel
theorem dJ2_getChar_3b067_53 : decode cJ2_getChar_3b067 53 = .ok (.getstatic 63, 3) := by decide +kernel
theorem dJ2_getChar_3b067_56 : decode cJ2_getChar_3b067 56 = .ok (.ishl, 1) := by decide +kernel
theorem dJ2_getChar_3b067_57 : decode cJ2_getChar_3b067 57 = .ok (.ior, 1) := by decide +kernel
theorem dJ2_getChar_3b067_58 : decode cJ2_getChar_3b067 58 = .ok (.i2c, 1) := by decide +kernel
theorem dJ2_getChar_3b067_59 : decode cJ2_getChar_3b067 59 = .ok (.ireturn, 1) := by decide +kernel
theorem dJ2_length_9d52b_0 : decode cJ2_length_9d52b 0 = .ok (.aload_n 0, 1) := by decide +kernel
theorem dJ2_length_9d52b_1 : decode cJ2_length_9d52b 1 = .ok (.arraylength, 1) := by decide +kernel
theorem dJ2_length_9d52b_2 : decode cJ2_length_9d52b 2 = .ok (.iconst 1, 1) := by decide +kernel
theorem dJ2_length_9d52b_3 : decode cJ2_length_9d52b 3 = .ok (.ishr, 1) := by decide +kernel
theorem dJ2_length_9d52b_4 : decode cJ2_length_9d52b 4 = .ok (.ireturn, 1) := by decide +kernel
theorem dJ2_charAt_3b067_0 : decode cJ2_charAt_3b067 0 = .ok (.iload_n 1, 1) := by decide +kernel
theorem dJ2_charAt_3b067_1 : decode cJ2_charAt_3b067 1 = .ok (.aload_n 0, 1) := by decide +kernel
theorem dJ2_charAt_3b067_2 : decode cJ2_charAt_3b067 2 = .ok (.invokestatic 67, 3) := by decide +kernel
theorem dJ2_charAt_3b067_5 : decode cJ2_charAt_3b067 5 = .ok (.aload_n 0, 1) := by decide +kernel
theorem dJ2_charAt_3b067_6 : decode cJ2_charAt_3b067 6 = .ok (.iload_n 1, 1) := by decide +kernel
theorem dJ2_charAt_3b067_7 : decode cJ2_charAt_3b067 7 = .ok (.invokestatic 71, 3) := by decide +kernel
theorem dJ2_charAt_3b067_10 : decode cJ2_charAt_3b067 10 = .ok (.ireturn, 1) := by decide +kernel
theorem dJ2_checkIndex_2214a_0 : decode cJ2_checkIndex_2214a 0 = .ok (.iload_n 0, 1) := by decide +kernel
theorem dJ2_checkIndex_2214a_1 : decode cJ2_checkIndex_2214a 1 = .ok (.aload_n 1, 1) := by decide +kernel
theorem dJ2_checkIndex_2214a_2 : decode cJ2_checkIndex_2214a 2 = .ok (.invokestatic 48, 3) := by decide +kernel
theorem dJ2_checkIndex_2214a_5 : decode cJ2_checkIndex_2214a 5 = .ok (.invokestatic 414, 3) := by decide +kernel
theorem dJ2_checkIndex_2214a_8 : decode cJ2_checkIndex_2214a 8 = .ok (.return_, 1) := by decide +kernel
theorem dJ7_fill_53178_0 : decode cJ7_fill_53178 0 = .ok (.iconst 0, 1) := by decide +kernel
theorem dJ7_fill_53178_1 : decode cJ7_fill_53178 1 = .ok (.istore_n 2, 1) := by decide +kernel
theorem dJ7_fill_53178_2 : decode cJ7_fill_53178 2 = .ok (.aload_n 0, 1) := by decide +kernel
theorem dJ7_fill_53178_3 : decode cJ7_fill_53178 3 = .ok (.arraylength, 1) := by decide +kernel
theorem dJ7_fill_53178_4 : decode cJ7_fill_53178 4 = .ok (.istore_n 3, 1) := by decide +kernel
theorem dJ7_fill_53178_5 : decode cJ7_fill_53178 5 = .ok (.iload_n 2, 1) := by decide +kernel
theorem dJ7_fill_53178_6 : decode cJ7_fill_53178 6 = .ok (.iload_n 3, 1) := by decide +kernel
theorem dJ7_fill_53178_7 : decode cJ7_fill_53178 7 = .ok (.if_icmp .ge 13, 3) := by decide +kernel
theorem dJ7_fill_53178_10 : decode cJ7_fill_53178 10 = .ok (.aload_n 0, 1) := by decide +kernel
theorem dJ7_fill_53178_11 : decode cJ7_fill_53178 11 = .ok (.iload_n 2, 1) := by decide +kernel
theorem dJ7_fill_53178_12 : decode cJ7_fill_53178 12 = .ok (.iload_n 1, 1) := by decide +kernel
theorem dJ7_fill_53178_13 : decode cJ7_fill_53178 13 = .ok (.iastore, 1) := by decide +kernel
theorem dJ7_fill_53178_14 : decode cJ7_fill_53178 14 = .ok (.iinc 2 1, 3) := by decide +kernel
theorem dJ7_fill_53178_17 : decode cJ7_fill_53178 17 = .ok (.goto (-12), 3) := by decide +kernel
theorem dJ7_fill_53178_20 : decode cJ7_fill_53178 20 = .ok (.return_, 1) := by decide +kernel
theorem dJ3_checkIndex_8e157_0 : decode cJ3_checkIndex_8e157 0 = .ok (.iload_n 0, 1) := by decide +kernel
theorem dJ3_checkIndex_8e157_1 : decode cJ3_checkIndex_8e157 1 = .ok (.ifCond .lt 8, 3) := by decide +kernel
theorem dJ3_checkIndex_8e157_4 : decode cJ3_checkIndex_8e157 4 = .ok (.iload_n 0, 1) := by decide +kernel
theorem dJ3_checkIndex_8e157_5 : decode cJ3_checkIndex_8e157 5 = .ok (.iload_n 1, 1) := by decide +kernel
theorem dJ3_checkIndex_8e157_6 : decode cJ3_checkIndex_8e157 6 = .ok (.if_icmp .lt 10, 3) := by decide +kernel
theorem dJ3_checkIndex_8e157_9 : decode cJ3_checkIndex_8e157 9 = .ok (.aload_n 2, 1) := by decide +kernel
theorem dJ3_checkIndex_8e157_10 : decode cJ3_checkIndex_8e157 10 = .ok (.iload_n 0, 1) := by decide +kernel
theorem dJ3_checkIndex_8e157_11 : decode cJ3_checkIndex_8e157 11 = .ok (.iload_n 1, 1) := by decide +kernel
theorem dJ3_checkIndex_8e157_12 : decode cJ3_checkIndex_8e157 12 = .ok (.invokestatic 95, 3) := by decide +kernel
theorem dJ3_checkIndex_8e157_15 : decode cJ3_checkIndex_8e157 15 = .ok (.athrow, 1) := by decide +kernel
theorem dJ3_checkIndex_8e157_16 : decode cJ3_checkIndex_8e157 16 = .ok (.iload_n 0, 1) := by decide +kernel
theorem dJ3_checkIndex_8e157_17 : decode cJ3_checkIndex_8e157 17 = .ok (.ireturn, 1) := by decide +kernel
theorem dL_law_0 : decode cL_law 0 = .ok (.new 7, 3) := by decide +kernel
theorem dL_law_3 : decode cL_law 3 = .ok (.dup, 1) := by decide +kernel
theorem dL_law_4 : decode cL_law 4 = .ok (.invokespecial 9, 3) := by decide +kernel
theorem dL_law_7 : decode cL_law 7 = .ok (.astore_n 1, 1) := by decide +kernel
theorem dL_law_8 : decode cL_law 8 = .ok (.new 10, 3) := by decide +kernel
theorem dL_law_11 : decode cL_law 11 = .ok (.dup, 1) := by decide +kernel
theorem dL_law_12 : decode cL_law 12 = .ok (.invokespecial 12, 3) := by decide +kernel
theorem dL_law_15 : decode cL_law 15 = .ok (.astore_n 2, 1) := by decide +kernel
theorem dL_law_16 : decode cL_law 16 = .ok (.iconst 0, 1) := by decide +kernel
theorem dL_law_17 : decode cL_law 17 = .ok (.istore_n 3, 1) := by decide +kernel
theorem dL_law_18 : decode cL_law 18 = .ok (.iload_n 3, 1) := by decide +kernel
theorem dL_law_19 : decode cL_law 19 = .ok (.aload_n 0, 1) := by decide +kernel
theorem dL_law_20 : decode cL_law 20 = .ok (.arraylength, 1) := by decide +kernel
theorem dL_law_21 : decode cL_law 21 = .ok (.bipush 6, 2) := by decide +kernel
theorem dL_law_23 : decode cL_law 23 = .ok (.isub, 1) := by decide +kernel
theorem dL_law_24 : decode cL_law 24 = .ok (.if_icmp .gt 1099, 3) := by decide +kernel
theorem dL_law_27 : decode cL_law 27 = .ok (.aload_n 0, 1) := by decide +kernel
theorem dL_law_28 : decode cL_law 28 = .ok (.iload_n 3, 1) := by decide +kernel
theorem dL_law_29 : decode cL_law 29 = .ok (.iaload, 1) := by decide +kernel
theorem dL_law_30 : decode cL_law 30 = .ok (.bipush 31, 2) := by decide +kernel
theorem dL_law_32 : decode cL_law 32 = .ok (.iand, 1) := by decide +kernel
theorem dL_law_33 : decode cL_law 33 = .ok (.tableswitch 1084 0 30 #[139, 182, 225, 268, 301, 324, 337, 360, 383, 406, 439, 472, 505, 538, 561, 574, 597, 620, 653, 686, 700, 744, 777, 800, 813, 826, 849, 892, 935, 998, 1051], 139) := by decide +kernel
theorem dL_law_172 : decode cL_law 172 = .ok (.aload_n 1, 1) := by decide +kernel
theorem dL_law_173 : decode cL_law 173 = .ok (.aload_n 0, 1) := by decide +kernel
theorem dL_law_174 : decode cL_law 174 = .ok (.iload_n 3, 1) := by decide +kernel
theorem dL_law_175 : decode cL_law 175 = .ok (.iconst 1, 1) := by decide +kernel
theorem dL_law_176 : decode cL_law 176 = .ok (.iadd, 1) := by decide +kernel
theorem dL_law_177 : decode cL_law 177 = .ok (.iaload, 1) := by decide +kernel
theorem dL_law_178 : decode cL_law 178 = .ok (.aload_n 0, 1) := by decide +kernel
theorem dL_law_179 : decode cL_law 179 = .ok (.iload_n 3, 1) := by decide +kernel
theorem dL_law_180 : decode cL_law 180 = .ok (.iconst 2, 1) := by decide +kernel
theorem dL_law_181 : decode cL_law 181 = .ok (.iadd, 1) := by decide +kernel
theorem dL_law_182 : decode cL_law 182 = .ok (.iaload, 1) := by decide +kernel
theorem dL_law_183 : decode cL_law 183 = .ok (.aload_n 0, 1) := by decide +kernel
theorem dL_law_184 : decode cL_law 184 = .ok (.iload_n 3, 1) := by decide +kernel
theorem dL_law_185 : decode cL_law 185 = .ok (.iconst 3, 1) := by decide +kernel
theorem dL_law_186 : decode cL_law 186 = .ok (.iadd, 1) := by decide +kernel
theorem dL_law_187 : decode cL_law 187 = .ok (.iaload, 1) := by decide +kernel
theorem dL_law_188 : decode cL_law 188 = .ok (.invokevirtual 13, 3) := by decide +kernel
theorem dL_law_191 : decode cL_law 191 = .ok (.aload_n 2, 1) := by decide +kernel
theorem dL_law_192 : decode cL_law 192 = .ok (.aload_n 0, 1) := by decide +kernel
theorem dL_law_193 : decode cL_law 193 = .ok (.iload_n 3, 1) := by decide +kernel
theorem dL_law_194 : decode cL_law 194 = .ok (.iconst 1, 1) := by decide +kernel
theorem dL_law_195 : decode cL_law 195 = .ok (.iadd, 1) := by decide +kernel
theorem dL_law_196 : decode cL_law 196 = .ok (.iaload, 1) := by decide +kernel
theorem dL_law_197 : decode cL_law 197 = .ok (.aload_n 0, 1) := by decide +kernel
theorem dL_law_198 : decode cL_law 198 = .ok (.iload_n 3, 1) := by decide +kernel
theorem dL_law_199 : decode cL_law 199 = .ok (.iconst 2, 1) := by decide +kernel
theorem dL_law_200 : decode cL_law 200 = .ok (.iadd, 1) := by decide +kernel
theorem dL_law_201 : decode cL_law 201 = .ok (.iaload, 1) := by decide +kernel
theorem dL_law_202 : decode cL_law 202 = .ok (.aload_n 0, 1) := by decide +kernel
theorem dL_law_203 : decode cL_law 203 = .ok (.iload_n 3, 1) := by decide +kernel
theorem dL_law_204 : decode cL_law 204 = .ok (.iconst 3, 1) := by decide +kernel
theorem dL_law_205 : decode cL_law 205 = .ok (.iadd, 1) := by decide +kernel
theorem dL_law_206 : decode cL_law 206 = .ok (.iaload, 1) := by decide +kernel
theorem dL_law_207 : decode cL_law 207 = .ok (.invokevirtual 17, 3) := by decide +kernel
theorem dL_law_210 : decode cL_law 210 = .ok (.if_icmp .eq 907, 3) := by decide +kernel
theorem dL_law_213 : decode cL_law 213 = .ok (.iconst 0, 1) := by decide +kernel
theorem dL_law_214 : decode cL_law 214 = .ok (.ireturn, 1) := by decide +kernel
theorem dL_law_215 : decode cL_law 215 = .ok (.aload_n 1, 1) := by decide +kernel
theorem dL_law_216 : decode cL_law 216 = .ok (.aload_n 0, 1) := by decide +kernel
theorem dL_law_217 : decode cL_law 217 = .ok (.iload_n 3, 1) := by decide +kernel
theorem dL_law_218 : decode cL_law 218 = .ok (.iconst 1, 1) := by decide +kernel
theorem dL_law_219 : decode cL_law 219 = .ok (.iadd, 1) := by decide +kernel
theorem dL_law_220 : decode cL_law 220 = .ok (.iaload, 1) := by decide +kernel
theorem dL_law_221 : decode cL_law 221 = .ok (.aload_n 0, 1) := by decide +kernel
theorem dL_law_222 : decode cL_law 222 = .ok (.iload_n 3, 1) := by decide +kernel
theorem dL_law_223 : decode cL_law 223 = .ok (.iconst 2, 1) := by decide +kernel
theorem dL_law_224 : decode cL_law 224 = .ok (.iadd, 1) := by decide +kernel
theorem dL_law_225 : decode cL_law 225 = .ok (.iaload, 1) := by decide +kernel
theorem dL_law_226 : decode cL_law 226 = .ok (.aload_n 0, 1) := by decide +kernel
theorem dL_law_227 : decode cL_law 227 = .ok (.iload_n 3, 1) := by decide +kernel
theorem dL_law_228 : decode cL_law 228 = .ok (.iconst 3, 1) := by decide +kernel
theorem dL_law_229 : decode cL_law 229 = .ok (.iadd, 1) := by decide +kernel
theorem dL_law_230 : decode cL_law 230 = .ok (.iaload, 1) := by decide +kernel
theorem dL_law_231 : decode cL_law 231 = .ok (.invokevirtual 18, 3) := by decide +kernel
theorem dL_law_234 : decode cL_law 234 = .ok (.aload_n 2, 1) := by decide +kernel
theorem dL_law_235 : decode cL_law 235 = .ok (.aload_n 0, 1) := by decide +kernel
theorem dL_law_236 : decode cL_law 236 = .ok (.iload_n 3, 1) := by decide +kernel
theorem dL_law_237 : decode cL_law 237 = .ok (.iconst 1, 1) := by decide +kernel
theorem dL_law_238 : decode cL_law 238 = .ok (.iadd, 1) := by decide +kernel
theorem dL_law_239 : decode cL_law 239 = .ok (.iaload, 1) := by decide +kernel
theorem dL_law_240 : decode cL_law 240 = .ok (.aload_n 0, 1) := by decide +kernel
theorem dL_law_241 : decode cL_law 241 = .ok (.iload_n 3, 1) := by decide +kernel
theorem dL_law_242 : decode cL_law 242 = .ok (.iconst 2, 1) := by decide +kernel
theorem dL_law_243 : decode cL_law 243 = .ok (.iadd, 1) := by decide +kernel
theorem dL_law_244 : decode cL_law 244 = .ok (.iaload, 1) := by decide +kernel
theorem dL_law_245 : decode cL_law 245 = .ok (.aload_n 0, 1) := by decide +kernel
theorem dL_law_246 : decode cL_law 246 = .ok (.iload_n 3, 1) := by decide +kernel
theorem dL_law_247 : decode cL_law 247 = .ok (.iconst 3, 1) := by decide +kernel
theorem dL_law_248 : decode cL_law 248 = .ok (.iadd, 1) := by decide +kernel
theorem dL_law_249 : decode cL_law 249 = .ok (.iaload, 1) := by decide +kernel
theorem dL_law_250 : decode cL_law 250 = .ok (.invokevirtual 21, 3) := by decide +kernel
theorem dL_law_253 : decode cL_law 253 = .ok (.if_icmp .eq 864, 3) := by decide +kernel
theorem dL_law_256 : decode cL_law 256 = .ok (.iconst 0, 1) := by decide +kernel
theorem dL_law_257 : decode cL_law 257 = .ok (.ireturn, 1) := by decide +kernel
theorem dL_law_258 : decode cL_law 258 = .ok (.aload_n 1, 1) := by decide +kernel
theorem dL_law_259 : decode cL_law 259 = .ok (.aload_n 0, 1) := by decide +kernel
theorem dL_law_260 : decode cL_law 260 = .ok (.iload_n 3, 1) := by decide +kernel
theorem dL_law_261 : decode cL_law 261 = .ok (.iconst 1, 1) := by decide +kernel
theorem dL_law_262 : decode cL_law 262 = .ok (.iadd, 1) := by decide +kernel
theorem dL_law_263 : decode cL_law 263 = .ok (.iaload, 1) := by decide +kernel
theorem dL_law_264 : decode cL_law 264 = .ok (.aload_n 0, 1) := by decide +kernel
theorem dL_law_265 : decode cL_law 265 = .ok (.iload_n 3, 1) := by decide +kernel
theorem dL_law_266 : decode cL_law 266 = .ok (.iconst 2, 1) := by decide +kernel
theorem dL_law_267 : decode cL_law 267 = .ok (.iadd, 1) := by decide +kernel
theorem dL_law_268 : decode cL_law 268 = .ok (.iaload, 1) := by decide +kernel
theorem dL_law_269 : decode cL_law 269 = .ok (.aload_n 0, 1) := by decide +kernel
theorem dL_law_270 : decode cL_law 270 = .ok (.iload_n 3, 1) := by decide +kernel
theorem dL_law_271 : decode cL_law 271 = .ok (.iconst 3, 1) := by decide +kernel
theorem dL_law_272 : decode cL_law 272 = .ok (.iadd, 1) := by decide +kernel
theorem dL_law_273 : decode cL_law 273 = .ok (.iaload, 1) := by decide +kernel
theorem dL_law_274 : decode cL_law 274 = .ok (.invokevirtual 22, 3) := by decide +kernel
theorem dL_law_277 : decode cL_law 277 = .ok (.aload_n 2, 1) := by decide +kernel
theorem dL_law_278 : decode cL_law 278 = .ok (.aload_n 0, 1) := by decide +kernel
theorem dL_law_279 : decode cL_law 279 = .ok (.iload_n 3, 1) := by decide +kernel
theorem dL_law_280 : decode cL_law 280 = .ok (.iconst 1, 1) := by decide +kernel
theorem dL_law_281 : decode cL_law 281 = .ok (.iadd, 1) := by decide +kernel
theorem dL_law_282 : decode cL_law 282 = .ok (.iaload, 1) := by decide +kernel
theorem dL_law_283 : decode cL_law 283 = .ok (.aload_n 0, 1) := by decide +kernel
theorem dL_law_284 : decode cL_law 284 = .ok (.iload_n 3, 1) := by decide +kernel
theorem dL_law_285 : decode cL_law 285 = .ok (.iconst 2, 1) := by decide +kernel
theorem dL_law_286 : decode cL_law 286 = .ok (.iadd, 1) := by decide +kernel
theorem dL_law_287 : decode cL_law 287 = .ok (.iaload, 1) := by decide +kernel
theorem dL_law_288 : decode cL_law 288 = .ok (.aload_n 0, 1) := by decide +kernel
theorem dL_law_289 : decode cL_law 289 = .ok (.iload_n 3, 1) := by decide +kernel
theorem dL_law_290 : decode cL_law 290 = .ok (.iconst 3, 1) := by decide +kernel
theorem dL_law_291 : decode cL_law 291 = .ok (.iadd, 1) := by decide +kernel
theorem dL_law_292 : decode cL_law 292 = .ok (.iaload, 1) := by decide +kernel
theorem dL_law_293 : decode cL_law 293 = .ok (.invokevirtual 25, 3) := by decide +kernel
theorem dL_law_296 : decode cL_law 296 = .ok (.if_icmp .eq 821, 3) := by decide +kernel
theorem dL_law_299 : decode cL_law 299 = .ok (.iconst 0, 1) := by decide +kernel
theorem dL_law_300 : decode cL_law 300 = .ok (.ireturn, 1) := by decide +kernel
theorem dL_law_301 : decode cL_law 301 = .ok (.aload_n 1, 1) := by decide +kernel
theorem dL_law_302 : decode cL_law 302 = .ok (.aload_n 0, 1) := by decide +kernel
theorem dL_law_303 : decode cL_law 303 = .ok (.iload_n 3, 1) := by decide +kernel
theorem dL_law_304 : decode cL_law 304 = .ok (.iconst 1, 1) := by decide +kernel
theorem dL_law_305 : decode cL_law 305 = .ok (.iadd, 1) := by decide +kernel
theorem dL_law_306 : decode cL_law 306 = .ok (.iaload, 1) := by decide +kernel
theorem dL_law_307 : decode cL_law 307 = .ok (.aload_n 0, 1) := by decide +kernel
theorem dL_law_308 : decode cL_law 308 = .ok (.iload_n 3, 1) := by decide +kernel
theorem dL_law_309 : decode cL_law 309 = .ok (.iconst 2, 1) := by decide +kernel
theorem dL_law_310 : decode cL_law 310 = .ok (.iadd, 1) := by decide +kernel
theorem dL_law_311 : decode cL_law 311 = .ok (.iaload, 1) := by decide +kernel
theorem dL_law_312 : decode cL_law 312 = .ok (.invokevirtual 26, 3) := by decide +kernel
theorem dL_law_315 : decode cL_law 315 = .ok (.aload_n 2, 1) := by decide +kernel
theorem dL_law_316 : decode cL_law 316 = .ok (.aload_n 0, 1) := by decide +kernel
theorem dL_law_317 : decode cL_law 317 = .ok (.iload_n 3, 1) := by decide +kernel
theorem dL_law_318 : decode cL_law 318 = .ok (.iconst 1, 1) := by decide +kernel
theorem dL_law_319 : decode cL_law 319 = .ok (.iadd, 1) := by decide +kernel
theorem dL_law_320 : decode cL_law 320 = .ok (.iaload, 1) := by decide +kernel
theorem dL_law_321 : decode cL_law 321 = .ok (.aload_n 0, 1) := by decide +kernel
theorem dL_law_322 : decode cL_law 322 = .ok (.iload_n 3, 1) := by decide +kernel
theorem dL_law_323 : decode cL_law 323 = .ok (.iconst 2, 1) := by decide +kernel
theorem dL_law_324 : decode cL_law 324 = .ok (.iadd, 1) := by decide +kernel
theorem dL_law_325 : decode cL_law 325 = .ok (.iaload, 1) := by decide +kernel
theorem dL_law_326 : decode cL_law 326 = .ok (.invokevirtual 30, 3) := by decide +kernel
theorem dL_law_329 : decode cL_law 329 = .ok (.if_icmp .eq 788, 3) := by decide +kernel
theorem dL_law_332 : decode cL_law 332 = .ok (.iconst 0, 1) := by decide +kernel
theorem dL_law_333 : decode cL_law 333 = .ok (.ireturn, 1) := by decide +kernel
theorem dL_law_334 : decode cL_law 334 = .ok (.aload_n 1, 1) := by decide +kernel
theorem dL_law_335 : decode cL_law 335 = .ok (.aload_n 0, 1) := by decide +kernel
theorem dL_law_336 : decode cL_law 336 = .ok (.iload_n 3, 1) := by decide +kernel
theorem dL_law_337 : decode cL_law 337 = .ok (.iconst 1, 1) := by decide +kernel
theorem dL_law_338 : decode cL_law 338 = .ok (.iadd, 1) := by decide +kernel
theorem dL_law_339 : decode cL_law 339 = .ok (.iaload, 1) := by decide +kernel
theorem dL_law_340 : decode cL_law 340 = .ok (.invokevirtual 31, 3) := by decide +kernel
theorem dL_law_343 : decode cL_law 343 = .ok (.aload_n 2, 1) := by decide +kernel
theorem dL_law_344 : decode cL_law 344 = .ok (.aload_n 0, 1) := by decide +kernel
theorem dL_law_345 : decode cL_law 345 = .ok (.iload_n 3, 1) := by decide +kernel
theorem dL_law_346 : decode cL_law 346 = .ok (.iconst 1, 1) := by decide +kernel
theorem dL_law_347 : decode cL_law 347 = .ok (.iadd, 1) := by decide +kernel
theorem dL_law_348 : decode cL_law 348 = .ok (.iaload, 1) := by decide +kernel
theorem dL_law_349 : decode cL_law 349 = .ok (.invokevirtual 35, 3) := by decide +kernel
theorem dL_law_352 : decode cL_law 352 = .ok (.if_icmp .eq 765, 3) := by decide +kernel
theorem dL_law_355 : decode cL_law 355 = .ok (.iconst 0, 1) := by decide +kernel
theorem dL_law_356 : decode cL_law 356 = .ok (.ireturn, 1) := by decide +kernel
theorem dL_law_357 : decode cL_law 357 = .ok (.aload_n 1, 1) := by decide +kernel
theorem dL_law_358 : decode cL_law 358 = .ok (.invokevirtual 36, 3) := by decide +kernel
theorem dL_law_361 : decode cL_law 361 = .ok (.aload_n 2, 1) := by decide +kernel
theorem dL_law_362 : decode cL_law 362 = .ok (.invokevirtual 40, 3) := by decide +kernel
theorem dL_law_365 : decode cL_law 365 = .ok (.if_icmp .eq 752, 3) := by decide +kernel
theorem dL_law_368 : decode cL_law 368 = .ok (.iconst 0, 1) := by decide +kernel
theorem dL_law_369 : decode cL_law 369 = .ok (.ireturn, 1) := by decide +kernel
theorem dL_law_370 : decode cL_law 370 = .ok (.aload_n 1, 1) := by decide +kernel
theorem dL_law_371 : decode cL_law 371 = .ok (.aload_n 0, 1) := by decide +kernel
theorem dL_law_372 : decode cL_law 372 = .ok (.iload_n 3, 1) := by decide +kernel
theorem dL_law_373 : decode cL_law 373 = .ok (.iconst 1, 1) := by decide +kernel
theorem dL_law_374 : decode cL_law 374 = .ok (.iadd, 1) := by decide +kernel
theorem dL_law_375 : decode cL_law 375 = .ok (.iaload, 1) := by decide +kernel
theorem dL_law_376 : decode cL_law 376 = .ok (.invokevirtual 41, 3) := by decide +kernel
theorem dL_law_379 : decode cL_law 379 = .ok (.aload_n 2, 1) := by decide +kernel
theorem dL_law_380 : decode cL_law 380 = .ok (.aload_n 0, 1) := by decide +kernel
theorem dL_law_381 : decode cL_law 381 = .ok (.iload_n 3, 1) := by decide +kernel
theorem dL_law_382 : decode cL_law 382 = .ok (.iconst 1, 1) := by decide +kernel
theorem dL_law_383 : decode cL_law 383 = .ok (.iadd, 1) := by decide +kernel
theorem dL_law_384 : decode cL_law 384 = .ok (.iaload, 1) := by decide +kernel
theorem dL_law_385 : decode cL_law 385 = .ok (.invokevirtual 44, 3) := by decide +kernel
theorem dL_law_388 : decode cL_law 388 = .ok (.if_icmp .eq 729, 3) := by decide +kernel
theorem dL_law_391 : decode cL_law 391 = .ok (.iconst 0, 1) := by decide +kernel
theorem dL_law_392 : decode cL_law 392 = .ok (.ireturn, 1) := by decide +kernel
theorem dL_law_393 : decode cL_law 393 = .ok (.aload_n 1, 1) := by decide +kernel
theorem dL_law_394 : decode cL_law 394 = .ok (.aload_n 0, 1) := by decide +kernel
theorem dL_law_395 : decode cL_law 395 = .ok (.iload_n 3, 1) := by decide +kernel
theorem dL_law_396 : decode cL_law 396 = .ok (.iconst 1, 1) := by decide +kernel
theorem dL_law_397 : decode cL_law 397 = .ok (.iadd, 1) := by decide +kernel
theorem dL_law_398 : decode cL_law 398 = .ok (.iaload, 1) := by decide +kernel
theorem dL_law_399 : decode cL_law 399 = .ok (.invokevirtual 45, 3) := by decide +kernel
theorem dL_law_402 : decode cL_law 402 = .ok (.aload_n 2, 1) := by decide +kernel
theorem dL_law_403 : decode cL_law 403 = .ok (.aload_n 0, 1) := by decide +kernel
theorem dL_law_404 : decode cL_law 404 = .ok (.iload_n 3, 1) := by decide +kernel
theorem dL_law_405 : decode cL_law 405 = .ok (.iconst 1, 1) := by decide +kernel
theorem dL_law_406 : decode cL_law 406 = .ok (.iadd, 1) := by decide +kernel
theorem dL_law_407 : decode cL_law 407 = .ok (.iaload, 1) := by decide +kernel
theorem dL_law_408 : decode cL_law 408 = .ok (.invokevirtual 48, 3) := by decide +kernel
theorem dL_law_411 : decode cL_law 411 = .ok (.if_icmp .eq 706, 3) := by decide +kernel
theorem dL_law_414 : decode cL_law 414 = .ok (.iconst 0, 1) := by decide +kernel
theorem dL_law_415 : decode cL_law 415 = .ok (.ireturn, 1) := by decide +kernel
theorem dL_law_416 : decode cL_law 416 = .ok (.aload_n 1, 1) := by decide +kernel
theorem dL_law_417 : decode cL_law 417 = .ok (.aload_n 0, 1) := by decide +kernel
theorem dL_law_418 : decode cL_law 418 = .ok (.iload_n 3, 1) := by decide +kernel
theorem dL_law_419 : decode cL_law 419 = .ok (.iconst 1, 1) := by decide +kernel
theorem dL_law_420 : decode cL_law 420 = .ok (.iadd, 1) := by decide +kernel
theorem dL_law_421 : decode cL_law 421 = .ok (.iaload, 1) := by decide +kernel
theorem dL_law_422 : decode cL_law 422 = .ok (.invokevirtual 49, 3) := by decide +kernel
theorem dL_law_425 : decode cL_law 425 = .ok (.aload_n 2, 1) := by decide +kernel
theorem dL_law_426 : decode cL_law 426 = .ok (.aload_n 0, 1) := by decide +kernel
theorem dL_law_427 : decode cL_law 427 = .ok (.iload_n 3, 1) := by decide +kernel
theorem dL_law_428 : decode cL_law 428 = .ok (.iconst 1, 1) := by decide +kernel
theorem dL_law_429 : decode cL_law 429 = .ok (.iadd, 1) := by decide +kernel
theorem dL_law_430 : decode cL_law 430 = .ok (.iaload, 1) := by decide +kernel
theorem dL_law_431 : decode cL_law 431 = .ok (.invokevirtual 52, 3) := by decide +kernel
theorem dL_law_434 : decode cL_law 434 = .ok (.if_icmp .eq 683, 3) := by decide +kernel
theorem dL_law_437 : decode cL_law 437 = .ok (.iconst 0, 1) := by decide +kernel
theorem dL_law_438 : decode cL_law 438 = .ok (.ireturn, 1) := by decide +kernel
theorem dL_law_439 : decode cL_law 439 = .ok (.aload_n 1, 1) := by decide +kernel
theorem dL_law_440 : decode cL_law 440 = .ok (.aload_n 0, 1) := by decide +kernel
theorem dL_law_441 : decode cL_law 441 = .ok (.iload_n 3, 1) := by decide +kernel
theorem dL_law_442 : decode cL_law 442 = .ok (.iconst 1, 1) := by decide +kernel
theorem dL_law_443 : decode cL_law 443 = .ok (.iadd, 1) := by decide +kernel
theorem dL_law_444 : decode cL_law 444 = .ok (.iaload, 1) := by decide +kernel
theorem dL_law_445 : decode cL_law 445 = .ok (.aload_n 0, 1) := by decide +kernel
theorem dL_law_446 : decode cL_law 446 = .ok (.iload_n 3, 1) := by decide +kernel
theorem dL_law_447 : decode cL_law 447 = .ok (.iconst 2, 1) := by decide +kernel
theorem dL_law_448 : decode cL_law 448 = .ok (.iadd, 1) := by decide +kernel
theorem dL_law_449 : decode cL_law 449 = .ok (.iaload, 1) := by decide +kernel
theorem dL_law_450 : decode cL_law 450 = .ok (.invokevirtual 53, 3) := by decide +kernel
theorem dL_law_453 : decode cL_law 453 = .ok (.aload_n 2, 1) := by decide +kernel
theorem dL_law_454 : decode cL_law 454 = .ok (.aload_n 0, 1) := by decide +kernel
theorem dL_law_455 : decode cL_law 455 = .ok (.iload_n 3, 1) := by decide +kernel
theorem dL_law_456 : decode cL_law 456 = .ok (.iconst 1, 1) := by decide +kernel
theorem dL_law_457 : decode cL_law 457 = .ok (.iadd, 1) := by decide +kernel
theorem dL_law_458 : decode cL_law 458 = .ok (.iaload, 1) := by decide +kernel
theorem dL_law_459 : decode cL_law 459 = .ok (.aload_n 0, 1) := by decide +kernel
theorem dL_law_460 : decode cL_law 460 = .ok (.iload_n 3, 1) := by decide +kernel
theorem dL_law_461 : decode cL_law 461 = .ok (.iconst 2, 1) := by decide +kernel
theorem dL_law_462 : decode cL_law 462 = .ok (.iadd, 1) := by decide +kernel
theorem dL_law_463 : decode cL_law 463 = .ok (.iaload, 1) := by decide +kernel
theorem dL_law_464 : decode cL_law 464 = .ok (.invokevirtual 56, 3) := by decide +kernel
theorem dL_law_467 : decode cL_law 467 = .ok (.if_icmp .eq 650, 3) := by decide +kernel
theorem dL_law_470 : decode cL_law 470 = .ok (.iconst 0, 1) := by decide +kernel
theorem dL_law_471 : decode cL_law 471 = .ok (.ireturn, 1) := by decide +kernel
theorem dL_law_472 : decode cL_law 472 = .ok (.aload_n 1, 1) := by decide +kernel
theorem dL_law_473 : decode cL_law 473 = .ok (.aload_n 0, 1) := by decide +kernel
theorem dL_law_474 : decode cL_law 474 = .ok (.iload_n 3, 1) := by decide +kernel
theorem dL_law_475 : decode cL_law 475 = .ok (.iconst 1, 1) := by decide +kernel
theorem dL_law_476 : decode cL_law 476 = .ok (.iadd, 1) := by decide +kernel
theorem dL_law_477 : decode cL_law 477 = .ok (.iaload, 1) := by decide +kernel
theorem dL_law_478 : decode cL_law 478 = .ok (.aload_n 0, 1) := by decide +kernel
theorem dL_law_479 : decode cL_law 479 = .ok (.iload_n 3, 1) := by decide +kernel
theorem dL_law_480 : decode cL_law 480 = .ok (.iconst 2, 1) := by decide +kernel
theorem dL_law_481 : decode cL_law 481 = .ok (.iadd, 1) := by decide +kernel
theorem dL_law_482 : decode cL_law 482 = .ok (.iaload, 1) := by decide +kernel
theorem dL_law_483 : decode cL_law 483 = .ok (.invokevirtual 57, 3) := by decide +kernel
theorem dL_law_486 : decode cL_law 486 = .ok (.aload_n 2, 1) := by decide +kernel
theorem dL_law_487 : decode cL_law 487 = .ok (.aload_n 0, 1) := by decide +kernel
theorem dL_law_488 : decode cL_law 488 = .ok (.iload_n 3, 1) := by decide +kernel
theorem dL_law_489 : decode cL_law 489 = .ok (.iconst 1, 1) := by decide +kernel
theorem dL_law_490 : decode cL_law 490 = .ok (.iadd, 1) := by decide +kernel
theorem dL_law_491 : decode cL_law 491 = .ok (.iaload, 1) := by decide +kernel
theorem dL_law_492 : decode cL_law 492 = .ok (.aload_n 0, 1) := by decide +kernel
theorem dL_law_493 : decode cL_law 493 = .ok (.iload_n 3, 1) := by decide +kernel
theorem dL_law_494 : decode cL_law 494 = .ok (.iconst 2, 1) := by decide +kernel
theorem dL_law_495 : decode cL_law 495 = .ok (.iadd, 1) := by decide +kernel
theorem dL_law_496 : decode cL_law 496 = .ok (.iaload, 1) := by decide +kernel
theorem dL_law_497 : decode cL_law 497 = .ok (.invokevirtual 60, 3) := by decide +kernel
theorem dL_law_500 : decode cL_law 500 = .ok (.if_icmp .eq 617, 3) := by decide +kernel
theorem dL_law_503 : decode cL_law 503 = .ok (.iconst 0, 1) := by decide +kernel
theorem dL_law_504 : decode cL_law 504 = .ok (.ireturn, 1) := by decide +kernel
theorem dL_law_505 : decode cL_law 505 = .ok (.aload_n 1, 1) := by decide +kernel
theorem dL_law_506 : decode cL_law 506 = .ok (.aload_n 0, 1) := by decide +kernel
theorem dL_law_507 : decode cL_law 507 = .ok (.iload_n 3, 1) := by decide +kernel
theorem dL_law_508 : decode cL_law 508 = .ok (.iconst 1, 1) := by decide +kernel
theorem dL_law_509 : decode cL_law 509 = .ok (.iadd, 1) := by decide +kernel
theorem dL_law_510 : decode cL_law 510 = .ok (.iaload, 1) := by decide +kernel
theorem dL_law_511 : decode cL_law 511 = .ok (.aload_n 0, 1) := by decide +kernel
theorem dL_law_512 : decode cL_law 512 = .ok (.iload_n 3, 1) := by decide +kernel
theorem dL_law_513 : decode cL_law 513 = .ok (.iconst 2, 1) := by decide +kernel
theorem dL_law_514 : decode cL_law 514 = .ok (.iadd, 1) := by decide +kernel
theorem dL_law_515 : decode cL_law 515 = .ok (.iaload, 1) := by decide +kernel
theorem dL_law_516 : decode cL_law 516 = .ok (.invokevirtual 61, 3) := by decide +kernel
theorem dL_law_519 : decode cL_law 519 = .ok (.aload_n 2, 1) := by decide +kernel
theorem dL_law_520 : decode cL_law 520 = .ok (.aload_n 0, 1) := by decide +kernel
theorem dL_law_521 : decode cL_law 521 = .ok (.iload_n 3, 1) := by decide +kernel
theorem dL_law_522 : decode cL_law 522 = .ok (.iconst 1, 1) := by decide +kernel
theorem dL_law_523 : decode cL_law 523 = .ok (.iadd, 1) := by decide +kernel
theorem dL_law_524 : decode cL_law 524 = .ok (.iaload, 1) := by decide +kernel
theorem dL_law_525 : decode cL_law 525 = .ok (.aload_n 0, 1) := by decide +kernel
theorem dL_law_526 : decode cL_law 526 = .ok (.iload_n 3, 1) := by decide +kernel
theorem dL_law_527 : decode cL_law 527 = .ok (.iconst 2, 1) := by decide +kernel
theorem dL_law_528 : decode cL_law 528 = .ok (.iadd, 1) := by decide +kernel
theorem dL_law_529 : decode cL_law 529 = .ok (.iaload, 1) := by decide +kernel
theorem dL_law_530 : decode cL_law 530 = .ok (.invokevirtual 64, 3) := by decide +kernel
theorem dL_law_533 : decode cL_law 533 = .ok (.if_icmp .eq 584, 3) := by decide +kernel
theorem dL_law_536 : decode cL_law 536 = .ok (.iconst 0, 1) := by decide +kernel
theorem dL_law_537 : decode cL_law 537 = .ok (.ireturn, 1) := by decide +kernel
theorem dL_law_538 : decode cL_law 538 = .ok (.aload_n 1, 1) := by decide +kernel
theorem dL_law_539 : decode cL_law 539 = .ok (.aload_n 0, 1) := by decide +kernel
theorem dL_law_540 : decode cL_law 540 = .ok (.iload_n 3, 1) := by decide +kernel
theorem dL_law_541 : decode cL_law 541 = .ok (.iconst 1, 1) := by decide +kernel
theorem dL_law_542 : decode cL_law 542 = .ok (.iadd, 1) := by decide +kernel
theorem dL_law_543 : decode cL_law 543 = .ok (.iaload, 1) := by decide +kernel
theorem dL_law_544 : decode cL_law 544 = .ok (.aload_n 0, 1) := by decide +kernel
theorem dL_law_545 : decode cL_law 545 = .ok (.iload_n 3, 1) := by decide +kernel
theorem dL_law_546 : decode cL_law 546 = .ok (.iconst 2, 1) := by decide +kernel
theorem dL_law_547 : decode cL_law 547 = .ok (.iadd, 1) := by decide +kernel
theorem dL_law_548 : decode cL_law 548 = .ok (.iaload, 1) := by decide +kernel
theorem dL_law_549 : decode cL_law 549 = .ok (.invokevirtual 65, 3) := by decide +kernel
theorem dL_law_552 : decode cL_law 552 = .ok (.aload_n 2, 1) := by decide +kernel
theorem dL_law_553 : decode cL_law 553 = .ok (.aload_n 0, 1) := by decide +kernel
theorem dL_law_554 : decode cL_law 554 = .ok (.iload_n 3, 1) := by decide +kernel
theorem dL_law_555 : decode cL_law 555 = .ok (.iconst 1, 1) := by decide +kernel
theorem dL_law_556 : decode cL_law 556 = .ok (.iadd, 1) := by decide +kernel
theorem dL_law_557 : decode cL_law 557 = .ok (.iaload, 1) := by decide +kernel
theorem dL_law_558 : decode cL_law 558 = .ok (.aload_n 0, 1) := by decide +kernel
theorem dL_law_559 : decode cL_law 559 = .ok (.iload_n 3, 1) := by decide +kernel
theorem dL_law_560 : decode cL_law 560 = .ok (.iconst 2, 1) := by decide +kernel
theorem dL_law_561 : decode cL_law 561 = .ok (.iadd, 1) := by decide +kernel
theorem dL_law_562 : decode cL_law 562 = .ok (.iaload, 1) := by decide +kernel
theorem dL_law_563 : decode cL_law 563 = .ok (.invokevirtual 68, 3) := by decide +kernel
theorem dL_law_566 : decode cL_law 566 = .ok (.if_icmp .eq 551, 3) := by decide +kernel
theorem dL_law_569 : decode cL_law 569 = .ok (.iconst 0, 1) := by decide +kernel
theorem dL_law_570 : decode cL_law 570 = .ok (.ireturn, 1) := by decide +kernel
theorem dL_law_571 : decode cL_law 571 = .ok (.aload_n 1, 1) := by decide +kernel
theorem dL_law_572 : decode cL_law 572 = .ok (.aload_n 0, 1) := by decide +kernel
theorem dL_law_573 : decode cL_law 573 = .ok (.iload_n 3, 1) := by decide +kernel
theorem dL_law_574 : decode cL_law 574 = .ok (.iconst 1, 1) := by decide +kernel
theorem dL_law_575 : decode cL_law 575 = .ok (.iadd, 1) := by decide +kernel
theorem dL_law_576 : decode cL_law 576 = .ok (.iaload, 1) := by decide +kernel
theorem dL_law_577 : decode cL_law 577 = .ok (.invokevirtual 69, 3) := by decide +kernel
theorem dL_law_580 : decode cL_law 580 = .ok (.aload_n 2, 1) := by decide +kernel
theorem dL_law_581 : decode cL_law 581 = .ok (.aload_n 0, 1) := by decide +kernel
theorem dL_law_582 : decode cL_law 582 = .ok (.iload_n 3, 1) := by decide +kernel
theorem dL_law_583 : decode cL_law 583 = .ok (.iconst 1, 1) := by decide +kernel
theorem dL_law_584 : decode cL_law 584 = .ok (.iadd, 1) := by decide +kernel
theorem dL_law_585 : decode cL_law 585 = .ok (.iaload, 1) := by decide +kernel
theorem dL_law_586 : decode cL_law 586 = .ok (.invokevirtual 72, 3) := by decide +kernel
theorem dL_law_589 : decode cL_law 589 = .ok (.if_icmp .eq 528, 3) := by decide +kernel
theorem dL_law_592 : decode cL_law 592 = .ok (.iconst 0, 1) := by decide +kernel
theorem dL_law_593 : decode cL_law 593 = .ok (.ireturn, 1) := by decide +kernel
theorem dL_law_594 : decode cL_law 594 = .ok (.aload_n 1, 1) := by decide +kernel
theorem dL_law_595 : decode cL_law 595 = .ok (.invokevirtual 73, 3) := by decide +kernel
theorem dL_law_598 : decode cL_law 598 = .ok (.aload_n 2, 1) := by decide +kernel
theorem dL_law_599 : decode cL_law 599 = .ok (.invokevirtual 76, 3) := by decide +kernel
theorem dL_law_602 : decode cL_law 602 = .ok (.if_icmp .eq 515, 3) := by decide +kernel
theorem dL_law_605 : decode cL_law 605 = .ok (.iconst 0, 1) := by decide +kernel
theorem dL_law_606 : decode cL_law 606 = .ok (.ireturn, 1) := by decide +kernel
theorem dL_law_607 : decode cL_law 607 = .ok (.aload_n 1, 1) := by decide +kernel
theorem dL_law_608 : decode cL_law 608 = .ok (.aload_n 0, 1) := by decide +kernel
theorem dL_law_609 : decode cL_law 609 = .ok (.iload_n 3, 1) := by decide +kernel
theorem dL_law_610 : decode cL_law 610 = .ok (.iconst 1, 1) := by decide +kernel
theorem dL_law_611 : decode cL_law 611 = .ok (.iadd, 1) := by decide +kernel
theorem dL_law_612 : decode cL_law 612 = .ok (.iaload, 1) := by decide +kernel
theorem dL_law_613 : decode cL_law 613 = .ok (.invokevirtual 77, 3) := by decide +kernel
theorem dL_law_616 : decode cL_law 616 = .ok (.aload_n 2, 1) := by decide +kernel
theorem dL_law_617 : decode cL_law 617 = .ok (.aload_n 0, 1) := by decide +kernel
theorem dL_law_618 : decode cL_law 618 = .ok (.iload_n 3, 1) := by decide +kernel
theorem dL_law_619 : decode cL_law 619 = .ok (.iconst 1, 1) := by decide +kernel
theorem dL_law_620 : decode cL_law 620 = .ok (.iadd, 1) := by decide +kernel
theorem dL_law_621 : decode cL_law 621 = .ok (.iaload, 1) := by decide +kernel
theorem dL_law_622 : decode cL_law 622 = .ok (.invokevirtual 80, 3) := by decide +kernel
theorem dL_law_625 : decode cL_law 625 = .ok (.if_icmp .eq 492, 3) := by decide +kernel
theorem dL_law_628 : decode cL_law 628 = .ok (.iconst 0, 1) := by decide +kernel
theorem dL_law_629 : decode cL_law 629 = .ok (.ireturn, 1) := by decide +kernel
theorem dL_law_630 : decode cL_law 630 = .ok (.aload_n 1, 1) := by decide +kernel
theorem dL_law_631 : decode cL_law 631 = .ok (.aload_n 0, 1) := by decide +kernel
theorem dL_law_632 : decode cL_law 632 = .ok (.iload_n 3, 1) := by decide +kernel
theorem dL_law_633 : decode cL_law 633 = .ok (.iconst 1, 1) := by decide +kernel
theorem dL_law_634 : decode cL_law 634 = .ok (.iadd, 1) := by decide +kernel
theorem dL_law_635 : decode cL_law 635 = .ok (.iaload, 1) := by decide +kernel
theorem dL_law_636 : decode cL_law 636 = .ok (.invokevirtual 81, 3) := by decide +kernel
theorem dL_law_639 : decode cL_law 639 = .ok (.aload_n 2, 1) := by decide +kernel
theorem dL_law_640 : decode cL_law 640 = .ok (.aload_n 0, 1) := by decide +kernel
theorem dL_law_641 : decode cL_law 641 = .ok (.iload_n 3, 1) := by decide +kernel
theorem dL_law_642 : decode cL_law 642 = .ok (.iconst 1, 1) := by decide +kernel
theorem dL_law_643 : decode cL_law 643 = .ok (.iadd, 1) := by decide +kernel
theorem dL_law_644 : decode cL_law 644 = .ok (.iaload, 1) := by decide +kernel
theorem dL_law_645 : decode cL_law 645 = .ok (.invokevirtual 84, 3) := by decide +kernel
theorem dL_law_648 : decode cL_law 648 = .ok (.if_icmp .eq 469, 3) := by decide +kernel
theorem dL_law_651 : decode cL_law 651 = .ok (.iconst 0, 1) := by decide +kernel
theorem dL_law_652 : decode cL_law 652 = .ok (.ireturn, 1) := by decide +kernel
theorem dL_law_653 : decode cL_law 653 = .ok (.aload_n 1, 1) := by decide +kernel
theorem dL_law_654 : decode cL_law 654 = .ok (.aload_n 0, 1) := by decide +kernel
theorem dL_law_655 : decode cL_law 655 = .ok (.iload_n 3, 1) := by decide +kernel
theorem dL_law_656 : decode cL_law 656 = .ok (.iconst 1, 1) := by decide +kernel
theorem dL_law_657 : decode cL_law 657 = .ok (.iadd, 1) := by decide +kernel
theorem dL_law_658 : decode cL_law 658 = .ok (.iaload, 1) := by decide +kernel
theorem dL_law_659 : decode cL_law 659 = .ok (.aload_n 0, 1) := by decide +kernel
theorem dL_law_660 : decode cL_law 660 = .ok (.iload_n 3, 1) := by decide +kernel
theorem dL_law_661 : decode cL_law 661 = .ok (.iconst 2, 1) := by decide +kernel
theorem dL_law_662 : decode cL_law 662 = .ok (.iadd, 1) := by decide +kernel
theorem dL_law_663 : decode cL_law 663 = .ok (.iaload, 1) := by decide +kernel
theorem dL_law_664 : decode cL_law 664 = .ok (.invokevirtual 85, 3) := by decide +kernel
theorem dL_law_667 : decode cL_law 667 = .ok (.aload_n 2, 1) := by decide +kernel
theorem dL_law_668 : decode cL_law 668 = .ok (.aload_n 0, 1) := by decide +kernel
theorem dL_law_669 : decode cL_law 669 = .ok (.iload_n 3, 1) := by decide +kernel
theorem dL_law_670 : decode cL_law 670 = .ok (.iconst 1, 1) := by decide +kernel
theorem dL_law_671 : decode cL_law 671 = .ok (.iadd, 1) := by decide +kernel
theorem dL_law_672 : decode cL_law 672 = .ok (.iaload, 1) := by decide +kernel
theorem dL_law_673 : decode cL_law 673 = .ok (.aload_n 0, 1) := by decide +kernel
theorem dL_law_674 : decode cL_law 674 = .ok (.iload_n 3, 1) := by decide +kernel
theorem dL_law_675 : decode cL_law 675 = .ok (.iconst 2, 1) := by decide +kernel
theorem dL_law_676 : decode cL_law 676 = .ok (.iadd, 1) := by decide +kernel
theorem dL_law_677 : decode cL_law 677 = .ok (.iaload, 1) := by decide +kernel
theorem dL_law_678 : decode cL_law 678 = .ok (.invokevirtual 88, 3) := by decide +kernel
theorem dL_law_681 : decode cL_law 681 = .ok (.if_icmp .eq 436, 3) := by decide +kernel
theorem dL_law_684 : decode cL_law 684 = .ok (.iconst 0, 1) := by decide +kernel
theorem dL_law_685 : decode cL_law 685 = .ok (.ireturn, 1) := by decide +kernel
theorem dL_law_686 : decode cL_law 686 = .ok (.aload_n 1, 1) := by decide +kernel
theorem dL_law_687 : decode cL_law 687 = .ok (.aload_n 0, 1) := by decide +kernel
theorem dL_law_688 : decode cL_law 688 = .ok (.iload_n 3, 1) := by decide +kernel
theorem dL_law_689 : decode cL_law 689 = .ok (.iconst 1, 1) := by decide +kernel
theorem dL_law_690 : decode cL_law 690 = .ok (.iadd, 1) := by decide +kernel
theorem dL_law_691 : decode cL_law 691 = .ok (.iaload, 1) := by decide +kernel
theorem dL_law_692 : decode cL_law 692 = .ok (.aload_n 0, 1) := by decide +kernel
theorem dL_law_693 : decode cL_law 693 = .ok (.iload_n 3, 1) := by decide +kernel
theorem dL_law_694 : decode cL_law 694 = .ok (.iconst 2, 1) := by decide +kernel
theorem dL_law_695 : decode cL_law 695 = .ok (.iadd, 1) := by decide +kernel
theorem dL_law_696 : decode cL_law 696 = .ok (.iaload, 1) := by decide +kernel
theorem dL_law_697 : decode cL_law 697 = .ok (.invokevirtual 89, 3) := by decide +kernel
theorem dL_law_700 : decode cL_law 700 = .ok (.aload_n 2, 1) := by decide +kernel
theorem dL_law_701 : decode cL_law 701 = .ok (.aload_n 0, 1) := by decide +kernel
theorem dL_law_702 : decode cL_law 702 = .ok (.iload_n 3, 1) := by decide +kernel
theorem dL_law_703 : decode cL_law 703 = .ok (.iconst 1, 1) := by decide +kernel
theorem dL_law_704 : decode cL_law 704 = .ok (.iadd, 1) := by decide +kernel
theorem dL_law_705 : decode cL_law 705 = .ok (.iaload, 1) := by decide +kernel
theorem dL_law_706 : decode cL_law 706 = .ok (.aload_n 0, 1) := by decide +kernel
theorem dL_law_707 : decode cL_law 707 = .ok (.iload_n 3, 1) := by decide +kernel
theorem dL_law_708 : decode cL_law 708 = .ok (.iconst 2, 1) := by decide +kernel
theorem dL_law_709 : decode cL_law 709 = .ok (.iadd, 1) := by decide +kernel
theorem dL_law_710 : decode cL_law 710 = .ok (.iaload, 1) := by decide +kernel
theorem dL_law_711 : decode cL_law 711 = .ok (.invokevirtual 92, 3) := by decide +kernel
theorem dL_law_714 : decode cL_law 714 = .ok (.if_icmp .eq 403, 3) := by decide +kernel
theorem dL_law_717 : decode cL_law 717 = .ok (.iconst 0, 1) := by decide +kernel
theorem dL_law_718 : decode cL_law 718 = .ok (.ireturn, 1) := by decide +kernel
theorem dL_law_719 : decode cL_law 719 = .ok (.aload_n 1, 1) := by decide +kernel
theorem dL_law_720 : decode cL_law 720 = .ok (.invokevirtual 93, 3) := by decide +kernel
theorem dL_law_723 : decode cL_law 723 = .ok (.aload_n 2, 1) := by decide +kernel
theorem dL_law_724 : decode cL_law 724 = .ok (.invokevirtual 97, 3) := by decide +kernel
theorem dL_law_727 : decode cL_law 727 = .ok (.lcmp, 1) := by decide +kernel
theorem dL_law_728 : decode cL_law 728 = .ok (.ifCond .eq 389, 3) := by decide +kernel
theorem dL_law_731 : decode cL_law 731 = .ok (.iconst 0, 1) := by decide +kernel
theorem dL_law_732 : decode cL_law 732 = .ok (.ireturn, 1) := by decide +kernel
theorem dL_law_733 : decode cL_law 733 = .ok (.aload_n 1, 1) := by decide +kernel
theorem dL_law_734 : decode cL_law 734 = .ok (.aload_n 0, 1) := by decide +kernel
theorem dL_law_735 : decode cL_law 735 = .ok (.iload_n 3, 1) := by decide +kernel
theorem dL_law_736 : decode cL_law 736 = .ok (.iconst 1, 1) := by decide +kernel
theorem dL_law_737 : decode cL_law 737 = .ok (.iadd, 1) := by decide +kernel
theorem dL_law_738 : decode cL_law 738 = .ok (.iaload, 1) := by decide +kernel
theorem dL_law_739 : decode cL_law 739 = .ok (.aload_n 0, 1) := by decide +kernel
theorem dL_law_740 : decode cL_law 740 = .ok (.iload_n 3, 1) := by decide +kernel
theorem dL_law_741 : decode cL_law 741 = .ok (.iconst 2, 1) := by decide +kernel
theorem dL_law_742 : decode cL_law 742 = .ok (.iadd, 1) := by decide +kernel
theorem dL_law_743 : decode cL_law 743 = .ok (.iaload, 1) := by decide +kernel
theorem dL_law_744 : decode cL_law 744 = .ok (.aload_n 0, 1) := by decide +kernel
theorem dL_law_745 : decode cL_law 745 = .ok (.iload_n 3, 1) := by decide +kernel
theorem dL_law_746 : decode cL_law 746 = .ok (.iconst 3, 1) := by decide +kernel
theorem dL_law_747 : decode cL_law 747 = .ok (.iadd, 1) := by decide +kernel
theorem dL_law_748 : decode cL_law 748 = .ok (.iaload, 1) := by decide +kernel
theorem dL_law_749 : decode cL_law 749 = .ok (.invokevirtual 98, 3) := by decide +kernel
theorem dL_law_752 : decode cL_law 752 = .ok (.aload_n 2, 1) := by decide +kernel
theorem dL_law_753 : decode cL_law 753 = .ok (.aload_n 0, 1) := by decide +kernel
theorem dL_law_754 : decode cL_law 754 = .ok (.iload_n 3, 1) := by decide +kernel
theorem dL_law_755 : decode cL_law 755 = .ok (.iconst 1, 1) := by decide +kernel
theorem dL_law_756 : decode cL_law 756 = .ok (.iadd, 1) := by decide +kernel
theorem dL_law_757 : decode cL_law 757 = .ok (.iaload, 1) := by decide +kernel
theorem dL_law_758 : decode cL_law 758 = .ok (.aload_n 0, 1) := by decide +kernel
theorem dL_law_759 : decode cL_law 759 = .ok (.iload_n 3, 1) := by decide +kernel
theorem dL_law_760 : decode cL_law 760 = .ok (.iconst 2, 1) := by decide +kernel
theorem dL_law_761 : decode cL_law 761 = .ok (.iadd, 1) := by decide +kernel
theorem dL_law_762 : decode cL_law 762 = .ok (.iaload, 1) := by decide +kernel
theorem dL_law_763 : decode cL_law 763 = .ok (.aload_n 0, 1) := by decide +kernel
theorem dL_law_764 : decode cL_law 764 = .ok (.iload_n 3, 1) := by decide +kernel
theorem dL_law_765 : decode cL_law 765 = .ok (.iconst 3, 1) := by decide +kernel
theorem dL_law_766 : decode cL_law 766 = .ok (.iadd, 1) := by decide +kernel
theorem dL_law_767 : decode cL_law 767 = .ok (.iaload, 1) := by decide +kernel
theorem dL_law_768 : decode cL_law 768 = .ok (.invokevirtual 102, 3) := by decide +kernel
theorem dL_law_771 : decode cL_law 771 = .ok (.lcmp, 1) := by decide +kernel
theorem dL_law_772 : decode cL_law 772 = .ok (.ifCond .eq 345, 3) := by decide +kernel
theorem dL_law_775 : decode cL_law 775 = .ok (.iconst 0, 1) := by decide +kernel
theorem dL_law_776 : decode cL_law 776 = .ok (.ireturn, 1) := by decide +kernel
theorem dL_law_777 : decode cL_law 777 = .ok (.aload_n 1, 1) := by decide +kernel
theorem dL_law_778 : decode cL_law 778 = .ok (.aload_n 0, 1) := by decide +kernel
theorem dL_law_779 : decode cL_law 779 = .ok (.iload_n 3, 1) := by decide +kernel
theorem dL_law_780 : decode cL_law 780 = .ok (.iconst 1, 1) := by decide +kernel
theorem dL_law_781 : decode cL_law 781 = .ok (.iadd, 1) := by decide +kernel
theorem dL_law_782 : decode cL_law 782 = .ok (.iaload, 1) := by decide +kernel
theorem dL_law_783 : decode cL_law 783 = .ok (.aload_n 0, 1) := by decide +kernel
theorem dL_law_784 : decode cL_law 784 = .ok (.iload_n 3, 1) := by decide +kernel
theorem dL_law_785 : decode cL_law 785 = .ok (.iconst 2, 1) := by decide +kernel
theorem dL_law_786 : decode cL_law 786 = .ok (.iadd, 1) := by decide +kernel
theorem dL_law_787 : decode cL_law 787 = .ok (.iaload, 1) := by decide +kernel
theorem dL_law_788 : decode cL_law 788 = .ok (.invokevirtual 103, 3) := by decide +kernel
theorem dL_law_791 : decode cL_law 791 = .ok (.aload_n 2, 1) := by decide +kernel
theorem dL_law_792 : decode cL_law 792 = .ok (.aload_n 0, 1) := by decide +kernel
theorem dL_law_793 : decode cL_law 793 = .ok (.iload_n 3, 1) := by decide +kernel
theorem dL_law_794 : decode cL_law 794 = .ok (.iconst 1, 1) := by decide +kernel
theorem dL_law_795 : decode cL_law 795 = .ok (.iadd, 1) := by decide +kernel
theorem dL_law_796 : decode cL_law 796 = .ok (.iaload, 1) := by decide +kernel
theorem dL_law_797 : decode cL_law 797 = .ok (.aload_n 0, 1) := by decide +kernel
theorem dL_law_798 : decode cL_law 798 = .ok (.iload_n 3, 1) := by decide +kernel
theorem dL_law_799 : decode cL_law 799 = .ok (.iconst 2, 1) := by decide +kernel
theorem dL_law_800 : decode cL_law 800 = .ok (.iadd, 1) := by decide +kernel
theorem dL_law_801 : decode cL_law 801 = .ok (.iaload, 1) := by decide +kernel
theorem dL_law_802 : decode cL_law 802 = .ok (.invokevirtual 106, 3) := by decide +kernel
theorem dL_law_805 : decode cL_law 805 = .ok (.if_icmp .eq 312, 3) := by decide +kernel
theorem dL_law_808 : decode cL_law 808 = .ok (.iconst 0, 1) := by decide +kernel
theorem dL_law_809 : decode cL_law 809 = .ok (.ireturn, 1) := by decide +kernel
theorem dL_law_810 : decode cL_law 810 = .ok (.aload_n 1, 1) := by decide +kernel
theorem dL_law_811 : decode cL_law 811 = .ok (.aload_n 0, 1) := by decide +kernel
theorem dL_law_812 : decode cL_law 812 = .ok (.iload_n 3, 1) := by decide +kernel
theorem dL_law_813 : decode cL_law 813 = .ok (.iconst 1, 1) := by decide +kernel
theorem dL_law_814 : decode cL_law 814 = .ok (.iadd, 1) := by decide +kernel
theorem dL_law_815 : decode cL_law 815 = .ok (.iaload, 1) := by decide +kernel
theorem dL_law_816 : decode cL_law 816 = .ok (.invokevirtual 107, 3) := by decide +kernel
theorem dL_law_819 : decode cL_law 819 = .ok (.aload_n 2, 1) := by decide +kernel
theorem dL_law_820 : decode cL_law 820 = .ok (.aload_n 0, 1) := by decide +kernel
theorem dL_law_821 : decode cL_law 821 = .ok (.iload_n 3, 1) := by decide +kernel
theorem dL_law_822 : decode cL_law 822 = .ok (.iconst 1, 1) := by decide +kernel
theorem dL_law_823 : decode cL_law 823 = .ok (.iadd, 1) := by decide +kernel
theorem dL_law_824 : decode cL_law 824 = .ok (.iaload, 1) := by decide +kernel
theorem dL_law_825 : decode cL_law 825 = .ok (.invokevirtual 110, 3) := by decide +kernel
theorem dL_law_828 : decode cL_law 828 = .ok (.if_icmp .eq 289, 3) := by decide +kernel
theorem dL_law_831 : decode cL_law 831 = .ok (.iconst 0, 1) := by decide +kernel
theorem dL_law_832 : decode cL_law 832 = .ok (.ireturn, 1) := by decide +kernel
theorem dL_law_833 : decode cL_law 833 = .ok (.aload_n 1, 1) := by decide +kernel
theorem dL_law_834 : decode cL_law 834 = .ok (.invokevirtual 111, 3) := by decide +kernel
theorem dL_law_837 : decode cL_law 837 = .ok (.aload_n 2, 1) := by decide +kernel
theorem dL_law_838 : decode cL_law 838 = .ok (.invokevirtual 114, 3) := by decide +kernel
theorem dL_law_841 : decode cL_law 841 = .ok (.if_icmp .eq 276, 3) := by decide +kernel
theorem dL_law_844 : decode cL_law 844 = .ok (.iconst 0, 1) := by decide +kernel
theorem dL_law_845 : decode cL_law 845 = .ok (.ireturn, 1) := by decide +kernel
theorem dL_law_846 : decode cL_law 846 = .ok (.aload_n 1, 1) := by decide +kernel
theorem dL_law_847 : decode cL_law 847 = .ok (.invokevirtual 115, 3) := by decide +kernel
theorem dL_law_850 : decode cL_law 850 = .ok (.aload_n 2, 1) := by decide +kernel
theorem dL_law_851 : decode cL_law 851 = .ok (.invokevirtual 118, 3) := by decide +kernel
theorem dL_law_854 : decode cL_law 854 = .ok (.if_icmp .eq 263, 3) := by decide +kernel
theorem dL_law_857 : decode cL_law 857 = .ok (.iconst 0, 1) := by decide +kernel
theorem dL_law_858 : decode cL_law 858 = .ok (.ireturn, 1) := by decide +kernel
theorem dL_law_859 : decode cL_law 859 = .ok (.aload_n 1, 1) := by decide +kernel
theorem dL_law_860 : decode cL_law 860 = .ok (.aload_n 0, 1) := by decide +kernel
theorem dL_law_861 : decode cL_law 861 = .ok (.iload_n 3, 1) := by decide +kernel
theorem dL_law_862 : decode cL_law 862 = .ok (.iconst 1, 1) := by decide +kernel
theorem dL_law_863 : decode cL_law 863 = .ok (.iadd, 1) := by decide +kernel
theorem dL_law_864 : decode cL_law 864 = .ok (.iaload, 1) := by decide +kernel
theorem dL_law_865 : decode cL_law 865 = .ok (.invokevirtual 119, 3) := by decide +kernel
theorem dL_law_868 : decode cL_law 868 = .ok (.aload_n 2, 1) := by decide +kernel
theorem dL_law_869 : decode cL_law 869 = .ok (.aload_n 0, 1) := by decide +kernel
theorem dL_law_870 : decode cL_law 870 = .ok (.iload_n 3, 1) := by decide +kernel
theorem dL_law_871 : decode cL_law 871 = .ok (.iconst 1, 1) := by decide +kernel
theorem dL_law_872 : decode cL_law 872 = .ok (.iadd, 1) := by decide +kernel
theorem dL_law_873 : decode cL_law 873 = .ok (.iaload, 1) := by decide +kernel
theorem dL_law_874 : decode cL_law 874 = .ok (.invokevirtual 122, 3) := by decide +kernel
theorem dL_law_877 : decode cL_law 877 = .ok (.if_icmp .eq 240, 3) := by decide +kernel
theorem dL_law_880 : decode cL_law 880 = .ok (.iconst 0, 1) := by decide +kernel
theorem dL_law_881 : decode cL_law 881 = .ok (.ireturn, 1) := by decide +kernel
theorem dL_law_882 : decode cL_law 882 = .ok (.aload_n 1, 1) := by decide +kernel
theorem dL_law_883 : decode cL_law 883 = .ok (.aload_n 0, 1) := by decide +kernel
theorem dL_law_884 : decode cL_law 884 = .ok (.iload_n 3, 1) := by decide +kernel
theorem dL_law_885 : decode cL_law 885 = .ok (.iconst 1, 1) := by decide +kernel
theorem dL_law_886 : decode cL_law 886 = .ok (.iadd, 1) := by decide +kernel
theorem dL_law_887 : decode cL_law 887 = .ok (.iaload, 1) := by decide +kernel
theorem dL_law_888 : decode cL_law 888 = .ok (.aload_n 0, 1) := by decide +kernel
theorem dL_law_889 : decode cL_law 889 = .ok (.iload_n 3, 1) := by decide +kernel
theorem dL_law_890 : decode cL_law 890 = .ok (.iconst 2, 1) := by decide +kernel
theorem dL_law_891 : decode cL_law 891 = .ok (.iadd, 1) := by decide +kernel
theorem dL_law_892 : decode cL_law 892 = .ok (.iaload, 1) := by decide +kernel
theorem dL_law_893 : decode cL_law 893 = .ok (.aload_n 0, 1) := by decide +kernel
theorem dL_law_894 : decode cL_law 894 = .ok (.iload_n 3, 1) := by decide +kernel
theorem dL_law_895 : decode cL_law 895 = .ok (.iconst 3, 1) := by decide +kernel
theorem dL_law_896 : decode cL_law 896 = .ok (.iadd, 1) := by decide +kernel
theorem dL_law_897 : decode cL_law 897 = .ok (.iaload, 1) := by decide +kernel
theorem dL_law_898 : decode cL_law 898 = .ok (.invokevirtual 123, 3) := by decide +kernel
theorem dL_law_901 : decode cL_law 901 = .ok (.aload_n 2, 1) := by decide +kernel
theorem dL_law_902 : decode cL_law 902 = .ok (.aload_n 0, 1) := by decide +kernel
theorem dL_law_903 : decode cL_law 903 = .ok (.iload_n 3, 1) := by decide +kernel
theorem dL_law_904 : decode cL_law 904 = .ok (.iconst 1, 1) := by decide +kernel
theorem dL_law_905 : decode cL_law 905 = .ok (.iadd, 1) := by decide +kernel
theorem dL_law_906 : decode cL_law 906 = .ok (.iaload, 1) := by decide +kernel
theorem dL_law_907 : decode cL_law 907 = .ok (.aload_n 0, 1) := by decide +kernel
theorem dL_law_908 : decode cL_law 908 = .ok (.iload_n 3, 1) := by decide +kernel
theorem dL_law_909 : decode cL_law 909 = .ok (.iconst 2, 1) := by decide +kernel
theorem dL_law_910 : decode cL_law 910 = .ok (.iadd, 1) := by decide +kernel
theorem dL_law_911 : decode cL_law 911 = .ok (.iaload, 1) := by decide +kernel
theorem dL_law_912 : decode cL_law 912 = .ok (.aload_n 0, 1) := by decide +kernel
theorem dL_law_913 : decode cL_law 913 = .ok (.iload_n 3, 1) := by decide +kernel
theorem dL_law_914 : decode cL_law 914 = .ok (.iconst 3, 1) := by decide +kernel
theorem dL_law_915 : decode cL_law 915 = .ok (.iadd, 1) := by decide +kernel
theorem dL_law_916 : decode cL_law 916 = .ok (.iaload, 1) := by decide +kernel
theorem dL_law_917 : decode cL_law 917 = .ok (.invokevirtual 126, 3) := by decide +kernel
theorem dL_law_920 : decode cL_law 920 = .ok (.if_icmp .eq 197, 3) := by decide +kernel
theorem dL_law_923 : decode cL_law 923 = .ok (.iconst 0, 1) := by decide +kernel
theorem dL_law_924 : decode cL_law 924 = .ok (.ireturn, 1) := by decide +kernel
theorem dL_law_925 : decode cL_law 925 = .ok (.aload_n 1, 1) := by decide +kernel
theorem dL_law_926 : decode cL_law 926 = .ok (.aload_n 0, 1) := by decide +kernel
theorem dL_law_927 : decode cL_law 927 = .ok (.iload_n 3, 1) := by decide +kernel
theorem dL_law_928 : decode cL_law 928 = .ok (.iconst 1, 1) := by decide +kernel
theorem dL_law_929 : decode cL_law 929 = .ok (.iadd, 1) := by decide +kernel
theorem dL_law_930 : decode cL_law 930 = .ok (.iaload, 1) := by decide +kernel
theorem dL_law_931 : decode cL_law 931 = .ok (.aload_n 0, 1) := by decide +kernel
theorem dL_law_932 : decode cL_law 932 = .ok (.iload_n 3, 1) := by decide +kernel
theorem dL_law_933 : decode cL_law 933 = .ok (.iconst 2, 1) := by decide +kernel
theorem dL_law_934 : decode cL_law 934 = .ok (.iadd, 1) := by decide +kernel
theorem dL_law_935 : decode cL_law 935 = .ok (.iaload, 1) := by decide +kernel
theorem dL_law_936 : decode cL_law 936 = .ok (.aload_n 0, 1) := by decide +kernel
theorem dL_law_937 : decode cL_law 937 = .ok (.iload_n 3, 1) := by decide +kernel
theorem dL_law_938 : decode cL_law 938 = .ok (.iconst 3, 1) := by decide +kernel
theorem dL_law_939 : decode cL_law 939 = .ok (.iadd, 1) := by decide +kernel
theorem dL_law_940 : decode cL_law 940 = .ok (.iaload, 1) := by decide +kernel
theorem dL_law_941 : decode cL_law 941 = .ok (.invokevirtual 127, 3) := by decide +kernel
theorem dL_law_944 : decode cL_law 944 = .ok (.aload_n 2, 1) := by decide +kernel
theorem dL_law_945 : decode cL_law 945 = .ok (.aload_n 0, 1) := by decide +kernel
theorem dL_law_946 : decode cL_law 946 = .ok (.iload_n 3, 1) := by decide +kernel
theorem dL_law_947 : decode cL_law 947 = .ok (.iconst 1, 1) := by decide +kernel
theorem dL_law_948 : decode cL_law 948 = .ok (.iadd, 1) := by decide +kernel
theorem dL_law_949 : decode cL_law 949 = .ok (.iaload, 1) := by decide +kernel
theorem dL_law_950 : decode cL_law 950 = .ok (.aload_n 0, 1) := by decide +kernel
theorem dL_law_951 : decode cL_law 951 = .ok (.iload_n 3, 1) := by decide +kernel
theorem dL_law_952 : decode cL_law 952 = .ok (.iconst 2, 1) := by decide +kernel
theorem dL_law_953 : decode cL_law 953 = .ok (.iadd, 1) := by decide +kernel
theorem dL_law_954 : decode cL_law 954 = .ok (.iaload, 1) := by decide +kernel
theorem dL_law_955 : decode cL_law 955 = .ok (.aload_n 0, 1) := by decide +kernel
theorem dL_law_956 : decode cL_law 956 = .ok (.iload_n 3, 1) := by decide +kernel
theorem dL_law_957 : decode cL_law 957 = .ok (.iconst 3, 1) := by decide +kernel
theorem dL_law_958 : decode cL_law 958 = .ok (.iadd, 1) := by decide +kernel
theorem dL_law_959 : decode cL_law 959 = .ok (.iaload, 1) := by decide +kernel
