theorem dX9_leaf_15 : decode cX9_leaf 15 = .ok (.getfield 60, 3) := by decide +kernel
theorem dX9_leaf_18 : decode cX9_leaf 18 = .ok (.iload_n 1, 1) := by decide +kernel
theorem dX9_leaf_19 : decode cX9_leaf 19 = .ok (.iaload, 1) := by decide +kernel
theorem dX9_leaf_20 : decode cX9_leaf 20 = .ok (.invokevirtual 347, 3) := by decide +kernel
theorem dX9_leaf_23 : decode cX9_leaf 23 = .ok (.ifCond .eq 7, 3) := by decide +kernel
theorem dX9_leaf_26 : decode cX9_leaf 26 = .ok (.iconst 1, 1) := by decide +kernel
theorem dX9_leaf_27 : decode cX9_leaf 27 = .ok (.goto 4, 3) := by decide +kernel
theorem dX9_leaf_30 : decode cX9_leaf 30 = .ok (.iconst 0, 1) := by decide +kernel
theorem dX9_leaf_31 : decode cX9_leaf 31 = .ok (.istore_n 3, 1) := by decide +kernel
theorem dX9_leaf_32 : decode cX9_leaf 32 = .ok (.iload_n 2, 1) := by decide +kernel
theorem dX9_leaf_33 : decode cX9_leaf 33 = .ok (.bipush 9, 2) := by decide +kernel
theorem dX9_leaf_35 : decode cX9_leaf 35 = .ok (.if_icmp .ne 13, 3) := by decide +kernel
theorem dX9_leaf_38 : decode cX9_leaf 38 = .ok (.aload_n 0, 1) := by decide +kernel
theorem dX9_leaf_39 : decode cX9_leaf 39 = .ok (.aload_n 0, 1) := by decide +kernel
theorem dX9_leaf_40 : decode cX9_leaf 40 = .ok (.getfield 60, 3) := by decide +kernel
theorem dX9_leaf_43 : decode cX9_leaf 43 = .ok (.iload_n 1, 1) := by decide +kernel
theorem dX9_leaf_44 : decode cX9_leaf 44 = .ok (.iaload, 1) := by decide +kernel
theorem dX9_leaf_45 : decode cX9_leaf 45 = .ok (.invokevirtual 344, 3) := by decide +kernel
theorem dX9_leaf_48 : decode cX9_leaf 48 = .ok (.iconst 0, 1) := by decide +kernel
theorem dX9_leaf_49 : decode cX9_leaf 49 = .ok (.istore 4, 2) := by decide +kernel
theorem dX9_leaf_51 : decode cX9_leaf 51 = .ok (.iload 4, 2) := by decide +kernel
theorem dX9_leaf_53 : decode cX9_leaf 53 = .ok (.bipush 81, 2) := by decide +kernel
theorem dX9_leaf_55 : decode cX9_leaf 55 = .ok (.if_icmp .ge 184, 3) := by decide +kernel
theorem dX9_leaf_58 : decode cX9_leaf 58 = .ok (.iload_n 3, 1) := by decide +kernel
theorem dX9_leaf_59 : decode cX9_leaf 59 = .ok (.istore 5, 2) := by decide +kernel
theorem dX9_leaf_61 : decode cX9_leaf 61 = .ok (.iload_n 2, 1) := by decide +kernel
theorem dX9_leaf_62 : decode cX9_leaf 62 = .ok (.bipush 8, 2) := by decide +kernel
theorem dX9_leaf_64 : decode cX9_leaf 64 = .ok (.if_icmp .ne 38, 3) := by decide +kernel
theorem dX9_leaf_67 : decode cX9_leaf 67 = .ok (.iload 4, 2) := by decide +kernel
theorem dX9_leaf_69 : decode cX9_leaf 69 = .ok (.aload_n 0, 1) := by decide +kernel
theorem dX9_leaf_70 : decode cX9_leaf 70 = .ok (.getfield 60, 3) := by decide +kernel
theorem dX9_leaf_73 : decode cX9_leaf 73 = .ok (.iload_n 1, 1) := by decide +kernel
theorem dX9_leaf_74 : decode cX9_leaf 74 = .ok (.iaload, 1) := by decide +kernel
theorem dX9_leaf_75 : decode cX9_leaf 75 = .ok (.invokestatic 350, 3) := by decide +kernel
theorem dX9_leaf_78 : decode cX9_leaf 78 = .ok (.iload 4, 2) := by decide +kernel
theorem dX9_leaf_80 : decode cX9_leaf 80 = .ok (.aload_n 0, 1) := by decide +kernel
theorem dX9_leaf_81 : decode cX9_leaf 81 = .ok (.getfield 63, 3) := by decide +kernel
theorem dX9_leaf_84 : decode cX9_leaf 84 = .ok (.iload_n 1, 1) := by decide +kernel
theorem dX9_leaf_85 : decode cX9_leaf 85 = .ok (.iaload, 1) := by decide +kernel
theorem dX9_leaf_86 : decode cX9_leaf 86 = .ok (.invokestatic 350, 3) := by decide +kernel
theorem dX9_leaf_89 : decode cX9_leaf 89 = .ok (.if_icmp .ne 7, 3) := by decide +kernel
theorem dX9_leaf_92 : decode cX9_leaf 92 = .ok (.iconst 1, 1) := by decide +kernel
theorem dX9_leaf_93 : decode cX9_leaf 93 = .ok (.goto 4, 3) := by decide +kernel
theorem dX9_leaf_96 : decode cX9_leaf 96 = .ok (.iconst 0, 1) := by decide +kernel
theorem dX9_leaf_97 : decode cX9_leaf 97 = .ok (.istore 5, 2) := by decide +kernel
theorem dX9_leaf_99 : decode cX9_leaf 99 = .ok (.goto 117, 3) := by decide +kernel
theorem dX9_leaf_102 : decode cX9_leaf 102 = .ok (.iload_n 2, 1) := by decide +kernel
theorem dX9_leaf_103 : decode cX9_leaf 103 = .ok (.bipush 9, 2) := by decide +kernel
theorem dX9_leaf_105 : decode cX9_leaf 105 = .ok (.if_icmp .ne 38, 3) := by decide +kernel
theorem dX9_leaf_108 : decode cX9_leaf 108 = .ok (.aload_n 0, 1) := by decide +kernel
theorem dX9_leaf_109 : decode cX9_leaf 109 = .ok (.getfield 114, 3) := by decide +kernel
theorem dX9_leaf_112 : decode cX9_leaf 112 = .ok (.iconst 3, 1) := by decide +kernel
theorem dX9_leaf_113 : decode cX9_leaf 113 = .ok (.iload 4, 2) := by decide +kernel
theorem dX9_leaf_115 : decode cX9_leaf 115 = .ok (.aload_n 0, 1) := by decide +kernel
theorem dX9_leaf_116 : decode cX9_leaf 116 = .ok (.getfield 63, 3) := by decide +kernel
theorem dX9_leaf_119 : decode cX9_leaf 119 = .ok (.iload_n 1, 1) := by decide +kernel
theorem dX9_leaf_120 : decode cX9_leaf 120 = .ok (.iaload, 1) := by decide +kernel
theorem dX9_leaf_121 : decode cX9_leaf 121 = .ok (.invokestatic 350, 3) := by decide +kernel
theorem dX9_leaf_124 : decode cX9_leaf 124 = .ok (.imul, 1) := by decide +kernel
theorem dX9_leaf_125 : decode cX9_leaf 125 = .ok (.iload 4, 2) := by decide +kernel
theorem dX9_leaf_127 : decode cX9_leaf 127 = .ok (.aload_n 0, 1) := by decide +kernel
theorem dX9_leaf_128 : decode cX9_leaf 128 = .ok (.getfield 66, 3) := by decide +kernel
theorem dX9_leaf_131 : decode cX9_leaf 131 = .ok (.iload_n 1, 1) := by decide +kernel
theorem dX9_leaf_132 : decode cX9_leaf 132 = .ok (.iaload, 1) := by decide +kernel
theorem dX9_leaf_133 : decode cX9_leaf 133 = .ok (.invokestatic 350, 3) := by decide +kernel
theorem dX9_leaf_136 : decode cX9_leaf 136 = .ok (.iadd, 1) := by decide +kernel
theorem dX9_leaf_137 : decode cX9_leaf 137 = .ok (.baload, 1) := by decide +kernel
theorem dX9_leaf_138 : decode cX9_leaf 138 = .ok (.istore 5, 2) := by decide +kernel
theorem dX9_leaf_140 : decode cX9_leaf 140 = .ok (.goto 76, 3) := by decide +kernel
theorem dX9_leaf_143 : decode cX9_leaf 143 = .ok (.iload_n 2, 1) := by decide +kernel
theorem dX9_leaf_144 : decode cX9_leaf 144 = .ok (.bipush 11, 2) := by decide +kernel
theorem dX9_leaf_146 : decode cX9_leaf 146 = .ok (.if_icmp .ne 30, 3) := by decide +kernel
theorem dX9_leaf_149 : decode cX9_leaf 149 = .ok (.aload_n 0, 1) := by decide +kernel
theorem dX9_leaf_150 : decode cX9_leaf 150 = .ok (.aload_n 0, 1) := by decide +kernel
theorem dX9_leaf_151 : decode cX9_leaf 151 = .ok (.getfield 60, 3) := by decide +kernel
theorem dX9_leaf_154 : decode cX9_leaf 154 = .ok (.iload_n 1, 1) := by decide +kernel
theorem dX9_leaf_155 : decode cX9_leaf 155 = .ok (.iaload, 1) := by decide +kernel
theorem dX9_leaf_156 : decode cX9_leaf 156 = .ok (.iload 4, 2) := by decide +kernel
theorem dX9_leaf_158 : decode cX9_leaf 158 = .ok (.aload_n 0, 1) := by decide +kernel
theorem dX9_leaf_159 : decode cX9_leaf 159 = .ok (.getfield 63, 3) := by decide +kernel
theorem dX9_leaf_162 : decode cX9_leaf 162 = .ok (.iload_n 1, 1) := by decide +kernel
theorem dX9_leaf_163 : decode cX9_leaf 163 = .ok (.iaload, 1) := by decide +kernel
theorem dX9_leaf_164 : decode cX9_leaf 164 = .ok (.invokestatic 350, 3) := by decide +kernel
theorem dX9_leaf_167 : decode cX9_leaf 167 = .ok (.iconst 0, 1) := by decide +kernel
theorem dX9_leaf_168 : decode cX9_leaf 168 = .ok (.invokevirtual 341, 3) := by decide +kernel
theorem dX9_leaf_171 : decode cX9_leaf 171 = .ok (.istore 5, 2) := by decide +kernel
theorem dX9_leaf_173 : decode cX9_leaf 173 = .ok (.goto 43, 3) := by decide +kernel
theorem dX9_leaf_176 : decode cX9_leaf 176 = .ok (.iload_n 2, 1) := by decide +kernel
theorem dX9_leaf_177 : decode cX9_leaf 177 = .ok (.bipush 12, 2) := by decide +kernel
theorem dX9_leaf_179 : decode cX9_leaf 179 = .ok (.if_icmp .ne 37, 3) := by decide +kernel
theorem dX9_leaf_182 : decode cX9_leaf 182 = .ok (.aload_n 0, 1) := by decide +kernel
theorem dX9_leaf_183 : decode cX9_leaf 183 = .ok (.aload_n 0, 1) := by decide +kernel
theorem dX9_leaf_184 : decode cX9_leaf 184 = .ok (.getfield 60, 3) := by decide +kernel
theorem dX9_leaf_187 : decode cX9_leaf 187 = .ok (.iload_n 1, 1) := by decide +kernel
theorem dX9_leaf_188 : decode cX9_leaf 188 = .ok (.iaload, 1) := by decide +kernel
theorem dX9_leaf_189 : decode cX9_leaf 189 = .ok (.iload 4, 2) := by decide +kernel
theorem dX9_leaf_191 : decode cX9_leaf 191 = .ok (.aload_n 0, 1) := by decide +kernel
theorem dX9_leaf_192 : decode cX9_leaf 192 = .ok (.getfield 63, 3) := by decide +kernel
theorem dX9_leaf_195 : decode cX9_leaf 195 = .ok (.iload_n 1, 1) := by decide +kernel
theorem dX9_leaf_196 : decode cX9_leaf 196 = .ok (.iaload, 1) := by decide +kernel
theorem dX9_leaf_197 : decode cX9_leaf 197 = .ok (.invokestatic 350, 3) := by decide +kernel
theorem dX9_leaf_200 : decode cX9_leaf 200 = .ok (.iload 4, 2) := by decide +kernel
theorem dX9_leaf_202 : decode cX9_leaf 202 = .ok (.aload_n 0, 1) := by decide +kernel
theorem dX9_leaf_203 : decode cX9_leaf 203 = .ok (.getfield 66, 3) := by decide +kernel
theorem dX9_leaf_206 : decode cX9_leaf 206 = .ok (.iload_n 1, 1) := by decide +kernel
theorem dX9_leaf_207 : decode cX9_leaf 207 = .ok (.iaload, 1) := by decide +kernel
theorem dX9_leaf_208 : decode cX9_leaf 208 = .ok (.invokestatic 350, 3) := by decide +kernel
theorem dX9_leaf_211 : decode cX9_leaf 211 = .ok (.invokevirtual 341, 3) := by decide +kernel
theorem dX9_leaf_214 : decode cX9_leaf 214 = .ok (.istore 5, 2) := by decide +kernel
theorem dX9_leaf_216 : decode cX9_leaf 216 = .ok (.aload_n 0, 1) := by decide +kernel
theorem dX9_leaf_217 : decode cX9_leaf 217 = .ok (.getfield 111, 3) := by decide +kernel
theorem dX9_leaf_220 : decode cX9_leaf 220 = .ok (.bipush 81, 2) := by decide +kernel
theorem dX9_leaf_222 : decode cX9_leaf 222 = .ok (.aload_n 0, 1) := by decide +kernel
theorem dX9_leaf_223 : decode cX9_leaf 223 = .ok (.getfield 353, 3) := by decide +kernel
theorem dX9_leaf_226 : decode cX9_leaf 226 = .ok (.imul, 1) := by decide +kernel
theorem dX9_leaf_227 : decode cX9_leaf 227 = .ok (.iload 4, 2) := by decide +kernel
theorem dX9_leaf_229 : decode cX9_leaf 229 = .ok (.iadd, 1) := by decide +kernel
theorem dX9_leaf_230 : decode cX9_leaf 230 = .ok (.iload 5, 2) := by decide +kernel
theorem dX9_leaf_232 : decode cX9_leaf 232 = .ok (.bastore, 1) := by decide +kernel
theorem dX9_leaf_233 : decode cX9_leaf 233 = .ok (.iinc 4 1, 3) := by decide +kernel
theorem dX9_leaf_236 : decode cX9_leaf 236 = .ok (.goto (-185), 3) := by decide +kernel
theorem dX9_leaf_239 : decode cX9_leaf 239 = .ok (.aload_n 0, 1) := by decide +kernel
theorem dX9_leaf_240 : decode cX9_leaf 240 = .ok (.dup, 1) := by decide +kernel
theorem dX9_leaf_241 : decode cX9_leaf 241 = .ok (.getfield 353, 3) := by decide +kernel
theorem dX9_leaf_244 : decode cX9_leaf 244 = .ok (.iconst 1, 1) := by decide +kernel
theorem dX9_leaf_245 : decode cX9_leaf 245 = .ok (.iadd, 1) := by decide +kernel
theorem dX9_leaf_246 : decode cX9_leaf 246 = .ok (.putfield 353, 3) := by decide +kernel
theorem dX9_leaf_249 : decode cX9_leaf 249 = .ok (.return_, 1) := by decide +kernel
theorem dX9_bind_0 : decode cX9_bind 0 = .ok (.aload_n 0, 1) := by decide +kernel
theorem dX9_bind_1 : decode cX9_bind 1 = .ok (.getfield 60, 3) := by decide +kernel
theorem dX9_bind_4 : decode cX9_bind 4 = .ok (.iload_n 1, 1) := by decide +kernel
theorem dX9_bind_5 : decode cX9_bind 5 = .ok (.iaload, 1) := by decide +kernel
theorem dX9_bind_6 : decode cX9_bind 6 = .ok (.invokestatic 338, 3) := by decide +kernel
theorem dX9_bind_9 : decode cX9_bind 9 = .ok (.istore_n 2, 1) := by decide +kernel
theorem dX9_bind_10 : decode cX9_bind 10 = .ok (.aload_n 0, 1) := by decide +kernel
theorem dX9_bind_11 : decode cX9_bind 11 = .ok (.getfield 87, 3) := by decide +kernel
theorem dX9_bind_14 : decode cX9_bind 14 = .ok (.aload_n 0, 1) := by decide +kernel
theorem dX9_bind_15 : decode cX9_bind 15 = .ok (.getfield 63, 3) := by decide +kernel
theorem dX9_bind_18 : decode cX9_bind 18 = .ok (.iload_n 1, 1) := by decide +kernel
theorem dX9_bind_19 : decode cX9_bind 19 = .ok (.iaload, 1) := by decide +kernel
theorem dX9_bind_20 : decode cX9_bind 20 = .ok (.iaload, 1) := by decide +kernel
theorem dX9_bind_21 : decode cX9_bind 21 = .ok (.istore_n 3, 1) := by decide +kernel
theorem dX9_bind_22 : decode cX9_bind 22 = .ok (.bipush 81, 2) := by decide +kernel
theorem dX9_bind_24 : decode cX9_bind 24 = .ok (.aload_n 0, 1) := by decide +kernel
theorem dX9_bind_25 : decode cX9_bind 25 = .ok (.getfield 353, 3) := by decide +kernel
theorem dX9_bind_28 : decode cX9_bind 28 = .ok (.iconst 1, 1) := by decide +kernel
theorem dX9_bind_29 : decode cX9_bind 29 = .ok (.isub, 1) := by decide +kernel
theorem dX9_bind_30 : decode cX9_bind 30 = .ok (.imul, 1) := by decide +kernel
theorem dX9_bind_31 : decode cX9_bind 31 = .ok (.istore 4, 2) := by decide +kernel
theorem dX9_bind_33 : decode cX9_bind 33 = .ok (.iconst 0, 1) := by decide +kernel
theorem dX9_bind_34 : decode cX9_bind 34 = .ok (.istore 5, 2) := by decide +kernel
theorem dX9_bind_36 : decode cX9_bind 36 = .ok (.iload 5, 2) := by decide +kernel
theorem dX9_bind_38 : decode cX9_bind 38 = .ok (.bipush 81, 2) := by decide +kernel
theorem dX9_bind_40 : decode cX9_bind 40 = .ok (.if_icmp .ge 192, 3) := by decide +kernel
theorem dX9_bind_43 : decode cX9_bind 43 = .ok (.iload 5, 2) := by decide +kernel
theorem dX9_bind_45 : decode cX9_bind 45 = .ok (.iload_n 2, 1) := by decide +kernel
theorem dX9_bind_46 : decode cX9_bind 46 = .ok (.idiv, 1) := by decide +kernel
theorem dX9_bind_47 : decode cX9_bind 47 = .ok (.iconst 3, 1) := by decide +kernel
theorem dX9_bind_48 : decode cX9_bind 48 = .ok (.irem, 1) := by decide +kernel
theorem dX9_bind_49 : decode cX9_bind 49 = .ok (.ifCond .le 6, 3) := by decide +kernel
theorem dX9_bind_52 : decode cX9_bind 52 = .ok (.goto 174, 3) := by decide +kernel
theorem dX9_bind_55 : decode cX9_bind 55 = .ok (.iconst 0, 1) := by decide +kernel
theorem dX9_bind_56 : decode cX9_bind 56 = .ok (.istore 6, 2) := by decide +kernel
theorem dX9_bind_58 : decode cX9_bind 58 = .ok (.iconst 0, 1) := by decide +kernel
theorem dX9_bind_59 : decode cX9_bind 59 = .ok (.istore 7, 2) := by decide +kernel
theorem dX9_bind_61 : decode cX9_bind 61 = .ok (.iload 7, 2) := by decide +kernel
theorem dX9_bind_63 : decode cX9_bind 63 = .ok (.iload_n 3, 1) := by decide +kernel
theorem dX9_bind_64 : decode cX9_bind 64 = .ok (.if_icmp .ge 37, 3) := by decide +kernel
theorem dX9_bind_67 : decode cX9_bind 67 = .ok (.iload 6, 2) := by decide +kernel
theorem dX9_bind_69 : decode cX9_bind 69 = .ok (.aload_n 0, 1) := by decide +kernel
theorem dX9_bind_70 : decode cX9_bind 70 = .ok (.getfield 111, 3) := by decide +kernel
theorem dX9_bind_73 : decode cX9_bind 73 = .ok (.iload 4, 2) := by decide +kernel
theorem dX9_bind_75 : decode cX9_bind 75 = .ok (.iload 5, 2) := by decide +kernel
theorem dX9_bind_77 : decode cX9_bind 77 = .ok (.iadd, 1) := by decide +kernel
theorem dX9_bind_78 : decode cX9_bind 78 = .ok (.iload 7, 2) := by decide +kernel
theorem dX9_bind_80 : decode cX9_bind 80 = .ok (.iload_n 2, 1) := by decide +kernel
theorem dX9_bind_81 : decode cX9_bind 81 = .ok (.imul, 1) := by decide +kernel
theorem dX9_bind_82 : decode cX9_bind 82 = .ok (.iadd, 1) := by decide +kernel
theorem dX9_bind_83 : decode cX9_bind 83 = .ok (.baload, 1) := by decide +kernel
theorem dX9_bind_84 : decode cX9_bind 84 = .ok (.ifCond .eq 7, 3) := by decide +kernel
theorem dX9_bind_87 : decode cX9_bind 87 = .ok (.iconst 1, 1) := by decide +kernel
theorem dX9_bind_88 : decode cX9_bind 88 = .ok (.goto 4, 3) := by decide +kernel
theorem dX9_bind_91 : decode cX9_bind 91 = .ok (.iconst 0, 1) := by decide +kernel
theorem dX9_bind_92 : decode cX9_bind 92 = .ok (.iadd, 1) := by decide +kernel
theorem dX9_bind_93 : decode cX9_bind 93 = .ok (.istore 6, 2) := by decide +kernel
theorem dX9_bind_95 : decode cX9_bind 95 = .ok (.iinc 7 1, 3) := by decide +kernel
theorem dX9_bind_98 : decode cX9_bind 98 = .ok (.goto (-37), 3) := by decide +kernel
theorem dX9_bind_101 : decode cX9_bind 101 = .ok (.aload_n 0, 1) := by decide +kernel
theorem dX9_bind_102 : decode cX9_bind 102 = .ok (.getfield 57, 3) := by decide +kernel
theorem dX9_bind_105 : decode cX9_bind 105 = .ok (.iload_n 1, 1) := by decide +kernel
theorem dX9_bind_106 : decode cX9_bind 106 = .ok (.iaload, 1) := by decide +kernel
theorem dX9_bind_107 : decode cX9_bind 107 = .ok (.ifCond .ne 17, 3) := by decide +kernel
theorem dX9_bind_110 : decode cX9_bind 110 = .ok (.iload 6, 2) := by decide +kernel
theorem dX9_bind_112 : decode cX9_bind 112 = .ok (.iload_n 3, 1) := by decide +kernel
theorem dX9_bind_113 : decode cX9_bind 113 = .ok (.if_icmp .ne 7, 3) := by decide +kernel
theorem dX9_bind_116 : decode cX9_bind 116 = .ok (.iconst 1, 1) := by decide +kernel
theorem dX9_bind_117 : decode cX9_bind 117 = .ok (.goto 75, 3) := by decide +kernel
theorem dX9_bind_120 : decode cX9_bind 120 = .ok (.iconst 0, 1) := by decide +kernel
theorem dX9_bind_121 : decode cX9_bind 121 = .ok (.goto 71, 3) := by decide +kernel
theorem dX9_bind_124 : decode cX9_bind 124 = .ok (.aload_n 0, 1) := by decide +kernel
theorem dX9_bind_125 : decode cX9_bind 125 = .ok (.getfield 57, 3) := by decide +kernel
theorem dX9_bind_128 : decode cX9_bind 128 = .ok (.iload_n 1, 1) := by decide +kernel
theorem dX9_bind_129 : decode cX9_bind 129 = .ok (.iaload, 1) := by decide +kernel
theorem dX9_bind_130 : decode cX9_bind 130 = .ok (.iconst 1, 1) := by decide +kernel
theorem dX9_bind_131 : decode cX9_bind 131 = .ok (.if_icmp .ne 16, 3) := by decide +kernel
theorem dX9_bind_134 : decode cX9_bind 134 = .ok (.iload 6, 2) := by decide +kernel
theorem dX9_bind_136 : decode cX9_bind 136 = .ok (.ifCond .le 7, 3) := by decide +kernel
theorem dX9_bind_139 : decode cX9_bind 139 = .ok (.iconst 1, 1) := by decide +kernel
theorem dX9_bind_140 : decode cX9_bind 140 = .ok (.goto 52, 3) := by decide +kernel
theorem dX9_bind_143 : decode cX9_bind 143 = .ok (.iconst 0, 1) := by decide +kernel
theorem dX9_bind_144 : decode cX9_bind 144 = .ok (.goto 48, 3) := by decide +kernel
theorem dX9_bind_147 : decode cX9_bind 147 = .ok (.aload_n 0, 1) := by decide +kernel
theorem dX9_bind_148 : decode cX9_bind 148 = .ok (.getfield 57, 3) := by decide +kernel
theorem dX9_bind_151 : decode cX9_bind 151 = .ok (.iload_n 1, 1) := by decide +kernel
theorem dX9_bind_152 : decode cX9_bind 152 = .ok (.iaload, 1) := by decide +kernel
theorem dX9_bind_153 : decode cX9_bind 153 = .ok (.iconst 2, 1) := by decide +kernel
theorem dX9_bind_154 : decode cX9_bind 154 = .ok (.if_icmp .ne 22, 3) := by decide +kernel
theorem dX9_bind_157 : decode cX9_bind 157 = .ok (.iload 6, 2) := by decide +kernel
theorem dX9_bind_159 : decode cX9_bind 159 = .ok (.aload_n 0, 1) := by decide +kernel
theorem dX9_bind_160 : decode cX9_bind 160 = .ok (.getfield 66, 3) := by decide +kernel
theorem dX9_bind_163 : decode cX9_bind 163 = .ok (.iload_n 1, 1) := by decide +kernel
theorem dX9_bind_164 : decode cX9_bind 164 = .ok (.iaload, 1) := by decide +kernel
theorem dX9_bind_165 : decode cX9_bind 165 = .ok (.if_icmp .lt 7, 3) := by decide +kernel
theorem dX9_bind_168 : decode cX9_bind 168 = .ok (.iconst 1, 1) := by decide +kernel
theorem dX9_bind_169 : decode cX9_bind 169 = .ok (.goto 23, 3) := by decide +kernel
theorem dX9_bind_172 : decode cX9_bind 172 = .ok (.iconst 0, 1) := by decide +kernel
theorem dX9_bind_173 : decode cX9_bind 173 = .ok (.goto 19, 3) := by decide +kernel
theorem dX9_bind_176 : decode cX9_bind 176 = .ok (.iload 6, 2) := by decide +kernel
theorem dX9_bind_178 : decode cX9_bind 178 = .ok (.aload_n 0, 1) := by decide +kernel
theorem dX9_bind_179 : decode cX9_bind 179 = .ok (.getfield 66, 3) := by decide +kernel
theorem dX9_bind_182 : decode cX9_bind 182 = .ok (.iload_n 1, 1) := by decide +kernel
theorem dX9_bind_183 : decode cX9_bind 183 = .ok (.iaload, 1) := by decide +kernel
theorem dX9_bind_184 : decode cX9_bind 184 = .ok (.if_icmp .gt 7, 3) := by decide +kernel
theorem dX9_bind_187 : decode cX9_bind 187 = .ok (.iconst 1, 1) := by decide +kernel
theorem dX9_bind_188 : decode cX9_bind 188 = .ok (.goto 4, 3) := by decide +kernel
theorem dX9_bind_191 : decode cX9_bind 191 = .ok (.iconst 0, 1) := by decide +kernel
theorem dX9_bind_192 : decode cX9_bind 192 = .ok (.istore 7, 2) := by decide +kernel
theorem dX9_bind_194 : decode cX9_bind 194 = .ok (.iconst 0, 1) := by decide +kernel
theorem dX9_bind_195 : decode cX9_bind 195 = .ok (.istore 8, 2) := by decide +kernel
theorem dX9_bind_197 : decode cX9_bind 197 = .ok (.iload 8, 2) := by decide +kernel
theorem dX9_bind_199 : decode cX9_bind 199 = .ok (.iconst 3, 1) := by decide +kernel
theorem dX9_bind_200 : decode cX9_bind 200 = .ok (.if_icmp .ge 26, 3) := by decide +kernel
theorem dX9_bind_203 : decode cX9_bind 203 = .ok (.aload_n 0, 1) := by decide +kernel
theorem dX9_bind_204 : decode cX9_bind 204 = .ok (.getfield 111, 3) := by decide +kernel
theorem dX9_bind_207 : decode cX9_bind 207 = .ok (.iload 4, 2) := by decide +kernel
theorem dX9_bind_209 : decode cX9_bind 209 = .ok (.iload 5, 2) := by decide +kernel
theorem dX9_bind_211 : decode cX9_bind 211 = .ok (.iadd, 1) := by decide +kernel
theorem dX9_bind_212 : decode cX9_bind 212 = .ok (.iload 8, 2) := by decide +kernel
theorem dX9_bind_214 : decode cX9_bind 214 = .ok (.iload_n 2, 1) := by decide +kernel
theorem dX9_bind_215 : decode cX9_bind 215 = .ok (.imul, 1) := by decide +kernel
theorem dX9_bind_216 : decode cX9_bind 216 = .ok (.iadd, 1) := by decide +kernel
theorem dX9_bind_217 : decode cX9_bind 217 = .ok (.iload 7, 2) := by decide +kernel
theorem dX9_bind_219 : decode cX9_bind 219 = .ok (.bastore, 1) := by decide +kernel
theorem dX9_bind_220 : decode cX9_bind 220 = .ok (.iinc 8 1, 3) := by decide +kernel
theorem dX9_bind_223 : decode cX9_bind 223 = .ok (.goto (-26), 3) := by decide +kernel
theorem dX9_bind_226 : decode cX9_bind 226 = .ok (.iinc 5 1, 3) := by decide +kernel
theorem dX9_bind_229 : decode cX9_bind 229 = .ok (.goto (-193), 3) := by decide +kernel
theorem dX9_bind_232 : decode cX9_bind 232 = .ok (.return_, 1) := by decide +kernel
theorem dX9_join_0 : decode cX9_join 0 = .ok (.aload_n 0, 1) := by decide +kernel
theorem dX9_join_1 : decode cX9_join 1 = .ok (.getfield 57, 3) := by decide +kernel
theorem dX9_join_4 : decode cX9_join 4 = .ok (.iload_n 1, 1) := by decide +kernel
theorem dX9_join_5 : decode cX9_join 5 = .ok (.iaload, 1) := by decide +kernel
theorem dX9_join_6 : decode cX9_join 6 = .ok (.istore_n 2, 1) := by decide +kernel
theorem dX9_join_7 : decode cX9_join 7 = .ok (.bipush 81, 2) := by decide +kernel
theorem dX9_join_9 : decode cX9_join 9 = .ok (.aload_n 0, 1) := by decide +kernel
theorem dX9_join_10 : decode cX9_join 10 = .ok (.getfield 353, 3) := by decide +kernel
theorem dX9_join_13 : decode cX9_join 13 = .ok (.iconst 1, 1) := by decide +kernel
theorem dX9_join_14 : decode cX9_join 14 = .ok (.isub, 1) := by decide +kernel
theorem dX9_join_15 : decode cX9_join 15 = .ok (.imul, 1) := by decide +kernel
theorem dX9_join_16 : decode cX9_join 16 = .ok (.istore_n 3, 1) := by decide +kernel
theorem dX9_join_17 : decode cX9_join 17 = .ok (.iload_n 2, 1) := by decide +kernel
theorem dX9_join_18 : decode cX9_join 18 = .ok (.iconst 4, 1) := by decide +kernel
theorem dX9_join_19 : decode cX9_join 19 = .ok (.if_icmp .ne 46, 3) := by decide +kernel
theorem dX9_join_22 : decode cX9_join 22 = .ok (.iconst 0, 1) := by decide +kernel
theorem dX9_join_23 : decode cX9_join 23 = .ok (.istore 4, 2) := by decide +kernel
theorem dX9_join_25 : decode cX9_join 25 = .ok (.iload 4, 2) := by decide +kernel
theorem dX9_join_27 : decode cX9_join 27 = .ok (.bipush 81, 2) := by decide +kernel
theorem dX9_join_29 : decode cX9_join 29 = .ok (.if_icmp .ge 35, 3) := by decide +kernel
theorem dX9_join_32 : decode cX9_join 32 = .ok (.aload_n 0, 1) := by decide +kernel
theorem dX9_join_33 : decode cX9_join 33 = .ok (.getfield 111, 3) := by decide +kernel
theorem dX9_join_36 : decode cX9_join 36 = .ok (.iload_n 3, 1) := by decide +kernel
theorem dX9_join_37 : decode cX9_join 37 = .ok (.iload 4, 2) := by decide +kernel
theorem dX9_join_39 : decode cX9_join 39 = .ok (.iadd, 1) := by decide +kernel
theorem dX9_join_40 : decode cX9_join 40 = .ok (.aload_n 0, 1) := by decide +kernel
theorem dX9_join_41 : decode cX9_join 41 = .ok (.getfield 111, 3) := by decide +kernel
theorem dX9_join_44 : decode cX9_join 44 = .ok (.iload_n 3, 1) := by decide +kernel
theorem dX9_join_45 : decode cX9_join 45 = .ok (.iload 4, 2) := by decide +kernel
theorem dX9_join_47 : decode cX9_join 47 = .ok (.iadd, 1) := by decide +kernel
theorem dX9_join_48 : decode cX9_join 48 = .ok (.baload, 1) := by decide +kernel
theorem dX9_join_49 : decode cX9_join 49 = .ok (.ifCond .ne 7, 3) := by decide +kernel
theorem dX9_join_52 : decode cX9_join 52 = .ok (.iconst 1, 1) := by decide +kernel
theorem dX9_join_53 : decode cX9_join 53 = .ok (.goto 4, 3) := by decide +kernel
theorem dX9_join_56 : decode cX9_join 56 = .ok (.iconst 0, 1) := by decide +kernel
theorem dX9_join_57 : decode cX9_join 57 = .ok (.bastore, 1) := by decide +kernel
theorem dX9_join_58 : decode cX9_join 58 = .ok (.iinc 4 1, 3) := by decide +kernel
theorem dX9_join_61 : decode cX9_join 61 = .ok (.goto (-36), 3) := by decide +kernel
theorem dX9_join_64 : decode cX9_join 64 = .ok (.return_, 1) := by decide +kernel
theorem dX9_join_65 : decode cX9_join 65 = .ok (.aload_n 0, 1) := by decide +kernel
theorem dX9_join_66 : decode cX9_join 66 = .ok (.dup, 1) := by decide +kernel
theorem dX9_join_67 : decode cX9_join 67 = .ok (.getfield 353, 3) := by decide +kernel
theorem dX9_join_70 : decode cX9_join 70 = .ok (.iconst 1, 1) := by decide +kernel
theorem dX9_join_71 : decode cX9_join 71 = .ok (.isub, 1) := by decide +kernel
theorem dX9_join_72 : decode cX9_join 72 = .ok (.putfield 353, 3) := by decide +kernel
theorem dX9_join_75 : decode cX9_join 75 = .ok (.iconst 0, 1) := by decide +kernel
theorem dX9_join_76 : decode cX9_join 76 = .ok (.istore 4, 2) := by decide +kernel
theorem dX9_join_78 : decode cX9_join 78 = .ok (.iload 4, 2) := by decide +kernel
theorem dX9_join_80 : decode cX9_join 80 = .ok (.bipush 81, 2) := by decide +kernel
theorem dX9_join_82 : decode cX9_join 82 = .ok (.if_icmp .ge 108, 3) := by decide +kernel
theorem dX9_join_85 : decode cX9_join 85 = .ok (.aload_n 0, 1) := by decide +kernel
theorem dX9_join_86 : decode cX9_join 86 = .ok (.getfield 111, 3) := by decide +kernel
theorem dX9_join_89 : decode cX9_join 89 = .ok (.iload_n 3, 1) := by decide +kernel
theorem dX9_join_90 : decode cX9_join 90 = .ok (.iload 4, 2) := by decide +kernel
theorem dX9_join_92 : decode cX9_join 92 = .ok (.iadd, 1) := by decide +kernel
theorem dX9_join_93 : decode cX9_join 93 = .ok (.baload, 1) := by decide +kernel
theorem dX9_join_94 : decode cX9_join 94 = .ok (.istore 5, 2) := by decide +kernel
theorem dX9_join_96 : decode cX9_join 96 = .ok (.aload_n 0, 1) := by decide +kernel
theorem dX9_join_97 : decode cX9_join 97 = .ok (.getfield 111, 3) := by decide +kernel
theorem dX9_join_100 : decode cX9_join 100 = .ok (.iload_n 3, 1) := by decide +kernel
theorem dX9_join_101 : decode cX9_join 101 = .ok (.bipush 81, 2) := by decide +kernel
theorem dX9_join_103 : decode cX9_join 103 = .ok (.isub, 1) := by decide +kernel
theorem dX9_join_104 : decode cX9_join 104 = .ok (.iload 4, 2) := by decide +kernel
theorem dX9_join_106 : decode cX9_join 106 = .ok (.iadd, 1) := by decide +kernel
theorem dX9_join_107 : decode cX9_join 107 = .ok (.baload, 1) := by decide +kernel
theorem dX9_join_108 : decode cX9_join 108 = .ok (.istore 6, 2) := by decide +kernel
theorem dX9_join_110 : decode cX9_join 110 = .ok (.aload_n 0, 1) := by decide +kernel
theorem dX9_join_111 : decode cX9_join 111 = .ok (.getfield 111, 3) := by decide +kernel
theorem dX9_join_114 : decode cX9_join 114 = .ok (.iload_n 3, 1) := by decide +kernel
theorem dX9_join_115 : decode cX9_join 115 = .ok (.bipush 81, 2) := by decide +kernel
theorem dX9_join_117 : decode cX9_join 117 = .ok (.isub, 1) := by decide +kernel
theorem dX9_join_118 : decode cX9_join 118 = .ok (.iload 4, 2) := by decide +kernel
theorem dX9_join_120 : decode cX9_join 120 = .ok (.iadd, 1) := by decide +kernel
theorem dX9_join_121 : decode cX9_join 121 = .ok (.iload_n 2, 1) := by decide +kernel
theorem dX9_join_122 : decode cX9_join 122 = .ok (.iconst 5, 1) := by decide +kernel
theorem dX9_join_123 : decode cX9_join 123 = .ok (.if_icmp .ne 21, 3) := by decide +kernel
theorem dX9_join_126 : decode cX9_join 126 = .ok (.iload 5, 2) := by decide +kernel
theorem dX9_join_128 : decode cX9_join 128 = .ok (.ifCond .eq 12, 3) := by decide +kernel
theorem dX9_join_131 : decode cX9_join 131 = .ok (.iload 6, 2) := by decide +kernel
theorem dX9_join_133 : decode cX9_join 133 = .ok (.ifCond .eq 7, 3) := by decide +kernel
theorem dX9_join_136 : decode cX9_join 136 = .ok (.iconst 1, 1) := by decide +kernel
theorem dX9_join_137 : decode cX9_join 137 = .ok (.goto 46, 3) := by decide +kernel
theorem dX9_join_140 : decode cX9_join 140 = .ok (.iconst 0, 1) := by decide +kernel
theorem dX9_join_141 : decode cX9_join 141 = .ok (.goto 42, 3) := by decide +kernel
theorem dX9_join_144 : decode cX9_join 144 = .ok (.iload_n 2, 1) := by decide +kernel
theorem dX9_join_145 : decode cX9_join 145 = .ok (.bipush 6, 2) := by decide +kernel
theorem dX9_join_147 : decode cX9_join 147 = .ok (.if_icmp .ne 21, 3) := by decide +kernel
theorem dX9_join_150 : decode cX9_join 150 = .ok (.iload 5, 2) := by decide +kernel
theorem dX9_join_152 : decode cX9_join 152 = .ok (.ifCond .ne 8, 3) := by decide +kernel
theorem dX9_join_155 : decode cX9_join 155 = .ok (.iload 6, 2) := by decide +kernel
theorem dX9_join_157 : decode cX9_join 157 = .ok (.ifCond .eq 7, 3) := by decide +kernel
theorem dX9_join_160 : decode cX9_join 160 = .ok (.iconst 1, 1) := by decide +kernel
theorem dX9_join_161 : decode cX9_join 161 = .ok (.goto 22, 3) := by decide +kernel
theorem dX9_join_164 : decode cX9_join 164 = .ok (.iconst 0, 1) := by decide +kernel
theorem dX9_join_165 : decode cX9_join 165 = .ok (.goto 18, 3) := by decide +kernel
theorem dX9_join_168 : decode cX9_join 168 = .ok (.iload 5, 2) := by decide +kernel
theorem dX9_join_170 : decode cX9_join 170 = .ok (.ifCond .eq 8, 3) := by decide +kernel
theorem dX9_join_173 : decode cX9_join 173 = .ok (.iload 6, 2) := by decide +kernel
theorem dX9_join_175 : decode cX9_join 175 = .ok (.ifCond .eq 7, 3) := by decide +kernel
theorem dX9_join_178 : decode cX9_join 178 = .ok (.iconst 1, 1) := by decide +kernel
theorem dX9_join_179 : decode cX9_join 179 = .ok (.goto 4, 3) := by decide +kernel
theorem dX9_join_182 : decode cX9_join 182 = .ok (.iconst 0, 1) := by decide +kernel
theorem dX9_join_183 : decode cX9_join 183 = .ok (.bastore, 1) := by decide +kernel
theorem dX9_join_184 : decode cX9_join 184 = .ok (.iinc 4 1, 3) := by decide +kernel
theorem dX9_join_187 : decode cX9_join 187 = .ok (.goto (-109), 3) := by decide +kernel
theorem dX9_join_190 : decode cX9_join 190 = .ok (.return_, 1) := by decide +kernel
theorem dX9_work_0 : decode cX9_work 0 = .ok (.aload_n 0, 1) := by decide +kernel
theorem dX9_work_1 : decode cX9_work 1 = .ok (.iconst 0, 1) := by decide +kernel
theorem dX9_work_2 : decode cX9_work 2 = .ok (.putfield 353, 3) := by decide +kernel
theorem dX9_work_5 : decode cX9_work 5 = .ok (.aload_n 0, 1) := by decide +kernel
theorem dX9_work_6 : decode cX9_work 6 = .ok (.getfield 54, 3) := by decide +kernel
theorem dX9_work_9 : decode cX9_work 9 = .ok (.iload_n 1, 1) := by decide +kernel
theorem dX9_work_10 : decode cX9_work 10 = .ok (.iaload, 1) := by decide +kernel
theorem dX9_work_11 : decode cX9_work 11 = .ok (.iconst 1, 1) := by decide +kernel
theorem dX9_work_12 : decode cX9_work 12 = .ok (.isub, 1) := by decide +kernel
theorem dX9_work_13 : decode cX9_work 13 = .ok (.istore_n 3, 1) := by decide +kernel
theorem dX9_work_14 : decode cX9_work 14 = .ok (.iload_n 3, 1) := by decide +kernel
theorem dX9_work_15 : decode cX9_work 15 = .ok (.iload_n 2, 1) := by decide +kernel
theorem dX9_work_16 : decode cX9_work 16 = .ok (.if_icmp .lt 64, 3) := by decide +kernel
theorem dX9_work_19 : decode cX9_work 19 = .ok (.bipush 40, 2) := by decide +kernel
theorem dX9_work_21 : decode cX9_work 21 = .ok (.iload_n 1, 1) := by decide +kernel
theorem dX9_work_22 : decode cX9_work 22 = .ok (.imul, 1) := by decide +kernel
theorem dX9_work_23 : decode cX9_work 23 = .ok (.iload_n 3, 1) := by decide +kernel
theorem dX9_work_24 : decode cX9_work 24 = .ok (.iadd, 1) := by decide +kernel
theorem dX9_work_25 : decode cX9_work 25 = .ok (.istore 4, 2) := by decide +kernel
theorem dX9_work_27 : decode cX9_work 27 = .ok (.aload_n 0, 1) := by decide +kernel
theorem dX9_work_28 : decode cX9_work 28 = .ok (.getfield 57, 3) := by decide +kernel
theorem dX9_work_31 : decode cX9_work 31 = .ok (.iload 4, 2) := by decide +kernel
theorem dX9_work_33 : decode cX9_work 33 = .ok (.iaload, 1) := by decide +kernel
theorem dX9_work_34 : decode cX9_work 34 = .ok (.bipush 8, 2) := by decide +kernel
theorem dX9_work_36 : decode cX9_work 36 = .ok (.if_icmp .lt 12, 3) := by decide +kernel
theorem dX9_work_39 : decode cX9_work 39 = .ok (.aload_n 0, 1) := by decide +kernel
theorem dX9_work_40 : decode cX9_work 40 = .ok (.iload 4, 2) := by decide +kernel
theorem dX9_work_42 : decode cX9_work 42 = .ok (.invokevirtual 356, 3) := by decide +kernel
theorem dX9_work_45 : decode cX9_work 45 = .ok (.goto 29, 3) := by decide +kernel
theorem dX9_work_48 : decode cX9_work 48 = .ok (.aload_n 0, 1) := by decide +kernel
theorem dX9_work_49 : decode cX9_work 49 = .ok (.getfield 57, 3) := by decide +kernel
theorem dX9_work_52 : decode cX9_work 52 = .ok (.iload 4, 2) := by decide +kernel
theorem dX9_work_54 : decode cX9_work 54 = .ok (.iaload, 1) := by decide +kernel
theorem dX9_work_55 : decode cX9_work 55 = .ok (.iconst 3, 1) := by decide +kernel
theorem dX9_work_56 : decode cX9_work 56 = .ok (.if_icmp .gt 12, 3) := by decide +kernel
theorem dX9_work_59 : decode cX9_work 59 = .ok (.aload_n 0, 1) := by decide +kernel
theorem dX9_work_60 : decode cX9_work 60 = .ok (.iload 4, 2) := by decide +kernel
theorem dX9_work_62 : decode cX9_work 62 = .ok (.invokevirtual 359, 3) := by decide +kernel
theorem dX9_work_65 : decode cX9_work 65 = .ok (.goto 9, 3) := by decide +kernel
theorem dX9_work_68 : decode cX9_work 68 = .ok (.aload_n 0, 1) := by decide +kernel
theorem dX9_work_69 : decode cX9_work 69 = .ok (.iload 4, 2) := by decide +kernel
theorem dX9_work_71 : decode cX9_work 71 = .ok (.invokevirtual 362, 3) := by decide +kernel
theorem dX9_work_74 : decode cX9_work 74 = .ok (.iinc 3 (-1), 3) := by decide +kernel
theorem dX9_work_77 : decode cX9_work 77 = .ok (.goto (-63), 3) := by decide +kernel
theorem dX9_work_80 : decode cX9_work 80 = .ok (.return_, 1) := by decide +kernel
theorem dX9_means_0 : decode cX9_means 0 = .ok (.aload_n 0, 1) := by decide +kernel
theorem dX9_means_1 : decode cX9_means 1 = .ok (.iload_n 1, 1) := by decide +kernel
theorem dX9_means_2 : decode cX9_means 2 = .ok (.iconst 0, 1) := by decide +kernel
theorem dX9_means_3 : decode cX9_means 3 = .ok (.invokevirtual 365, 3) := by decide +kernel
theorem dX9_means_6 : decode cX9_means 6 = .ok (.aload_n 0, 1) := by decide +kernel
theorem dX9_means_7 : decode cX9_means 7 = .ok (.getfield 111, 3) := by decide +kernel
theorem dX9_means_10 : decode cX9_means 10 = .ok (.iconst 0, 1) := by decide +kernel
theorem dX9_means_11 : decode cX9_means 11 = .ok (.baload, 1) := by decide +kernel
theorem dX9_means_12 : decode cX9_means 12 = .ok (.ireturn, 1) := by decide +kernel
theorem dX9_so_0 : decode cX9_so 0 = .ok (.aload_n 0, 1) := by decide +kernel
theorem dX9_so_1 : decode cX9_so 1 = .ok (.iconst 0, 1) := by decide +kernel
theorem dX9_so_2 : decode cX9_so 2 = .ok (.putfield 142, 3) := by decide +kernel
theorem dX9_so_5 : decode cX9_so 5 = .ok (.iload_n 1, 1) := by decide +kernel
theorem dX9_so_6 : decode cX9_so 6 = .ok (.iconst (-1), 1) := by decide +kernel
theorem dX9_so_7 : decode cX9_so 7 = .ok (.if_icmp .ne 8, 3) := by decide +kernel
theorem dX9_so_10 : decode cX9_so 10 = .ok (.bipush 8, 2) := by decide +kernel
theorem dX9_so_12 : decode cX9_so 12 = .ok (.goto 4, 3) := by decide +kernel
theorem dX9_so_15 : decode cX9_so 15 = .ok (.iload_n 1, 1) := by decide +kernel
theorem dX9_so_16 : decode cX9_so 16 = .ok (.istore_n 2, 1) := by decide +kernel
theorem dX9_so_17 : decode cX9_so 17 = .ok (.iload_n 1, 1) := by decide +kernel
theorem dX9_so_18 : decode cX9_so 18 = .ok (.iconst (-1), 1) := by decide +kernel
theorem dX9_so_19 : decode cX9_so 19 = .ok (.if_icmp .ne 16, 3) := by decide +kernel
theorem dX9_so_22 : decode cX9_so 22 = .ok (.aload_n 0, 1) := by decide +kernel
theorem dX9_so_23 : decode cX9_so 23 = .ok (.getfield 54, 3) := by decide +kernel
theorem dX9_so_26 : decode cX9_so 26 = .ok (.bipush 8, 2) := by decide +kernel
theorem dX9_so_28 : decode cX9_so 28 = .ok (.iaload, 1) := by decide +kernel
theorem dX9_so_29 : decode cX9_so 29 = .ok (.ifCond .ne 24, 3) := by decide +kernel
theorem dX9_so_32 : decode cX9_so 32 = .ok (.goto 19, 3) := by decide +kernel
theorem dX9_so_35 : decode cX9_so 35 = .ok (.iload_n 1, 1) := by decide +kernel
theorem dX9_so_36 : decode cX9_so 36 = .ok (.iconst 0, 1) := by decide +kernel
theorem dX9_so_37 : decode cX9_so 37 = .ok (.aload_n 0, 1) := by decide +kernel
theorem dX9_so_38 : decode cX9_so 38 = .ok (.getfield 45, 3) := by decide +kernel
theorem dX9_so_41 : decode cX9_so 41 = .ok (.iconst 0, 1) := by decide +kernel
theorem dX9_so_42 : decode cX9_so 42 = .ok (.iaload, 1) := by decide +kernel
theorem dX9_so_43 : decode cX9_so 43 = .ok (.iconst 1, 1) := by decide +kernel
theorem dX9_so_44 : decode cX9_so 44 = .ok (.isub, 1) := by decide +kernel
theorem dX9_so_45 : decode cX9_so 45 = .ok (.invokestatic 160, 3) := by decide +kernel
theorem dX9_so_48 : decode cX9_so 48 = .ok (.ifCond .ne 5, 3) := by decide +kernel
theorem dX9_so_51 : decode cX9_so 51 = .ok (.iconst (-1), 1) := by decide +kernel
theorem dX9_so_52 : decode cX9_so 52 = .ok (.ireturn, 1) := by decide +kernel
theorem dX9_so_53 : decode cX9_so 53 = .ok (.aload_n 0, 1) := by decide +kernel
theorem dX9_so_54 : decode cX9_so 54 = .ok (.invokevirtual 368, 3) := by decide +kernel
theorem dX9_so_57 : decode cX9_so 57 = .ok (.aload_n 0, 1) := by decide +kernel
theorem dX9_so_58 : decode cX9_so 58 = .ok (.iload_n 2, 1) := by decide +kernel
theorem dX9_so_59 : decode cX9_so 59 = .ok (.invokevirtual 371, 3) := by decide +kernel
theorem dX9_so_62 : decode cX9_so 62 = .ok (.ifCond .eq 7, 3) := by decide +kernel
theorem dX9_so_65 : decode cX9_so 65 = .ok (.iconst 1, 1) := by decide +kernel
theorem dX9_so_66 : decode cX9_so 66 = .ok (.goto 4, 3) := by decide +kernel
theorem dX9_so_69 : decode cX9_so 69 = .ok (.iconst 0, 1) := by decide +kernel
theorem dX9_so_70 : decode cX9_so 70 = .ok (.ireturn, 1) := by decide +kernel
theorem dX9_breaks_0 : decode cX9_breaks 0 = .ok (.aload_n 0, 1) := by decide +kernel
theorem dX9_breaks_1 : decode cX9_breaks 1 = .ok (.iconst 0, 1) := by decide +kernel
theorem dX9_breaks_2 : decode cX9_breaks 2 = .ok (.putfield 142, 3) := by decide +kernel
theorem dX9_breaks_5 : decode cX9_breaks 5 = .ok (.iload_n 1, 1) := by decide +kernel
theorem dX9_breaks_6 : decode cX9_breaks 6 = .ok (.iconst 0, 1) := by decide +kernel
theorem dX9_breaks_7 : decode cX9_breaks 7 = .ok (.aload_n 0, 1) := by decide +kernel
theorem dX9_breaks_8 : decode cX9_breaks 8 = .ok (.getfield 45, 3) := by decide +kernel
theorem dX9_breaks_11 : decode cX9_breaks 11 = .ok (.iconst 0, 1) := by decide +kernel
theorem dX9_breaks_12 : decode cX9_breaks 12 = .ok (.iaload, 1) := by decide +kernel
theorem dX9_breaks_13 : decode cX9_breaks 13 = .ok (.iconst 1, 1) := by decide +kernel
theorem dX9_breaks_14 : decode cX9_breaks 14 = .ok (.isub, 1) := by decide +kernel
theorem dX9_breaks_15 : decode cX9_breaks 15 = .ok (.invokestatic 160, 3) := by decide +kernel
theorem dX9_breaks_18 : decode cX9_breaks 18 = .ok (.ifCond .ne 5, 3) := by decide +kernel
theorem dX9_breaks_21 : decode cX9_breaks 21 = .ok (.iconst (-1), 1) := by decide +kernel
theorem dX9_breaks_22 : decode cX9_breaks 22 = .ok (.ireturn, 1) := by decide +kernel
theorem dX9_breaks_23 : decode cX9_breaks 23 = .ok (.aload_n 0, 1) := by decide +kernel
theorem dX9_breaks_24 : decode cX9_breaks 24 = .ok (.invokevirtual 368, 3) := by decide +kernel
theorem dX9_breaks_27 : decode cX9_breaks 27 = .ok (.iconst 0, 1) := by decide +kernel
theorem dX9_breaks_28 : decode cX9_breaks 28 = .ok (.istore_n 3, 1) := by decide +kernel
theorem dX9_breaks_29 : decode cX9_breaks 29 = .ok (.iconst 1, 1) := by decide +kernel
theorem dX9_breaks_30 : decode cX9_breaks 30 = .ok (.istore 4, 2) := by decide +kernel
theorem dX9_breaks_32 : decode cX9_breaks 32 = .ok (.aload_n 0, 1) := by decide +kernel
theorem dX9_breaks_33 : decode cX9_breaks 33 = .ok (.getfield 57, 3) := by decide +kernel
theorem dX9_breaks_36 : decode cX9_breaks 36 = .ok (.bipush 40, 2) := by decide +kernel
theorem dX9_breaks_38 : decode cX9_breaks 38 = .ok (.iload_n 1, 1) := by decide +kernel
theorem dX9_breaks_39 : decode cX9_breaks 39 = .ok (.imul, 1) := by decide +kernel
theorem dX9_breaks_40 : decode cX9_breaks 40 = .ok (.iload_n 3, 1) := by decide +kernel
theorem dX9_breaks_41 : decode cX9_breaks 41 = .ok (.iadd, 1) := by decide +kernel
theorem dX9_breaks_42 : decode cX9_breaks 42 = .ok (.iaload, 1) := by decide +kernel
theorem dX9_breaks_43 : decode cX9_breaks 43 = .ok (.ifCond .ne 30, 3) := by decide +kernel
theorem dX9_breaks_46 : decode cX9_breaks 46 = .ok (.iload 4, 2) := by decide +kernel
theorem dX9_breaks_48 : decode cX9_breaks 48 = .ok (.aload_n 0, 1) := by decide +kernel
theorem dX9_breaks_49 : decode cX9_breaks 49 = .ok (.getfield 87, 3) := by decide +kernel
theorem dX9_breaks_52 : decode cX9_breaks 52 = .ok (.aload_n 0, 1) := by decide +kernel
theorem dX9_breaks_53 : decode cX9_breaks 53 = .ok (.getfield 63, 3) := by decide +kernel
theorem dX9_breaks_56 : decode cX9_breaks 56 = .ok (.bipush 40, 2) := by decide +kernel
theorem dX9_breaks_58 : decode cX9_breaks 58 = .ok (.iload_n 1, 1) := by decide +kernel
theorem dX9_breaks_59 : decode cX9_breaks 59 = .ok (.imul, 1) := by decide +kernel
theorem dX9_breaks_60 : decode cX9_breaks 60 = .ok (.iload_n 3, 1) := by decide +kernel
theorem dX9_breaks_61 : decode cX9_breaks 61 = .ok (.iadd, 1) := by decide +kernel
theorem dX9_breaks_62 : decode cX9_breaks 62 = .ok (.iaload, 1) := by decide +kernel
theorem dX9_breaks_63 : decode cX9_breaks 63 = .ok (.iaload, 1) := by decide +kernel
theorem dX9_breaks_64 : decode cX9_breaks 64 = .ok (.imul, 1) := by decide +kernel
theorem dX9_breaks_65 : decode cX9_breaks 65 = .ok (.istore 4, 2) := by decide +kernel
theorem dX9_breaks_67 : decode cX9_breaks 67 = .ok (.iinc 3 1, 3) := by decide +kernel
theorem dX9_breaks_70 : decode cX9_breaks 70 = .ok (.goto (-38), 3) := by decide +kernel
theorem dX9_breaks_73 : decode cX9_breaks 73 = .ok (.iload_n 2, 1) := by decide +kernel
theorem dX9_breaks_74 : decode cX9_breaks 74 = .ok (.iconst 0, 1) := by decide +kernel
theorem dX9_breaks_75 : decode cX9_breaks 75 = .ok (.iload_n 3, 1) := by decide +kernel
theorem dX9_breaks_76 : decode cX9_breaks 76 = .ok (.iconst 1, 1) := by decide +kernel
theorem dX9_breaks_77 : decode cX9_breaks 77 = .ok (.isub, 1) := by decide +kernel
theorem dX9_breaks_78 : decode cX9_breaks 78 = .ok (.invokestatic 160, 3) := by decide +kernel
theorem dX9_breaks_81 : decode cX9_breaks 81 = .ok (.ifCond .eq 11, 3) := by decide +kernel
theorem dX9_breaks_84 : decode cX9_breaks 84 = .ok (.aload_n 0, 1) := by decide +kernel
theorem dX9_breaks_85 : decode cX9_breaks 85 = .ok (.iload_n 1, 1) := by decide +kernel
theorem dX9_breaks_86 : decode cX9_breaks 86 = .ok (.invokevirtual 371, 3) := by decide +kernel
theorem dX9_breaks_89 : decode cX9_breaks 89 = .ok (.ifCond .eq 5, 3) := by decide +kernel
theorem dX9_breaks_92 : decode cX9_breaks 92 = .ok (.iconst (-1), 1) := by decide +kernel
theorem dX9_breaks_93 : decode cX9_breaks 93 = .ok (.ireturn, 1) := by decide +kernel
theorem dX9_breaks_94 : decode cX9_breaks 94 = .ok (.aload_n 0, 1) := by decide +kernel
theorem dX9_breaks_95 : decode cX9_breaks 95 = .ok (.iload_n 1, 1) := by decide +kernel
theorem dX9_breaks_96 : decode cX9_breaks 96 = .ok (.iload_n 3, 1) := by decide +kernel
theorem dX9_breaks_97 : decode cX9_breaks 97 = .ok (.invokevirtual 365, 3) := by decide +kernel
theorem dX9_breaks_100 : decode cX9_breaks 100 = .ok (.iconst 0, 1) := by decide +kernel
theorem dX9_breaks_101 : decode cX9_breaks 101 = .ok (.istore 5, 2) := by decide +kernel
theorem dX9_breaks_103 : decode cX9_breaks 103 = .ok (.iload 5, 2) := by decide +kernel
theorem dX9_breaks_105 : decode cX9_breaks 105 = .ok (.iload 4, 2) := by decide +kernel
theorem dX9_breaks_107 : decode cX9_breaks 107 = .ok (.if_icmp .ge 154, 3) := by decide +kernel
theorem dX9_breaks_110 : decode cX9_breaks 110 = .ok (.iload 5, 2) := by decide +kernel
theorem dX9_breaks_112 : decode cX9_breaks 112 = .ok (.istore 6, 2) := by decide +kernel
theorem dX9_breaks_114 : decode cX9_breaks 114 = .ok (.iconst 0, 1) := by decide +kernel
theorem dX9_breaks_115 : decode cX9_breaks 115 = .ok (.istore 7, 2) := by decide +kernel
theorem dX9_breaks_117 : decode cX9_breaks 117 = .ok (.iconst 0, 1) := by decide +kernel
theorem dX9_breaks_118 : decode cX9_breaks 118 = .ok (.istore 8, 2) := by decide +kernel
theorem dX9_breaks_120 : decode cX9_breaks 120 = .ok (.iconst 0, 1) := by decide +kernel
theorem dX9_breaks_121 : decode cX9_breaks 121 = .ok (.istore 9, 2) := by decide +kernel
theorem dX9_breaks_123 : decode cX9_breaks 123 = .ok (.iload_n 3, 1) := by decide +kernel
theorem dX9_breaks_124 : decode cX9_breaks 124 = .ok (.iconst 1, 1) := by decide +kernel
theorem dX9_breaks_125 : decode cX9_breaks 125 = .ok (.isub, 1) := by decide +kernel
theorem dX9_breaks_126 : decode cX9_breaks 126 = .ok (.istore 10, 2) := by decide +kernel
theorem dX9_breaks_128 : decode cX9_breaks 128 = .ok (.iload 10, 2) := by decide +kernel
theorem dX9_breaks_130 : decode cX9_breaks 130 = .ok (.ifCond .lt 112, 3) := by decide +kernel
theorem dX9_breaks_133 : decode cX9_breaks 133 = .ok (.bipush 40, 2) := by decide +kernel
theorem dX9_breaks_135 : decode cX9_breaks 135 = .ok (.iload_n 1, 1) := by decide +kernel
theorem dX9_breaks_136 : decode cX9_breaks 136 = .ok (.imul, 1) := by decide +kernel
theorem dX9_breaks_137 : decode cX9_breaks 137 = .ok (.iload 10, 2) := by decide +kernel
theorem dX9_breaks_139 : decode cX9_breaks 139 = .ok (.iadd, 1) := by decide +kernel
theorem dX9_breaks_140 : decode cX9_breaks 140 = .ok (.istore 11, 2) := by decide +kernel
theorem dX9_breaks_142 : decode cX9_breaks 142 = .ok (.aload_n 0, 1) := by decide +kernel
theorem dX9_breaks_143 : decode cX9_breaks 143 = .ok (.getfield 87, 3) := by decide +kernel
theorem dX9_breaks_146 : decode cX9_breaks 146 = .ok (.aload_n 0, 1) := by decide +kernel
theorem dX9_breaks_147 : decode cX9_breaks 147 = .ok (.getfield 63, 3) := by decide +kernel
theorem dX9_breaks_150 : decode cX9_breaks 150 = .ok (.iload 11, 2) := by decide +kernel
theorem dX9_breaks_152 : decode cX9_breaks 152 = .ok (.iaload, 1) := by decide +kernel
theorem dX9_breaks_153 : decode cX9_breaks 153 = .ok (.iaload, 1) := by decide +kernel
theorem dX9_breaks_154 : decode cX9_breaks 154 = .ok (.istore 12, 2) := by decide +kernel
theorem dX9_breaks_156 : decode cX9_breaks 156 = .ok (.iload 6, 2) := by decide +kernel
theorem dX9_breaks_158 : decode cX9_breaks 158 = .ok (.iload 12, 2) := by decide +kernel
theorem dX9_breaks_160 : decode cX9_breaks 160 = .ok (.irem, 1) := by decide +kernel
theorem dX9_breaks_161 : decode cX9_breaks 161 = .ok (.istore 13, 2) := by decide +kernel
theorem dX9_breaks_163 : decode cX9_breaks 163 = .ok (.iload 6, 2) := by decide +kernel
theorem dX9_breaks_165 : decode cX9_breaks 165 = .ok (.iload 12, 2) := by decide +kernel
theorem dX9_breaks_167 : decode cX9_breaks 167 = .ok (.idiv, 1) := by decide +kernel
theorem dX9_breaks_168 : decode cX9_breaks 168 = .ok (.istore 6, 2) := by decide +kernel
theorem dX9_breaks_170 : decode cX9_breaks 170 = .ok (.iload 7, 2) := by decide +kernel
theorem dX9_breaks_172 : decode cX9_breaks 172 = .ok (.iload 9, 2) := by decide +kernel
theorem dX9_breaks_174 : decode cX9_breaks 174 = .ok (.aload_n 0, 1) := by decide +kernel
theorem dX9_breaks_175 : decode cX9_breaks 175 = .ok (.getfield 60, 3) := by decide +kernel
theorem dX9_breaks_178 : decode cX9_breaks 178 = .ok (.iload 11, 2) := by decide +kernel
theorem dX9_breaks_180 : decode cX9_breaks 180 = .ok (.iaload, 1) := by decide +kernel
theorem dX9_breaks_181 : decode cX9_breaks 181 = .ok (.ishr, 1) := by decide +kernel
theorem dX9_breaks_182 : decode cX9_breaks 182 = .ok (.iconst 1, 1) := by decide +kernel
theorem dX9_breaks_183 : decode cX9_breaks 183 = .ok (.iand, 1) := by decide +kernel
theorem dX9_breaks_184 : decode cX9_breaks 184 = .ok (.ifCond .ne 19, 3) := by decide +kernel
theorem dX9_breaks_187 : decode cX9_breaks 187 = .ok (.iload 13, 2) := by decide +kernel
theorem dX9_breaks_189 : decode cX9_breaks 189 = .ok (.aload_n 0, 1) := by decide +kernel
theorem dX9_breaks_190 : decode cX9_breaks 190 = .ok (.getfield 60, 3) := by decide +kernel
theorem dX9_breaks_193 : decode cX9_breaks 193 = .ok (.iload 11, 2) := by decide +kernel
theorem dX9_breaks_195 : decode cX9_breaks 195 = .ok (.iaload, 1) := by decide +kernel
theorem dX9_breaks_196 : decode cX9_breaks 196 = .ok (.invokestatic 338, 3) := by decide +kernel
theorem dX9_breaks_199 : decode cX9_breaks 199 = .ok (.imul, 1) := by decide +kernel
theorem dX9_breaks_200 : decode cX9_breaks 200 = .ok (.goto 4, 3) := by decide +kernel
theorem dX9_breaks_203 : decode cX9_breaks 203 = .ok (.iconst 0, 1) := by decide +kernel
theorem dX9_breaks_204 : decode cX9_breaks 204 = .ok (.iadd, 1) := by decide +kernel
theorem dX9_breaks_205 : decode cX9_breaks 205 = .ok (.istore 7, 2) := by decide +kernel
theorem dX9_breaks_207 : decode cX9_breaks 207 = .ok (.iload 9, 2) := by decide +kernel
theorem dX9_breaks_209 : decode cX9_breaks 209 = .ok (.iconst 1, 1) := by decide +kernel
theorem dX9_breaks_210 : decode cX9_breaks 210 = .ok (.aload_n 0, 1) := by decide +kernel
theorem dX9_breaks_211 : decode cX9_breaks 211 = .ok (.getfield 60, 3) := by decide +kernel
theorem dX9_breaks_214 : decode cX9_breaks 214 = .ok (.iload 11, 2) := by decide +kernel
theorem dX9_breaks_216 : decode cX9_breaks 216 = .ok (.iaload, 1) := by decide +kernel
theorem dX9_breaks_217 : decode cX9_breaks 217 = .ok (.ishl, 1) := by decide +kernel
theorem dX9_breaks_218 : decode cX9_breaks 218 = .ok (.ior, 1) := by decide +kernel
theorem dX9_breaks_219 : decode cX9_breaks 219 = .ok (.istore 9, 2) := by decide +kernel
theorem dX9_breaks_221 : decode cX9_breaks 221 = .ok (.iload 10, 2) := by decide +kernel
theorem dX9_breaks_223 : decode cX9_breaks 223 = .ok (.iload_n 2, 1) := by decide +kernel
theorem dX9_breaks_224 : decode cX9_breaks 224 = .ok (.if_icmp .ne 8, 3) := by decide +kernel
theorem dX9_breaks_227 : decode cX9_breaks 227 = .ok (.iload 13, 2) := by decide +kernel
theorem dX9_breaks_229 : decode cX9_breaks 229 = .ok (.goto 5, 3) := by decide +kernel
theorem dX9_breaks_232 : decode cX9_breaks 232 = .ok (.iload 8, 2) := by decide +kernel
theorem dX9_breaks_234 : decode cX9_breaks 234 = .ok (.istore 8, 2) := by decide +kernel
theorem dX9_breaks_236 : decode cX9_breaks 236 = .ok (.iinc 10 (-1), 3) := by decide +kernel
theorem dX9_breaks_239 : decode cX9_breaks 239 = .ok (.goto (-111), 3) := by decide +kernel
theorem dX9_breaks_242 : decode cX9_breaks 242 = .ok (.aload_n 0, 1) := by decide +kernel
theorem dX9_breaks_243 : decode cX9_breaks 243 = .ok (.getfield 111, 3) := by decide +kernel
theorem dX9_breaks_246 : decode cX9_breaks 246 = .ok (.iload 7, 2) := by decide +kernel
theorem dX9_breaks_248 : decode cX9_breaks 248 = .ok (.baload, 1) := by decide +kernel
theorem dX9_breaks_249 : decode cX9_breaks 249 = .ok (.ifCond .ne 6, 3) := by decide +kernel
theorem dX9_breaks_252 : decode cX9_breaks 252 = .ok (.iload 8, 2) := by decide +kernel
theorem dX9_breaks_254 : decode cX9_breaks 254 = .ok (.ireturn, 1) := by decide +kernel
theorem dX9_breaks_255 : decode cX9_breaks 255 = .ok (.iinc 5 1, 3) := by decide +kernel
theorem dX9_breaks_258 : decode cX9_breaks 258 = .ok (.goto (-155), 3) := by decide +kernel
theorem dX9_breaks_261 : decode cX9_breaks 261 = .ok (.iconst (-1), 1) := by decide +kernel
theorem dX9_breaks_262 : decode cX9_breaks 262 = .ok (.ireturn, 1) := by decide +kernel
theorem dX9_layWorld_0 : decode cX9_layWorld 0 = .ok (.aload_n 0, 1) := by decide +kernel
theorem dX9_layWorld_1 : decode cX9_layWorld 1 = .ok (.invokevirtual 171, 3) := by decide +kernel
theorem dX9_layWorld_4 : decode cX9_layWorld 4 = .ok (.istore_n 2, 1) := by decide +kernel
theorem dX9_layWorld_5 : decode cX9_layWorld 5 = .ok (.iconst 0, 1) := by decide +kernel
theorem dX9_layWorld_6 : decode cX9_layWorld 6 = .ok (.istore_n 3, 1) := by decide +kernel
theorem dX9_layWorld_7 : decode cX9_layWorld 7 = .ok (.iload_n 3, 1) := by decide +kernel
theorem dX9_layWorld_8 : decode cX9_layWorld 8 = .ok (.iload_n 2, 1) := by decide +kernel
theorem dX9_layWorld_9 : decode cX9_layWorld 9 = .ok (.if_icmp .ge 32, 3) := by decide +kernel
theorem dX9_layWorld_12 : decode cX9_layWorld 12 = .ok (.aload_n 0, 1) := by decide +kernel
theorem dX9_layWorld_13 : decode cX9_layWorld 13 = .ok (.getfield 93, 3) := by decide +kernel
theorem dX9_layWorld_16 : decode cX9_layWorld 16 = .ok (.iload_n 3, 1) := by decide +kernel
theorem dX9_layWorld_17 : decode cX9_layWorld 17 = .ok (.iload_n 1, 1) := by decide +kernel
theorem dX9_layWorld_18 : decode cX9_layWorld 18 = .ok (.iload_n 2, 1) := by decide +kernel
theorem dX9_layWorld_19 : decode cX9_layWorld 19 = .ok (.iconst 1, 1) := by decide +kernel
theorem dX9_layWorld_20 : decode cX9_layWorld 20 = .ok (.isub, 1) := by decide +kernel
theorem dX9_layWorld_21 : decode cX9_layWorld 21 = .ok (.iload_n 3, 1) := by decide +kernel
theorem dX9_layWorld_22 : decode cX9_layWorld 22 = .ok (.isub, 1) := by decide +kernel
theorem dX9_layWorld_23 : decode cX9_layWorld 23 = .ok (.ishr, 1) := by decide +kernel
theorem dX9_layWorld_24 : decode cX9_layWorld 24 = .ok (.iconst 1, 1) := by decide +kernel
theorem dX9_layWorld_25 : decode cX9_layWorld 25 = .ok (.iand, 1) := by decide +kernel
theorem dX9_layWorld_26 : decode cX9_layWorld 26 = .ok (.ifCond .eq 7, 3) := by decide +kernel
theorem dX9_layWorld_29 : decode cX9_layWorld 29 = .ok (.iconst 1, 1) := by decide +kernel
theorem dX9_layWorld_30 : decode cX9_layWorld 30 = .ok (.goto 4, 3) := by decide +kernel
theorem dX9_layWorld_33 : decode cX9_layWorld 33 = .ok (.iconst 0, 1) := by decide +kernel
theorem dX9_layWorld_34 : decode cX9_layWorld 34 = .ok (.bastore, 1) := by decide +kernel
theorem dX9_layWorld_35 : decode cX9_layWorld 35 = .ok (.iinc 3 1, 3) := by decide +kernel
theorem dX9_layWorld_38 : decode cX9_layWorld 38 = .ok (.goto (-31), 3) := by decide +kernel
theorem dX9_layWorld_41 : decode cX9_layWorld 41 = .ok (.return_, 1) := by decide +kernel
theorem dX9_numberOfWorld_0 : decode cX9_numberOfWorld 0 = .ok (.aload_n 0, 1) := by decide +kernel
theorem dX9_numberOfWorld_1 : decode cX9_numberOfWorld 1 = .ok (.invokevirtual 171, 3) := by decide +kernel
theorem dX9_numberOfWorld_4 : decode cX9_numberOfWorld 4 = .ok (.istore_n 1, 1) := by decide +kernel
theorem dX9_numberOfWorld_5 : decode cX9_numberOfWorld 5 = .ok (.iconst 0, 1) := by decide +kernel
theorem dX9_numberOfWorld_6 : decode cX9_numberOfWorld 6 = .ok (.istore_n 2, 1) := by decide +kernel
theorem dX9_numberOfWorld_7 : decode cX9_numberOfWorld 7 = .ok (.iconst 0, 1) := by decide +kernel
theorem dX9_numberOfWorld_8 : decode cX9_numberOfWorld 8 = .ok (.istore_n 3, 1) := by decide +kernel
theorem dX9_numberOfWorld_9 : decode cX9_numberOfWorld 9 = .ok (.iload_n 3, 1) := by decide +kernel
theorem dX9_numberOfWorld_10 : decode cX9_numberOfWorld 10 = .ok (.iload_n 1, 1) := by decide +kernel
theorem dX9_numberOfWorld_11 : decode cX9_numberOfWorld 11 = .ok (.if_icmp .ge 28, 3) := by decide +kernel
theorem dX9_numberOfWorld_14 : decode cX9_numberOfWorld 14 = .ok (.iconst 2, 1) := by decide +kernel
theorem dX9_numberOfWorld_15 : decode cX9_numberOfWorld 15 = .ok (.iload_n 2, 1) := by decide +kernel
theorem dX9_numberOfWorld_16 : decode cX9_numberOfWorld 16 = .ok (.imul, 1) := by decide +kernel
theorem dX9_numberOfWorld_17 : decode cX9_numberOfWorld 17 = .ok (.aload_n 0, 1) := by decide +kernel
theorem dX9_numberOfWorld_18 : decode cX9_numberOfWorld 18 = .ok (.getfield 41, 3) := by decide +kernel
theorem dX9_numberOfWorld_21 : decode cX9_numberOfWorld 21 = .ok (.iload_n 3, 1) := by decide +kernel
theorem dX9_numberOfWorld_22 : decode cX9_numberOfWorld 22 = .ok (.baload, 1) := by decide +kernel
theorem dX9_numberOfWorld_23 : decode cX9_numberOfWorld 23 = .ok (.ifCond .eq 7, 3) := by decide +kernel
theorem dX9_numberOfWorld_26 : decode cX9_numberOfWorld 26 = .ok (.iconst 1, 1) := by decide +kernel
theorem dX9_numberOfWorld_27 : decode cX9_numberOfWorld 27 = .ok (.goto 4, 3) := by decide +kernel
theorem dX9_numberOfWorld_30 : decode cX9_numberOfWorld 30 = .ok (.iconst 0, 1) := by decide +kernel
theorem dX9_numberOfWorld_31 : decode cX9_numberOfWorld 31 = .ok (.iadd, 1) := by decide +kernel
theorem dX9_numberOfWorld_32 : decode cX9_numberOfWorld 32 = .ok (.istore_n 2, 1) := by decide +kernel
theorem dX9_numberOfWorld_33 : decode cX9_numberOfWorld 33 = .ok (.iinc 3 1, 3) := by decide +kernel
theorem dX9_numberOfWorld_36 : decode cX9_numberOfWorld 36 = .ok (.goto (-27), 3) := by decide +kernel
theorem dX9_numberOfWorld_39 : decode cX9_numberOfWorld 39 = .ok (.iload_n 2, 1) := by decide +kernel
theorem dX9_numberOfWorld_40 : decode cX9_numberOfWorld 40 = .ok (.ireturn, 1) := by decide +kernel
theorem dX9_takeWorld_0 : decode cX9_takeWorld 0 = .ok (.aload_n 0, 1) := by decide +kernel
theorem dX9_takeWorld_1 : decode cX9_takeWorld 1 = .ok (.invokevirtual 171, 3) := by decide +kernel
theorem dX9_takeWorld_4 : decode cX9_takeWorld 4 = .ok (.istore_n 2, 1) := by decide +kernel
theorem dX9_takeWorld_5 : decode cX9_takeWorld 5 = .ok (.iconst 0, 1) := by decide +kernel
theorem dX9_takeWorld_6 : decode cX9_takeWorld 6 = .ok (.istore_n 3, 1) := by decide +kernel
theorem dX9_takeWorld_7 : decode cX9_takeWorld 7 = .ok (.iload_n 3, 1) := by decide +kernel
theorem dX9_takeWorld_8 : decode cX9_takeWorld 8 = .ok (.iload_n 2, 1) := by decide +kernel
theorem dX9_takeWorld_9 : decode cX9_takeWorld 9 = .ok (.if_icmp .ge 32, 3) := by decide +kernel
theorem dX9_takeWorld_12 : decode cX9_takeWorld 12 = .ok (.aload_n 0, 1) := by decide +kernel
theorem dX9_takeWorld_13 : decode cX9_takeWorld 13 = .ok (.getfield 41, 3) := by decide +kernel
theorem dX9_takeWorld_16 : decode cX9_takeWorld 16 = .ok (.iload_n 3, 1) := by decide +kernel
theorem dX9_takeWorld_17 : decode cX9_takeWorld 17 = .ok (.iload_n 1, 1) := by decide +kernel
theorem dX9_takeWorld_18 : decode cX9_takeWorld 18 = .ok (.iload_n 2, 1) := by decide +kernel
theorem dX9_takeWorld_19 : decode cX9_takeWorld 19 = .ok (.iconst 1, 1) := by decide +kernel
theorem dX9_takeWorld_20 : decode cX9_takeWorld 20 = .ok (.isub, 1) := by decide +kernel
theorem dX9_takeWorld_21 : decode cX9_takeWorld 21 = .ok (.iload_n 3, 1) := by decide +kernel
theorem dX9_takeWorld_22 : decode cX9_takeWorld 22 = .ok (.isub, 1) := by decide +kernel
theorem dX9_takeWorld_23 : decode cX9_takeWorld 23 = .ok (.ishr, 1) := by decide +kernel
theorem dX9_takeWorld_24 : decode cX9_takeWorld 24 = .ok (.iconst 1, 1) := by decide +kernel
theorem dX9_takeWorld_25 : decode cX9_takeWorld 25 = .ok (.iand, 1) := by decide +kernel
theorem dX9_takeWorld_26 : decode cX9_takeWorld 26 = .ok (.ifCond .eq 7, 3) := by decide +kernel
theorem dX9_takeWorld_29 : decode cX9_takeWorld 29 = .ok (.iconst 1, 1) := by decide +kernel
theorem dX9_takeWorld_30 : decode cX9_takeWorld 30 = .ok (.goto 4, 3) := by decide +kernel
theorem dX9_takeWorld_33 : decode cX9_takeWorld 33 = .ok (.iconst 0, 1) := by decide +kernel
theorem dX9_takeWorld_34 : decode cX9_takeWorld 34 = .ok (.bastore, 1) := by decide +kernel
theorem dX9_takeWorld_35 : decode cX9_takeWorld 35 = .ok (.iinc 3 1, 3) := by decide +kernel
theorem dX9_takeWorld_38 : decode cX9_takeWorld 38 = .ok (.goto (-31), 3) := by decide +kernel
theorem dX9_takeWorld_41 : decode cX9_takeWorld 41 = .ok (.return_, 1) := by decide +kernel
theorem dX9_canTell_0 : decode cX9_canTell 0 = .ok (.aload_n 0, 1) := by decide +kernel
theorem dX9_canTell_1 : decode cX9_canTell 1 = .ok (.invokevirtual 157, 3) := by decide +kernel
theorem dX9_canTell_4 : decode cX9_canTell 4 = .ok (.aload_n 0, 1) := by decide +kernel
theorem dX9_canTell_5 : decode cX9_canTell 5 = .ok (.invokevirtual 171, 3) := by decide +kernel
theorem dX9_canTell_8 : decode cX9_canTell 8 = .ok (.bipush 12, 2) := by decide +kernel
theorem dX9_canTell_10 : decode cX9_canTell 10 = .ok (.if_icmp .gt 7, 3) := by decide +kernel
theorem dX9_canTell_13 : decode cX9_canTell 13 = .ok (.iconst 1, 1) := by decide +kernel
theorem dX9_canTell_14 : decode cX9_canTell 14 = .ok (.goto 4, 3) := by decide +kernel
theorem dX9_canTell_17 : decode cX9_canTell 17 = .ok (.iconst 0, 1) := by decide +kernel
theorem dX9_canTell_18 : decode cX9_canTell 18 = .ok (.ireturn, 1) := by decide +kernel
theorem dX9_findKnown_0 : decode cX9_findKnown 0 = .ok (.aload_n 0, 1) := by decide +kernel
theorem dX9_findKnown_1 : decode cX9_findKnown 1 = .ok (.getfield 26, 3) := by decide +kernel
theorem dX9_findKnown_4 : decode cX9_findKnown 4 = .ok (.iconst 0, 1) := by decide +kernel
theorem dX9_findKnown_5 : decode cX9_findKnown 5 = .ok (.iaload, 1) := by decide +kernel
theorem dX9_findKnown_6 : decode cX9_findKnown 6 = .ok (.iconst (-1), 1) := by decide +kernel
theorem dX9_findKnown_7 : decode cX9_findKnown 7 = .ok (.if_icmp .ne 12, 3) := by decide +kernel
theorem dX9_findKnown_10 : decode cX9_findKnown 10 = .ok (.aload_n 0, 1) := by decide +kernel
theorem dX9_findKnown_11 : decode cX9_findKnown 11 = .ok (.getfield 23, 3) := by decide +kernel
theorem dX9_findKnown_14 : decode cX9_findKnown 14 = .ok (.iconst 0, 1) := by decide +kernel
theorem dX9_findKnown_15 : decode cX9_findKnown 15 = .ok (.iaload, 1) := by decide +kernel
theorem dX9_findKnown_16 : decode cX9_findKnown 16 = .ok (.goto 9, 3) := by decide +kernel
theorem dX9_findKnown_19 : decode cX9_findKnown 19 = .ok (.aload_n 0, 1) := by decide +kernel
theorem dX9_findKnown_20 : decode cX9_findKnown 20 = .ok (.getfield 26, 3) := by decide +kernel
theorem dX9_findKnown_23 : decode cX9_findKnown 23 = .ok (.iconst 0, 1) := by decide +kernel
theorem dX9_findKnown_24 : decode cX9_findKnown 24 = .ok (.iaload, 1) := by decide +kernel
theorem dX9_findKnown_25 : decode cX9_findKnown 25 = .ok (.istore_n 1, 1) := by decide +kernel
theorem dX9_findKnown_26 : decode cX9_findKnown 26 = .ok (.aload_n 0, 1) := by decide +kernel
theorem dX9_findKnown_27 : decode cX9_findKnown 27 = .ok (.invokevirtual 171, 3) := by decide +kernel
theorem dX9_findKnown_30 : decode cX9_findKnown 30 = .ok (.istore_n 2, 1) := by decide +kernel
theorem dX9_findKnown_31 : decode cX9_findKnown 31 = .ok (.aload_n 0, 1) := by decide +kernel
theorem dX9_findKnown_32 : decode cX9_findKnown 32 = .ok (.iconst 0, 1) := by decide +kernel
theorem dX9_findKnown_33 : decode cX9_findKnown 33 = .ok (.putfield 374, 3) := by decide +kernel
theorem dX9_findKnown_36 : decode cX9_findKnown 36 = .ok (.aload_n 0, 1) := by decide +kernel
theorem dX9_findKnown_37 : decode cX9_findKnown 37 = .ok (.iconst 0, 1) := by decide +kernel
theorem dX9_findKnown_38 : decode cX9_findKnown 38 = .ok (.putfield 377, 3) := by decide +kernel
theorem dX9_findKnown_41 : decode cX9_findKnown 41 = .ok (.iconst 0, 1) := by decide +kernel
theorem dX9_findKnown_42 : decode cX9_findKnown 42 = .ok (.istore_n 3, 1) := by decide +kernel
theorem dX9_findKnown_43 : decode cX9_findKnown 43 = .ok (.iload_n 3, 1) := by decide +kernel
theorem dX9_findKnown_44 : decode cX9_findKnown 44 = .ok (.aload_n 0, 1) := by decide +kernel
theorem dX9_findKnown_45 : decode cX9_findKnown 45 = .ok (.getfield 69, 3) := by decide +kernel
theorem dX9_findKnown_48 : decode cX9_findKnown 48 = .ok (.iconst 0, 1) := by decide +kernel
theorem dX9_findKnown_49 : decode cX9_findKnown 49 = .ok (.iaload, 1) := by decide +kernel
theorem dX9_findKnown_50 : decode cX9_findKnown 50 = .ok (.if_icmp .ge 119, 3) := by decide +kernel
theorem dX9_findKnown_53 : decode cX9_findKnown 53 = .ok (.aload_n 0, 1) := by decide +kernel
theorem dX9_findKnown_54 : decode cX9_findKnown 54 = .ok (.getfield 72, 3) := by decide +kernel
theorem dX9_findKnown_57 : decode cX9_findKnown 57 = .ok (.iload_n 3, 1) := by decide +kernel
theorem dX9_findKnown_58 : decode cX9_findKnown 58 = .ok (.iaload, 1) := by decide +kernel
theorem dX9_findKnown_59 : decode cX9_findKnown 59 = .ok (.bipush 9, 2) := by decide +kernel
theorem dX9_findKnown_61 : decode cX9_findKnown 61 = .ok (.idiv, 1) := by decide +kernel
theorem dX9_findKnown_62 : decode cX9_findKnown 62 = .ok (.istore 4, 2) := by decide +kernel
theorem dX9_findKnown_64 : decode cX9_findKnown 64 = .ok (.aload_n 0, 1) := by decide +kernel
theorem dX9_findKnown_65 : decode cX9_findKnown 65 = .ok (.iload 4, 2) := by decide +kernel
theorem dX9_findKnown_67 : decode cX9_findKnown 67 = .ok (.aload_n 0, 1) := by decide +kernel
theorem dX9_findKnown_68 : decode cX9_findKnown 68 = .ok (.getfield 72, 3) := by decide +kernel
theorem dX9_findKnown_71 : decode cX9_findKnown 71 = .ok (.iload_n 3, 1) := by decide +kernel
theorem dX9_findKnown_72 : decode cX9_findKnown 72 = .ok (.iaload, 1) := by decide +kernel
theorem dX9_findKnown_73 : decode cX9_findKnown 73 = .ok (.iconst 3, 1) := by decide +kernel
theorem dX9_findKnown_74 : decode cX9_findKnown 74 = .ok (.idiv, 1) := by decide +kernel
theorem dX9_findKnown_75 : decode cX9_findKnown 75 = .ok (.iconst 3, 1) := by decide +kernel
theorem dX9_findKnown_76 : decode cX9_findKnown 76 = .ok (.irem, 1) := by decide +kernel
theorem dX9_findKnown_77 : decode cX9_findKnown 77 = .ok (.aload_n 0, 1) := by decide +kernel
theorem dX9_findKnown_78 : decode cX9_findKnown 78 = .ok (.getfield 72, 3) := by decide +kernel
theorem dX9_findKnown_81 : decode cX9_findKnown 81 = .ok (.iload_n 3, 1) := by decide +kernel
theorem dX9_findKnown_82 : decode cX9_findKnown 82 = .ok (.iaload, 1) := by decide +kernel
theorem dX9_findKnown_83 : decode cX9_findKnown 83 = .ok (.iconst 3, 1) := by decide +kernel
theorem dX9_findKnown_84 : decode cX9_findKnown 84 = .ok (.irem, 1) := by decide +kernel
theorem dX9_findKnown_85 : decode cX9_findKnown 85 = .ok (.invokevirtual 164, 3) := by decide +kernel
theorem dX9_findKnown_88 : decode cX9_findKnown 88 = .ok (.istore 5, 2) := by decide +kernel
theorem dX9_findKnown_90 : decode cX9_findKnown 90 = .ok (.iload 5, 2) := by decide +kernel
theorem dX9_findKnown_92 : decode cX9_findKnown 92 = .ok (.iconst (-1), 1) := by decide +kernel
theorem dX9_findKnown_93 : decode cX9_findKnown 93 = .ok (.if_icmp .eq 70, 3) := by decide +kernel
theorem dX9_findKnown_96 : decode cX9_findKnown 96 = .ok (.aload_n 0, 1) := by decide +kernel
theorem dX9_findKnown_97 : decode cX9_findKnown 97 = .ok (.getfield 78, 3) := by decide +kernel
theorem dX9_findKnown_100 : decode cX9_findKnown 100 = .ok (.iload_n 3, 1) := by decide +kernel
theorem dX9_findKnown_101 : decode cX9_findKnown 101 = .ok (.iaload, 1) := by decide +kernel
theorem dX9_findKnown_102 : decode cX9_findKnown 102 = .ok (.iload_n 1, 1) := by decide +kernel
theorem dX9_findKnown_103 : decode cX9_findKnown 103 = .ok (.if_icmp .le 6, 3) := by decide +kernel
theorem dX9_findKnown_106 : decode cX9_findKnown 106 = .ok (.goto 57, 3) := by decide +kernel
theorem dX9_findKnown_109 : decode cX9_findKnown 109 = .ok (.iconst 1, 1) := by decide +kernel
theorem dX9_findKnown_110 : decode cX9_findKnown 110 = .ok (.iload_n 2, 1) := by decide +kernel
theorem dX9_findKnown_111 : decode cX9_findKnown 111 = .ok (.iconst 1, 1) := by decide +kernel
theorem dX9_findKnown_112 : decode cX9_findKnown 112 = .ok (.isub, 1) := by decide +kernel
theorem dX9_findKnown_113 : decode cX9_findKnown 113 = .ok (.iload 5, 2) := by decide +kernel
theorem dX9_findKnown_115 : decode cX9_findKnown 115 = .ok (.isub, 1) := by decide +kernel
theorem dX9_findKnown_116 : decode cX9_findKnown 116 = .ok (.ishl, 1) := by decide +kernel
theorem dX9_findKnown_117 : decode cX9_findKnown 117 = .ok (.istore 6, 2) := by decide +kernel
theorem dX9_findKnown_119 : decode cX9_findKnown 119 = .ok (.aload_n 0, 1) := by decide +kernel
theorem dX9_findKnown_120 : decode cX9_findKnown 120 = .ok (.dup, 1) := by decide +kernel
theorem dX9_findKnown_121 : decode cX9_findKnown 121 = .ok (.getfield 374, 3) := by decide +kernel
theorem dX9_findKnown_124 : decode cX9_findKnown 124 = .ok (.iload 6, 2) := by decide +kernel
theorem dX9_findKnown_126 : decode cX9_findKnown 126 = .ok (.ior, 1) := by decide +kernel
theorem dX9_findKnown_127 : decode cX9_findKnown 127 = .ok (.putfield 374, 3) := by decide +kernel
theorem dX9_findKnown_130 : decode cX9_findKnown 130 = .ok (.aload_n 0, 1) := by decide +kernel
theorem dX9_findKnown_131 : decode cX9_findKnown 131 = .ok (.aload_n 0, 1) := by decide +kernel
theorem dX9_findKnown_132 : decode cX9_findKnown 132 = .ok (.getfield 75, 3) := by decide +kernel
theorem dX9_findKnown_135 : decode cX9_findKnown 135 = .ok (.iload_n 3, 1) := by decide +kernel
theorem dX9_findKnown_136 : decode cX9_findKnown 136 = .ok (.iaload, 1) := by decide +kernel
theorem dX9_findKnown_137 : decode cX9_findKnown 137 = .ok (.iconst 1, 1) := by decide +kernel
theorem dX9_findKnown_138 : decode cX9_findKnown 138 = .ok (.if_icmp .ne 13, 3) := by decide +kernel
theorem dX9_findKnown_141 : decode cX9_findKnown 141 = .ok (.aload_n 0, 1) := by decide +kernel
theorem dX9_findKnown_142 : decode cX9_findKnown 142 = .ok (.getfield 377, 3) := by decide +kernel
theorem dX9_findKnown_145 : decode cX9_findKnown 145 = .ok (.iload 6, 2) := by decide +kernel
theorem dX9_findKnown_147 : decode cX9_findKnown 147 = .ok (.ior, 1) := by decide +kernel
theorem dX9_findKnown_148 : decode cX9_findKnown 148 = .ok (.goto 12, 3) := by decide +kernel
theorem dX9_findKnown_151 : decode cX9_findKnown 151 = .ok (.aload_n 0, 1) := by decide +kernel
theorem dX9_findKnown_152 : decode cX9_findKnown 152 = .ok (.getfield 377, 3) := by decide +kernel
theorem dX9_findKnown_155 : decode cX9_findKnown 155 = .ok (.iload 6, 2) := by decide +kernel
theorem dX9_findKnown_157 : decode cX9_findKnown 157 = .ok (.iconst (-1), 1) := by decide +kernel
theorem dX9_findKnown_158 : decode cX9_findKnown 158 = .ok (.ixor, 1) := by decide +kernel
theorem dX9_findKnown_159 : decode cX9_findKnown 159 = .ok (.iand, 1) := by decide +kernel
theorem dX9_findKnown_160 : decode cX9_findKnown 160 = .ok (.putfield 377, 3) := by decide +kernel
theorem dX9_findKnown_163 : decode cX9_findKnown 163 = .ok (.iinc 3 1, 3) := by decide +kernel
theorem dX9_findKnown_166 : decode cX9_findKnown 166 = .ok (.goto (-123), 3) := by decide +kernel
theorem dX9_findKnown_169 : decode cX9_findKnown 169 = .ok (.return_, 1) := by decide +kernel
theorem dX9_prepare_0 : decode cX9_prepare 0 = .ok (.aload_n 0, 1) := by decide +kernel
theorem dX9_prepare_1 : decode cX9_prepare 1 = .ok (.aload_n 0, 1) := by decide +kernel
theorem dX9_prepare_2 : decode cX9_prepare 2 = .ok (.invokevirtual 380, 3) := by decide +kernel
theorem dX9_prepare_5 : decode cX9_prepare 5 = .ok (.putfield 383, 3) := by decide +kernel
theorem dX9_prepare_8 : decode cX9_prepare 8 = .ok (.aload_n 0, 1) := by decide +kernel
theorem dX9_prepare_9 : decode cX9_prepare 9 = .ok (.invokevirtual 386, 3) := by decide +kernel
theorem dX9_prepare_12 : decode cX9_prepare 12 = .ok (.return_, 1) := by decide +kernel
theorem dX9_isAsKnown_0 : decode cX9_isAsKnown 0 = .ok (.iload_n 1, 1) := by decide +kernel
theorem dX9_isAsKnown_1 : decode cX9_isAsKnown 1 = .ok (.aload_n 0, 1) := by decide +kernel
theorem dX9_isAsKnown_2 : decode cX9_isAsKnown 2 = .ok (.getfield 374, 3) := by decide +kernel
theorem dX9_isAsKnown_5 : decode cX9_isAsKnown 5 = .ok (.iand, 1) := by decide +kernel
theorem dX9_isAsKnown_6 : decode cX9_isAsKnown 6 = .ok (.aload_n 0, 1) := by decide +kernel
theorem dX9_isAsKnown_7 : decode cX9_isAsKnown 7 = .ok (.getfield 377, 3) := by decide +kernel
theorem dX9_isAsKnown_10 : decode cX9_isAsKnown 10 = .ok (.if_icmp .ne 7, 3) := by decide +kernel
theorem dX9_isAsKnown_13 : decode cX9_isAsKnown 13 = .ok (.iconst 1, 1) := by decide +kernel
theorem dX9_isAsKnown_14 : decode cX9_isAsKnown 14 = .ok (.goto 4, 3) := by decide +kernel
theorem dX9_isAsKnown_17 : decode cX9_isAsKnown 17 = .ok (.iconst 0, 1) := by decide +kernel
theorem dX9_isAsKnown_18 : decode cX9_isAsKnown 18 = .ok (.ireturn, 1) := by decide +kernel
theorem dX9_isWorld_0 : decode cX9_isWorld 0 = .ok (.aload_n 0, 1) := by decide +kernel
theorem dX9_isWorld_1 : decode cX9_isWorld 1 = .ok (.iload_n 1, 1) := by decide +kernel
theorem dX9_isWorld_2 : decode cX9_isWorld 2 = .ok (.invokevirtual 389, 3) := by decide +kernel
theorem dX9_isWorld_5 : decode cX9_isWorld 5 = .ok (.ifCond .ne 5, 3) := by decide +kernel
theorem dX9_isWorld_8 : decode cX9_isWorld 8 = .ok (.iconst 0, 1) := by decide +kernel
theorem dX9_isWorld_9 : decode cX9_isWorld 9 = .ok (.ireturn, 1) := by decide +kernel
theorem dX9_isWorld_10 : decode cX9_isWorld 10 = .ok (.aload_n 0, 1) := by decide +kernel
theorem dX9_isWorld_11 : decode cX9_isWorld 11 = .ok (.iload_n 1, 1) := by decide +kernel
theorem dX9_isWorld_12 : decode cX9_isWorld 12 = .ok (.invokevirtual 392, 3) := by decide +kernel
theorem dX9_isWorld_15 : decode cX9_isWorld 15 = .ok (.iconst 0, 1) := by decide +kernel
theorem dX9_isWorld_16 : decode cX9_isWorld 16 = .ok (.istore_n 2, 1) := by decide +kernel
theorem dX9_isWorld_17 : decode cX9_isWorld 17 = .ok (.iload_n 2, 1) := by decide +kernel
theorem dX9_isWorld_18 : decode cX9_isWorld 18 = .ok (.aload_n 0, 1) := by decide +kernel
theorem dX9_isWorld_19 : decode cX9_isWorld 19 = .ok (.getfield 45, 3) := by decide +kernel
theorem dX9_isWorld_22 : decode cX9_isWorld 22 = .ok (.iconst 0, 1) := by decide +kernel
theorem dX9_isWorld_23 : decode cX9_isWorld 23 = .ok (.iaload, 1) := by decide +kernel
theorem dX9_isWorld_24 : decode cX9_isWorld 24 = .ok (.if_icmp .ge 30, 3) := by decide +kernel
theorem dX9_isWorld_27 : decode cX9_isWorld 27 = .ok (.aload_n 0, 1) := by decide +kernel
theorem dX9_isWorld_28 : decode cX9_isWorld 28 = .ok (.getfield 383, 3) := by decide +kernel
theorem dX9_isWorld_31 : decode cX9_isWorld 31 = .ok (.iload_n 2, 1) := by decide +kernel
theorem dX9_isWorld_32 : decode cX9_isWorld 32 = .ok (.ishr, 1) := by decide +kernel
theorem dX9_isWorld_33 : decode cX9_isWorld 33 = .ok (.iconst 1, 1) := by decide +kernel
theorem dX9_isWorld_34 : decode cX9_isWorld 34 = .ok (.iand, 1) := by decide +kernel
theorem dX9_isWorld_35 : decode cX9_isWorld 35 = .ok (.ifCond .eq 13, 3) := by decide +kernel
theorem dX9_isWorld_38 : decode cX9_isWorld 38 = .ok (.aload_n 0, 1) := by decide +kernel
theorem dX9_isWorld_39 : decode cX9_isWorld 39 = .ok (.iload_n 2, 1) := by decide +kernel
theorem dX9_isWorld_40 : decode cX9_isWorld 40 = .ok (.invokevirtual 371, 3) := by decide +kernel
theorem dX9_isWorld_43 : decode cX9_isWorld 43 = .ok (.ifCond .ne 5, 3) := by decide +kernel
theorem dX9_isWorld_46 : decode cX9_isWorld 46 = .ok (.iconst 0, 1) := by decide +kernel
theorem dX9_isWorld_47 : decode cX9_isWorld 47 = .ok (.ireturn, 1) := by decide +kernel
theorem dX9_isWorld_48 : decode cX9_isWorld 48 = .ok (.iinc 2 1, 3) := by decide +kernel
theorem dX9_isWorld_51 : decode cX9_isWorld 51 = .ok (.goto (-34), 3) := by decide +kernel
theorem dX9_isWorld_54 : decode cX9_isWorld 54 = .ok (.iconst 1, 1) := by decide +kernel
theorem dX9_isWorld_55 : decode cX9_isWorld 55 = .ok (.ireturn, 1) := by decide +kernel
theorem dX9_inOrder_0 : decode cX9_inOrder 0 = .ok (.iload_n 0, 1) := by decide +kernel
theorem dX9_inOrder_1 : decode cX9_inOrder 1 = .ok (.iconst 2, 1) := by decide +kernel
theorem dX9_inOrder_2 : decode cX9_inOrder 2 = .ok (.idiv, 1) := by decide +kernel
theorem dX9_inOrder_3 : decode cX9_inOrder 3 = .ok (.istore_n 2, 1) := by decide +kernel
theorem dX9_inOrder_4 : decode cX9_inOrder 4 = .ok (.iload_n 0, 1) := by decide +kernel
theorem dX9_inOrder_5 : decode cX9_inOrder 5 = .ok (.iconst 2, 1) := by decide +kernel
theorem dX9_inOrder_6 : decode cX9_inOrder 6 = .ok (.irem, 1) := by decide +kernel
theorem dX9_inOrder_7 : decode cX9_inOrder 7 = .ok (.ifCond .ne 15, 3) := by decide +kernel
theorem dX9_inOrder_10 : decode cX9_inOrder 10 = .ok (.iload_n 2, 1) := by decide +kernel
theorem dX9_inOrder_11 : decode cX9_inOrder 11 = .ok (.ifCond .ne 7, 3) := by decide +kernel
theorem dX9_inOrder_14 : decode cX9_inOrder 14 = .ok (.iconst 1, 1) := by decide +kernel
theorem dX9_inOrder_15 : decode cX9_inOrder 15 = .ok (.goto 17, 3) := by decide +kernel
theorem dX9_inOrder_18 : decode cX9_inOrder 18 = .ok (.iconst 0, 1) := by decide +kernel
theorem dX9_inOrder_19 : decode cX9_inOrder 19 = .ok (.goto 13, 3) := by decide +kernel
theorem dX9_inOrder_22 : decode cX9_inOrder 22 = .ok (.iload_n 2, 1) := by decide +kernel
theorem dX9_inOrder_23 : decode cX9_inOrder 23 = .ok (.iconst 2, 1) := by decide +kernel
theorem dX9_inOrder_24 : decode cX9_inOrder 24 = .ok (.if_icmp .ne 7, 3) := by decide +kernel
theorem dX9_inOrder_27 : decode cX9_inOrder 27 = .ok (.iconst 1, 1) := by decide +kernel
theorem dX9_inOrder_28 : decode cX9_inOrder 28 = .ok (.goto 4, 3) := by decide +kernel
theorem dX9_inOrder_31 : decode cX9_inOrder 31 = .ok (.iconst 2, 1) := by decide +kernel
theorem dX9_inOrder_32 : decode cX9_inOrder 32 = .ok (.istore_n 3, 1) := by decide +kernel
theorem dX9_inOrder_33 : decode cX9_inOrder 33 = .ok (.iload_n 1, 1) := by decide +kernel
theorem dX9_inOrder_34 : decode cX9_inOrder 34 = .ok (.ifCond .ne 7, 3) := by decide +kernel
theorem dX9_inOrder_37 : decode cX9_inOrder 37 = .ok (.iload_n 2, 1) := by decide +kernel
theorem dX9_inOrder_38 : decode cX9_inOrder 38 = .ok (.goto 17, 3) := by decide +kernel
theorem dX9_inOrder_41 : decode cX9_inOrder 41 = .ok (.iload_n 1, 1) := by decide +kernel
theorem dX9_inOrder_42 : decode cX9_inOrder 42 = .ok (.iconst 1, 1) := by decide +kernel
theorem dX9_inOrder_43 : decode cX9_inOrder 43 = .ok (.if_icmp .ne 7, 3) := by decide +kernel
theorem dX9_inOrder_46 : decode cX9_inOrder 46 = .ok (.iload_n 3, 1) := by decide +kernel
theorem dX9_inOrder_47 : decode cX9_inOrder 47 = .ok (.goto 8, 3) := by decide +kernel
theorem dX9_inOrder_50 : decode cX9_inOrder 50 = .ok (.iconst 3, 1) := by decide +kernel
theorem dX9_inOrder_51 : decode cX9_inOrder 51 = .ok (.iload_n 2, 1) := by decide +kernel
theorem dX9_inOrder_52 : decode cX9_inOrder 52 = .ok (.isub, 1) := by decide +kernel
theorem dX9_inOrder_53 : decode cX9_inOrder 53 = .ok (.iload_n 3, 1) := by decide +kernel
theorem dX9_inOrder_54 : decode cX9_inOrder 54 = .ok (.isub, 1) := by decide +kernel
theorem dX9_inOrder_55 : decode cX9_inOrder 55 = .ok (.ireturn, 1) := by decide +kernel
theorem dX9_isOrder_0 : decode cX9_isOrder 0 = .ok (.iconst 0, 1) := by decide +kernel
theorem dX9_isOrder_1 : decode cX9_isOrder 1 = .ok (.istore_n 2, 1) := by decide +kernel
theorem dX9_isOrder_2 : decode cX9_isOrder 2 = .ok (.iload_n 2, 1) := by decide +kernel
theorem dX9_isOrder_3 : decode cX9_isOrder 3 = .ok (.iconst 3, 1) := by decide +kernel
theorem dX9_isOrder_4 : decode cX9_isOrder 4 = .ok (.if_icmp .ge 37, 3) := by decide +kernel
theorem dX9_isOrder_7 : decode cX9_isOrder 7 = .ok (.iload_n 2, 1) := by decide +kernel
theorem dX9_isOrder_8 : decode cX9_isOrder 8 = .ok (.iload_n 1, 1) := by decide +kernel
theorem dX9_isOrder_9 : decode cX9_isOrder 9 = .ok (.if_icmp .ge 15, 3) := by decide +kernel
theorem dX9_isOrder_12 : decode cX9_isOrder 12 = .ok (.iload_n 0, 1) := by decide +kernel
theorem dX9_isOrder_13 : decode cX9_isOrder 13 = .ok (.iload_n 2, 1) := by decide +kernel
theorem dX9_isOrder_14 : decode cX9_isOrder 14 = .ok (.invokestatic 395, 3) := by decide +kernel
theorem dX9_isOrder_17 : decode cX9_isOrder 17 = .ok (.iload_n 1, 1) := by decide +kernel
theorem dX9_isOrder_18 : decode cX9_isOrder 18 = .ok (.if_icmp .lt 17, 3) := by decide +kernel
theorem dX9_isOrder_21 : decode cX9_isOrder 21 = .ok (.goto 12, 3) := by decide +kernel
theorem dX9_isOrder_24 : decode cX9_isOrder 24 = .ok (.iload_n 0, 1) := by decide +kernel
theorem dX9_isOrder_25 : decode cX9_isOrder 25 = .ok (.iload_n 2, 1) := by decide +kernel
theorem dX9_isOrder_26 : decode cX9_isOrder 26 = .ok (.invokestatic 395, 3) := by decide +kernel
theorem dX9_isOrder_29 : decode cX9_isOrder 29 = .ok (.iload_n 2, 1) := by decide +kernel
theorem dX9_isOrder_30 : decode cX9_isOrder 30 = .ok (.if_icmp .eq 5, 3) := by decide +kernel
theorem dX9_isOrder_33 : decode cX9_isOrder 33 = .ok (.iconst 0, 1) := by decide +kernel
theorem dX9_isOrder_34 : decode cX9_isOrder 34 = .ok (.ireturn, 1) := by decide +kernel
theorem dX9_isOrder_35 : decode cX9_isOrder 35 = .ok (.iinc 2 1, 3) := by decide +kernel
theorem dX9_isOrder_38 : decode cX9_isOrder 38 = .ok (.goto (-36), 3) := by decide +kernel
theorem dX9_isOrder_41 : decode cX9_isOrder 41 = .ok (.iconst 1, 1) := by decide +kernel
theorem dX9_isOrder_42 : decode cX9_isOrder 42 = .ok (.ireturn, 1) := by decide +kernel
theorem dX9_renamed_0 : decode cX9_renamed 0 = .ok (.iload_n 1, 1) := by decide +kernel
theorem dX9_renamed_1 : decode cX9_renamed 1 = .ok (.iconst (-1), 1) := by decide +kernel
theorem dX9_renamed_2 : decode cX9_renamed 2 = .ok (.if_icmp .ne 7, 3) := by decide +kernel
theorem dX9_renamed_5 : decode cX9_renamed 5 = .ok (.iconst 0, 1) := by decide +kernel
theorem dX9_renamed_6 : decode cX9_renamed 6 = .ok (.goto 13, 3) := by decide +kernel
theorem dX9_renamed_9 : decode cX9_renamed 9 = .ok (.aload_n 0, 1) := by decide +kernel
theorem dX9_renamed_10 : decode cX9_renamed 10 = .ok (.getfield 117, 3) := by decide +kernel
theorem dX9_renamed_13 : decode cX9_renamed 13 = .ok (.iload_n 1, 1) := by decide +kernel
theorem dX9_renamed_14 : decode cX9_renamed 14 = .ok (.iaload, 1) := by decide +kernel
theorem dX9_renamed_15 : decode cX9_renamed 15 = .ok (.iload_n 2, 1) := by decide +kernel
theorem dX9_renamed_16 : decode cX9_renamed 16 = .ok (.invokestatic 395, 3) := by decide +kernel
theorem dX9_renamed_19 : decode cX9_renamed 19 = .ok (.ireturn, 1) := by decide +kernel
theorem dX9_imageOf_0 : decode cX9_imageOf 0 = .ok (.aload_n 0, 1) := by decide +kernel
theorem dX9_imageOf_1 : decode cX9_imageOf 1 = .ok (.invokevirtual 171, 3) := by decide +kernel
theorem dX9_imageOf_4 : decode cX9_imageOf 4 = .ok (.istore_n 1, 1) := by decide +kernel
theorem dX9_imageOf_5 : decode cX9_imageOf 5 = .ok (.iconst 0, 1) := by decide +kernel
theorem dX9_imageOf_6 : decode cX9_imageOf 6 = .ok (.istore_n 2, 1) := by decide +kernel
theorem dX9_imageOf_7 : decode cX9_imageOf 7 = .ok (.iconst 0, 1) := by decide +kernel
theorem dX9_imageOf_8 : decode cX9_imageOf 8 = .ok (.istore_n 3, 1) := by decide +kernel
theorem dX9_imageOf_9 : decode cX9_imageOf 9 = .ok (.iload_n 3, 1) := by decide +kernel
theorem dX9_imageOf_10 : decode cX9_imageOf 10 = .ok (.aload_n 0, 1) := by decide +kernel
theorem dX9_imageOf_11 : decode cX9_imageOf 11 = .ok (.getfield 32, 3) := by decide +kernel
theorem dX9_imageOf_14 : decode cX9_imageOf 14 = .ok (.iconst 0, 1) := by decide +kernel
theorem dX9_imageOf_15 : decode cX9_imageOf 15 = .ok (.iaload, 1) := by decide +kernel
theorem dX9_imageOf_16 : decode cX9_imageOf 16 = .ok (.if_icmp .ge 125, 3) := by decide +kernel
theorem dX9_imageOf_19 : decode cX9_imageOf 19 = .ok (.aload_n 0, 1) := by decide +kernel
theorem dX9_imageOf_20 : decode cX9_imageOf 20 = .ok (.aload_n 0, 1) := by decide +kernel
theorem dX9_imageOf_21 : decode cX9_imageOf 21 = .ok (.getfield 38, 3) := by decide +kernel
theorem dX9_imageOf_24 : decode cX9_imageOf 24 = .ok (.iload_n 3, 1) := by decide +kernel
theorem dX9_imageOf_25 : decode cX9_imageOf 25 = .ok (.iaload, 1) := by decide +kernel
theorem dX9_imageOf_26 : decode cX9_imageOf 26 = .ok (.invokevirtual 150, 3) := by decide +kernel
theorem dX9_imageOf_29 : decode cX9_imageOf 29 = .ok (.istore 4, 2) := by decide +kernel
theorem dX9_imageOf_31 : decode cX9_imageOf 31 = .ok (.iconst 0, 1) := by decide +kernel
theorem dX9_imageOf_32 : decode cX9_imageOf 32 = .ok (.istore 5, 2) := by decide +kernel
theorem dX9_imageOf_34 : decode cX9_imageOf 34 = .ok (.iload 5, 2) := by decide +kernel
theorem dX9_imageOf_36 : decode cX9_imageOf 36 = .ok (.aload_n 0, 1) := by decide +kernel
theorem dX9_imageOf_37 : decode cX9_imageOf 37 = .ok (.getfield 90, 3) := by decide +kernel
theorem dX9_imageOf_40 : decode cX9_imageOf 40 = .ok (.iload_n 3, 1) := by decide +kernel
theorem dX9_imageOf_41 : decode cX9_imageOf 41 = .ok (.iconst 1, 1) := by decide +kernel
theorem dX9_imageOf_42 : decode cX9_imageOf 42 = .ok (.iadd, 1) := by decide +kernel
theorem dX9_imageOf_43 : decode cX9_imageOf 43 = .ok (.iaload, 1) := by decide +kernel
theorem dX9_imageOf_44 : decode cX9_imageOf 44 = .ok (.aload_n 0, 1) := by decide +kernel
theorem dX9_imageOf_45 : decode cX9_imageOf 45 = .ok (.getfield 90, 3) := by decide +kernel
theorem dX9_imageOf_48 : decode cX9_imageOf 48 = .ok (.iload_n 3, 1) := by decide +kernel
theorem dX9_imageOf_49 : decode cX9_imageOf 49 = .ok (.iaload, 1) := by decide +kernel
theorem dX9_imageOf_50 : decode cX9_imageOf 50 = .ok (.isub, 1) := by decide +kernel
theorem dX9_imageOf_51 : decode cX9_imageOf 51 = .ok (.if_icmp .ge 84, 3) := by decide +kernel
theorem dX9_imageOf_54 : decode cX9_imageOf 54 = .ok (.aload_n 0, 1) := by decide +kernel
theorem dX9_imageOf_55 : decode cX9_imageOf 55 = .ok (.getfield 90, 3) := by decide +kernel
theorem dX9_imageOf_58 : decode cX9_imageOf 58 = .ok (.iload_n 3, 1) := by decide +kernel
theorem dX9_imageOf_59 : decode cX9_imageOf 59 = .ok (.iaload, 1) := by decide +kernel
theorem dX9_imageOf_60 : decode cX9_imageOf 60 = .ok (.iload 4, 2) := by decide +kernel
theorem dX9_imageOf_62 : decode cX9_imageOf 62 = .ok (.aload_n 0, 1) := by decide +kernel
theorem dX9_imageOf_63 : decode cX9_imageOf 63 = .ok (.aload_n 0, 1) := by decide +kernel
theorem dX9_imageOf_64 : decode cX9_imageOf 64 = .ok (.getfield 35, 3) := by decide +kernel
theorem dX9_imageOf_67 : decode cX9_imageOf 67 = .ok (.iload_n 3, 1) := by decide +kernel
theorem dX9_imageOf_68 : decode cX9_imageOf 68 = .ok (.iaload, 1) := by decide +kernel
theorem dX9_imageOf_69 : decode cX9_imageOf 69 = .ok (.iload 5, 2) := by decide +kernel
theorem dX9_imageOf_71 : decode cX9_imageOf 71 = .ok (.iload 4, 2) := by decide +kernel
theorem dX9_imageOf_73 : decode cX9_imageOf 73 = .ok (.idiv, 1) := by decide +kernel
theorem dX9_imageOf_74 : decode cX9_imageOf 74 = .ok (.invokevirtual 398, 3) := by decide +kernel
theorem dX9_imageOf_77 : decode cX9_imageOf 77 = .ok (.imul, 1) := by decide +kernel
theorem dX9_imageOf_78 : decode cX9_imageOf 78 = .ok (.iadd, 1) := by decide +kernel
theorem dX9_imageOf_79 : decode cX9_imageOf 79 = .ok (.aload_n 0, 1) := by decide +kernel
theorem dX9_imageOf_80 : decode cX9_imageOf 80 = .ok (.aload_n 0, 1) := by decide +kernel
theorem dX9_imageOf_81 : decode cX9_imageOf 81 = .ok (.getfield 38, 3) := by decide +kernel
theorem dX9_imageOf_84 : decode cX9_imageOf 84 = .ok (.iload_n 3, 1) := by decide +kernel
theorem dX9_imageOf_85 : decode cX9_imageOf 85 = .ok (.iaload, 1) := by decide +kernel
theorem dX9_imageOf_86 : decode cX9_imageOf 86 = .ok (.iload 5, 2) := by decide +kernel
theorem dX9_imageOf_88 : decode cX9_imageOf 88 = .ok (.iload 4, 2) := by decide +kernel
theorem dX9_imageOf_90 : decode cX9_imageOf 90 = .ok (.irem, 1) := by decide +kernel
theorem dX9_imageOf_91 : decode cX9_imageOf 91 = .ok (.invokevirtual 398, 3) := by decide +kernel
theorem dX9_imageOf_94 : decode cX9_imageOf 94 = .ok (.iadd, 1) := by decide +kernel
theorem dX9_imageOf_95 : decode cX9_imageOf 95 = .ok (.istore 6, 2) := by decide +kernel
theorem dX9_imageOf_97 : decode cX9_imageOf 97 = .ok (.iload_n 2, 1) := by decide +kernel
theorem dX9_imageOf_98 : decode cX9_imageOf 98 = .ok (.aload_n 0, 1) := by decide +kernel
theorem dX9_imageOf_99 : decode cX9_imageOf 99 = .ok (.getfield 93, 3) := by decide +kernel
theorem dX9_imageOf_102 : decode cX9_imageOf 102 = .ok (.aload_n 0, 1) := by decide +kernel
theorem dX9_imageOf_103 : decode cX9_imageOf 103 = .ok (.getfield 90, 3) := by decide +kernel
theorem dX9_imageOf_106 : decode cX9_imageOf 106 = .ok (.iload_n 3, 1) := by decide +kernel
theorem dX9_imageOf_107 : decode cX9_imageOf 107 = .ok (.iaload, 1) := by decide +kernel
theorem dX9_imageOf_108 : decode cX9_imageOf 108 = .ok (.iload 5, 2) := by decide +kernel
theorem dX9_imageOf_110 : decode cX9_imageOf 110 = .ok (.iadd, 1) := by decide +kernel
theorem dX9_imageOf_111 : decode cX9_imageOf 111 = .ok (.baload, 1) := by decide +kernel
theorem dX9_imageOf_112 : decode cX9_imageOf 112 = .ok (.ifCond .eq 14, 3) := by decide +kernel
theorem dX9_imageOf_115 : decode cX9_imageOf 115 = .ok (.iconst 1, 1) := by decide +kernel
theorem dX9_imageOf_116 : decode cX9_imageOf 116 = .ok (.iload_n 1, 1) := by decide +kernel
theorem dX9_imageOf_117 : decode cX9_imageOf 117 = .ok (.iconst 1, 1) := by decide +kernel
theorem dX9_imageOf_118 : decode cX9_imageOf 118 = .ok (.isub, 1) := by decide +kernel
theorem dX9_imageOf_119 : decode cX9_imageOf 119 = .ok (.iload 6, 2) := by decide +kernel
theorem dX9_imageOf_121 : decode cX9_imageOf 121 = .ok (.isub, 1) := by decide +kernel
theorem dX9_imageOf_122 : decode cX9_imageOf 122 = .ok (.ishl, 1) := by decide +kernel
theorem dX9_imageOf_123 : decode cX9_imageOf 123 = .ok (.goto 4, 3) := by decide +kernel
theorem dX9_imageOf_126 : decode cX9_imageOf 126 = .ok (.iconst 0, 1) := by decide +kernel
theorem dX9_imageOf_127 : decode cX9_imageOf 127 = .ok (.ior, 1) := by decide +kernel
theorem dX9_imageOf_128 : decode cX9_imageOf 128 = .ok (.istore_n 2, 1) := by decide +kernel
theorem dX9_imageOf_129 : decode cX9_imageOf 129 = .ok (.iinc 5 1, 3) := by decide +kernel
theorem dX9_imageOf_132 : decode cX9_imageOf 132 = .ok (.goto (-98), 3) := by decide +kernel
theorem dX9_imageOf_135 : decode cX9_imageOf 135 = .ok (.iinc 3 1, 3) := by decide +kernel
theorem dX9_imageOf_138 : decode cX9_imageOf 138 = .ok (.goto (-129), 3) := by decide +kernel
theorem dX9_imageOf_141 : decode cX9_imageOf 141 = .ok (.iload_n 2, 1) := by decide +kernel
theorem dX9_imageOf_142 : decode cX9_imageOf 142 = .ok (.ireturn, 1) := by decide +kernel
theorem dX9_takeOrders_0 : decode cX9_takeOrders 0 = .ok (.aload_n 0, 1) := by decide +kernel
theorem dX9_takeOrders_1 : decode cX9_takeOrders 1 = .ok (.getfield 117, 3) := by decide +kernel
theorem dX9_takeOrders_4 : decode cX9_takeOrders 4 = .ok (.iconst 0, 1) := by decide +kernel
theorem dX9_takeOrders_5 : decode cX9_takeOrders 5 = .ok (.iload_n 1, 1) := by decide +kernel
theorem dX9_takeOrders_6 : decode cX9_takeOrders 6 = .ok (.bipush 36, 2) := by decide +kernel
theorem dX9_takeOrders_8 : decode cX9_takeOrders 8 = .ok (.idiv, 1) := by decide +kernel
theorem dX9_takeOrders_9 : decode cX9_takeOrders 9 = .ok (.iastore, 1) := by decide +kernel
theorem dX9_takeOrders_10 : decode cX9_takeOrders 10 = .ok (.aload_n 0, 1) := by decide +kernel
theorem dX9_takeOrders_11 : decode cX9_takeOrders 11 = .ok (.getfield 117, 3) := by decide +kernel
theorem dX9_takeOrders_14 : decode cX9_takeOrders 14 = .ok (.iconst 1, 1) := by decide +kernel
theorem dX9_takeOrders_15 : decode cX9_takeOrders 15 = .ok (.iload_n 1, 1) := by decide +kernel
theorem dX9_takeOrders_16 : decode cX9_takeOrders 16 = .ok (.bipush 6, 2) := by decide +kernel
theorem dX9_takeOrders_18 : decode cX9_takeOrders 18 = .ok (.idiv, 1) := by decide +kernel
theorem dX9_takeOrders_19 : decode cX9_takeOrders 19 = .ok (.bipush 6, 2) := by decide +kernel
theorem dX9_takeOrders_21 : decode cX9_takeOrders 21 = .ok (.irem, 1) := by decide +kernel
theorem dX9_takeOrders_22 : decode cX9_takeOrders 22 = .ok (.iastore, 1) := by decide +kernel
theorem dX9_takeOrders_23 : decode cX9_takeOrders 23 = .ok (.aload_n 0, 1) := by decide +kernel
theorem dX9_takeOrders_24 : decode cX9_takeOrders 24 = .ok (.getfield 117, 3) := by decide +kernel
theorem dX9_takeOrders_27 : decode cX9_takeOrders 27 = .ok (.iconst 2, 1) := by decide +kernel
theorem dX9_takeOrders_28 : decode cX9_takeOrders 28 = .ok (.iload_n 1, 1) := by decide +kernel
theorem dX9_takeOrders_29 : decode cX9_takeOrders 29 = .ok (.bipush 6, 2) := by decide +kernel
theorem dX9_takeOrders_31 : decode cX9_takeOrders 31 = .ok (.irem, 1) := by decide +kernel
theorem dX9_takeOrders_32 : decode cX9_takeOrders 32 = .ok (.iastore, 1) := by decide +kernel
theorem dX9_takeOrders_33 : decode cX9_takeOrders 33 = .ok (.aload_n 0, 1) := by decide +kernel
theorem dX9_takeOrders_34 : decode cX9_takeOrders 34 = .ok (.getfield 117, 3) := by decide +kernel
theorem dX9_takeOrders_37 : decode cX9_takeOrders 37 = .ok (.iconst 0, 1) := by decide +kernel
theorem dX9_takeOrders_38 : decode cX9_takeOrders 38 = .ok (.iaload, 1) := by decide +kernel
theorem dX9_takeOrders_39 : decode cX9_takeOrders 39 = .ok (.aload_n 0, 1) := by decide +kernel
theorem dX9_takeOrders_40 : decode cX9_takeOrders 40 = .ok (.getfield 87, 3) := by decide +kernel
theorem dX9_takeOrders_43 : decode cX9_takeOrders 43 = .ok (.iconst 0, 1) := by decide +kernel
theorem dX9_takeOrders_44 : decode cX9_takeOrders 44 = .ok (.iaload, 1) := by decide +kernel
theorem dX9_takeOrders_45 : decode cX9_takeOrders 45 = .ok (.invokestatic 401, 3) := by decide +kernel
theorem dX9_takeOrders_48 : decode cX9_takeOrders 48 = .ok (.ifCond .eq 43, 3) := by decide +kernel
theorem dX9_takeOrders_51 : decode cX9_takeOrders 51 = .ok (.aload_n 0, 1) := by decide +kernel
theorem dX9_takeOrders_52 : decode cX9_takeOrders 52 = .ok (.getfield 117, 3) := by decide +kernel
theorem dX9_takeOrders_55 : decode cX9_takeOrders 55 = .ok (.iconst 1, 1) := by decide +kernel
theorem dX9_takeOrders_56 : decode cX9_takeOrders 56 = .ok (.iaload, 1) := by decide +kernel
theorem dX9_takeOrders_57 : decode cX9_takeOrders 57 = .ok (.aload_n 0, 1) := by decide +kernel
theorem dX9_takeOrders_58 : decode cX9_takeOrders 58 = .ok (.getfield 87, 3) := by decide +kernel
theorem dX9_takeOrders_61 : decode cX9_takeOrders 61 = .ok (.iconst 1, 1) := by decide +kernel
theorem dX9_takeOrders_62 : decode cX9_takeOrders 62 = .ok (.iaload, 1) := by decide +kernel
theorem dX9_takeOrders_63 : decode cX9_takeOrders 63 = .ok (.invokestatic 401, 3) := by decide +kernel
theorem dX9_takeOrders_66 : decode cX9_takeOrders 66 = .ok (.ifCond .eq 25, 3) := by decide +kernel
theorem dX9_takeOrders_69 : decode cX9_takeOrders 69 = .ok (.aload_n 0, 1) := by decide +kernel
theorem dX9_takeOrders_70 : decode cX9_takeOrders 70 = .ok (.getfield 117, 3) := by decide +kernel
theorem dX9_takeOrders_73 : decode cX9_takeOrders 73 = .ok (.iconst 2, 1) := by decide +kernel
theorem dX9_takeOrders_74 : decode cX9_takeOrders 74 = .ok (.iaload, 1) := by decide +kernel
theorem dX9_takeOrders_75 : decode cX9_takeOrders 75 = .ok (.aload_n 0, 1) := by decide +kernel
theorem dX9_takeOrders_76 : decode cX9_takeOrders 76 = .ok (.getfield 87, 3) := by decide +kernel
theorem dX9_takeOrders_79 : decode cX9_takeOrders 79 = .ok (.iconst 2, 1) := by decide +kernel
theorem dX9_takeOrders_80 : decode cX9_takeOrders 80 = .ok (.iaload, 1) := by decide +kernel
theorem dX9_takeOrders_81 : decode cX9_takeOrders 81 = .ok (.invokestatic 401, 3) := by decide +kernel
theorem dX9_takeOrders_84 : decode cX9_takeOrders 84 = .ok (.ifCond .eq 7, 3) := by decide +kernel
theorem dX9_takeOrders_87 : decode cX9_takeOrders 87 = .ok (.iconst 1, 1) := by decide +kernel
theorem dX9_takeOrders_88 : decode cX9_takeOrders 88 = .ok (.goto 4, 3) := by decide +kernel
theorem dX9_takeOrders_91 : decode cX9_takeOrders 91 = .ok (.iconst 0, 1) := by decide +kernel
theorem dX9_takeOrders_92 : decode cX9_takeOrders 92 = .ok (.ireturn, 1) := by decide +kernel
theorem dX9_leastImage_0 : decode cX9_leastImage 0 = .ok (.iconst (-1), 1) := by decide +kernel
theorem dX9_leastImage_1 : decode cX9_leastImage 1 = .ok (.istore_n 1, 1) := by decide +kernel
theorem dX9_leastImage_2 : decode cX9_leastImage 2 = .ok (.iconst 0, 1) := by decide +kernel
theorem dX9_leastImage_3 : decode cX9_leastImage 3 = .ok (.istore_n 2, 1) := by decide +kernel
theorem dX9_leastImage_4 : decode cX9_leastImage 4 = .ok (.iload_n 2, 1) := by decide +kernel
theorem dX9_leastImage_5 : decode cX9_leastImage 5 = .ok (.sipush 216, 3) := by decide +kernel
theorem dX9_leastImage_8 : decode cX9_leastImage 8 = .ok (.if_icmp .ge 38, 3) := by decide +kernel
theorem dX9_leastImage_11 : decode cX9_leastImage 11 = .ok (.aload_n 0, 1) := by decide +kernel
theorem dX9_leastImage_12 : decode cX9_leastImage 12 = .ok (.iload_n 2, 1) := by decide +kernel
theorem dX9_leastImage_13 : decode cX9_leastImage 13 = .ok (.invokevirtual 189, 3) := by decide +kernel
theorem dX9_leastImage_16 : decode cX9_leastImage 16 = .ok (.ifCond .eq 24, 3) := by decide +kernel
theorem dX9_leastImage_19 : decode cX9_leastImage 19 = .ok (.aload_n 0, 1) := by decide +kernel
theorem dX9_leastImage_20 : decode cX9_leastImage 20 = .ok (.invokevirtual 192, 3) := by decide +kernel
theorem dX9_leastImage_23 : decode cX9_leastImage 23 = .ok (.istore_n 3, 1) := by decide +kernel
theorem dX9_leastImage_24 : decode cX9_leastImage 24 = .ok (.iload_n 1, 1) := by decide +kernel
theorem dX9_leastImage_25 : decode cX9_leastImage 25 = .ok (.iconst (-1), 1) := by decide +kernel
theorem dX9_leastImage_26 : decode cX9_leastImage 26 = .ok (.if_icmp .eq 8, 3) := by decide +kernel
theorem dX9_leastImage_29 : decode cX9_leastImage 29 = .ok (.iload_n 3, 1) := by decide +kernel
theorem dX9_leastImage_30 : decode cX9_leastImage 30 = .ok (.iload_n 1, 1) := by decide +kernel
theorem dX9_leastImage_31 : decode cX9_leastImage 31 = .ok (.if_icmp .ge 7, 3) := by decide +kernel
theorem dX9_leastImage_34 : decode cX9_leastImage 34 = .ok (.iload_n 3, 1) := by decide +kernel
theorem dX9_leastImage_35 : decode cX9_leastImage 35 = .ok (.goto 4, 3) := by decide +kernel
theorem dX9_leastImage_38 : decode cX9_leastImage 38 = .ok (.iload_n 1, 1) := by decide +kernel
theorem dX9_leastImage_39 : decode cX9_leastImage 39 = .ok (.istore_n 1, 1) := by decide +kernel
theorem dX9_leastImage_40 : decode cX9_leastImage 40 = .ok (.iinc 2 1, 3) := by decide +kernel
theorem dX9_leastImage_43 : decode cX9_leastImage 43 = .ok (.goto (-39), 3) := by decide +kernel
theorem dX9_leastImage_46 : decode cX9_leastImage 46 = .ok (.iload_n 1, 1) := by decide +kernel
theorem dX9_leastImage_47 : decode cX9_leastImage 47 = .ok (.ireturn, 1) := by decide +kernel
theorem dX9_isForm_0 : decode cX9_isForm 0 = .ok (.aload_n 0, 1) := by decide +kernel
theorem dX9_isForm_1 : decode cX9_isForm 1 = .ok (.iload_n 1, 1) := by decide +kernel
theorem dX9_isForm_2 : decode cX9_isForm 2 = .ok (.invokevirtual 404, 3) := by decide +kernel
theorem dX9_isForm_5 : decode cX9_isForm 5 = .ok (.ifCond .eq 15, 3) := by decide +kernel
theorem dX9_isForm_8 : decode cX9_isForm 8 = .ok (.aload_n 0, 1) := by decide +kernel
theorem dX9_isForm_9 : decode cX9_isForm 9 = .ok (.invokevirtual 407, 3) := by decide +kernel
theorem dX9_isForm_12 : decode cX9_isForm 12 = .ok (.iload_n 1, 1) := by decide +kernel
theorem dX9_isForm_13 : decode cX9_isForm 13 = .ok (.if_icmp .ne 7, 3) := by decide +kernel
theorem dX9_isForm_16 : decode cX9_isForm 16 = .ok (.iconst 1, 1) := by decide +kernel
theorem dX9_isForm_17 : decode cX9_isForm 17 = .ok (.goto 4, 3) := by decide +kernel
theorem dX9_isForm_20 : decode cX9_isForm 20 = .ok (.iconst 0, 1) := by decide +kernel
theorem dX9_isForm_21 : decode cX9_isForm 21 = .ok (.ireturn, 1) := by decide +kernel
theorem dX9_worlds_0 : decode cX9_worlds 0 = .ok (.aload_n 0, 1) := by decide +kernel
theorem dX9_worlds_1 : decode cX9_worlds 1 = .ok (.iconst 0, 1) := by decide +kernel
theorem dX9_worlds_2 : decode cX9_worlds 2 = .ok (.putfield 142, 3) := by decide +kernel
theorem dX9_worlds_5 : decode cX9_worlds 5 = .ok (.aload_n 0, 1) := by decide +kernel
theorem dX9_worlds_6 : decode cX9_worlds 6 = .ok (.invokevirtual 182, 3) := by decide +kernel
theorem dX9_worlds_9 : decode cX9_worlds 9 = .ok (.ifCond .ne 5, 3) := by decide +kernel
theorem dX9_worlds_12 : decode cX9_worlds 12 = .ok (.iconst (-1), 1) := by decide +kernel
theorem dX9_worlds_13 : decode cX9_worlds 13 = .ok (.ireturn, 1) := by decide +kernel
theorem dX9_worlds_14 : decode cX9_worlds 14 = .ok (.aload_n 0, 1) := by decide +kernel
theorem dX9_worlds_15 : decode cX9_worlds 15 = .ok (.invokevirtual 410, 3) := by decide +kernel
theorem dX9_worlds_18 : decode cX9_worlds 18 = .ok (.iconst 0, 1) := by decide +kernel
theorem dX9_worlds_19 : decode cX9_worlds 19 = .ok (.istore_n 1, 1) := by decide +kernel
theorem dX9_worlds_20 : decode cX9_worlds 20 = .ok (.iconst 0, 1) := by decide +kernel
theorem dX9_worlds_21 : decode cX9_worlds 21 = .ok (.istore_n 2, 1) := by decide +kernel
theorem dX9_worlds_22 : decode cX9_worlds 22 = .ok (.iload_n 2, 1) := by decide +kernel
theorem dX9_worlds_23 : decode cX9_worlds 23 = .ok (.iconst 1, 1) := by decide +kernel
theorem dX9_worlds_24 : decode cX9_worlds 24 = .ok (.aload_n 0, 1) := by decide +kernel
theorem dX9_worlds_25 : decode cX9_worlds 25 = .ok (.invokevirtual 171, 3) := by decide +kernel
theorem dX9_worlds_28 : decode cX9_worlds 28 = .ok (.ishl, 1) := by decide +kernel
theorem dX9_worlds_29 : decode cX9_worlds 29 = .ok (.if_icmp .ge 25, 3) := by decide +kernel
theorem dX9_worlds_32 : decode cX9_worlds 32 = .ok (.iload_n 1, 1) := by decide +kernel
theorem dX9_worlds_33 : decode cX9_worlds 33 = .ok (.aload_n 0, 1) := by decide +kernel
theorem dX9_worlds_34 : decode cX9_worlds 34 = .ok (.iload_n 2, 1) := by decide +kernel
theorem dX9_worlds_35 : decode cX9_worlds 35 = .ok (.invokevirtual 404, 3) := by decide +kernel
theorem dX9_worlds_38 : decode cX9_worlds 38 = .ok (.ifCond .eq 7, 3) := by decide +kernel
theorem dX9_worlds_41 : decode cX9_worlds 41 = .ok (.iconst 1, 1) := by decide +kernel
theorem dX9_worlds_42 : decode cX9_worlds 42 = .ok (.goto 4, 3) := by decide +kernel
theorem dX9_worlds_45 : decode cX9_worlds 45 = .ok (.iconst 0, 1) := by decide +kernel
theorem dX9_worlds_46 : decode cX9_worlds 46 = .ok (.iadd, 1) := by decide +kernel
theorem dX9_worlds_47 : decode cX9_worlds 47 = .ok (.istore_n 1, 1) := by decide +kernel
theorem dX9_worlds_48 : decode cX9_worlds 48 = .ok (.iinc 2 1, 3) := by decide +kernel
theorem dX9_worlds_51 : decode cX9_worlds 51 = .ok (.goto (-29), 3) := by decide +kernel
theorem dX9_worlds_54 : decode cX9_worlds 54 = .ok (.iload_n 1, 1) := by decide +kernel
theorem dX9_worlds_55 : decode cX9_worlds 55 = .ok (.ireturn, 1) := by decide +kernel
theorem dX9_forms_0 : decode cX9_forms 0 = .ok (.aload_n 0, 1) := by decide +kernel
theorem dX9_forms_1 : decode cX9_forms 1 = .ok (.iconst 0, 1) := by decide +kernel
theorem dX9_forms_2 : decode cX9_forms 2 = .ok (.putfield 142, 3) := by decide +kernel
theorem dX9_forms_5 : decode cX9_forms 5 = .ok (.aload_n 0, 1) := by decide +kernel
theorem dX9_forms_6 : decode cX9_forms 6 = .ok (.invokevirtual 182, 3) := by decide +kernel
theorem dX9_forms_9 : decode cX9_forms 9 = .ok (.ifCond .ne 5, 3) := by decide +kernel
theorem dX9_forms_12 : decode cX9_forms 12 = .ok (.iconst (-1), 1) := by decide +kernel
theorem dX9_forms_13 : decode cX9_forms 13 = .ok (.ireturn, 1) := by decide +kernel
theorem dX9_forms_14 : decode cX9_forms 14 = .ok (.aload_n 0, 1) := by decide +kernel
theorem dX9_forms_15 : decode cX9_forms 15 = .ok (.invokevirtual 410, 3) := by decide +kernel
theorem dX9_forms_18 : decode cX9_forms 18 = .ok (.iconst 0, 1) := by decide +kernel
theorem dX9_forms_19 : decode cX9_forms 19 = .ok (.istore_n 1, 1) := by decide +kernel
theorem dX9_forms_20 : decode cX9_forms 20 = .ok (.iconst 0, 1) := by decide +kernel
theorem dX9_forms_21 : decode cX9_forms 21 = .ok (.istore_n 2, 1) := by decide +kernel
theorem dX9_forms_22 : decode cX9_forms 22 = .ok (.iload_n 2, 1) := by decide +kernel
theorem dX9_forms_23 : decode cX9_forms 23 = .ok (.iconst 1, 1) := by decide +kernel
theorem dX9_forms_24 : decode cX9_forms 24 = .ok (.aload_n 0, 1) := by decide +kernel
theorem dX9_forms_25 : decode cX9_forms 25 = .ok (.invokevirtual 171, 3) := by decide +kernel
theorem dX9_forms_28 : decode cX9_forms 28 = .ok (.ishl, 1) := by decide +kernel
theorem dX9_forms_29 : decode cX9_forms 29 = .ok (.if_icmp .ge 25, 3) := by decide +kernel
theorem dX9_forms_32 : decode cX9_forms 32 = .ok (.iload_n 1, 1) := by decide +kernel
theorem dX9_forms_33 : decode cX9_forms 33 = .ok (.aload_n 0, 1) := by decide +kernel
theorem dX9_forms_34 : decode cX9_forms 34 = .ok (.iload_n 2, 1) := by decide +kernel
theorem dX9_forms_35 : decode cX9_forms 35 = .ok (.invokevirtual 413, 3) := by decide +kernel
theorem dX9_forms_38 : decode cX9_forms 38 = .ok (.ifCond .eq 7, 3) := by decide +kernel
theorem dX9_forms_41 : decode cX9_forms 41 = .ok (.iconst 1, 1) := by decide +kernel
theorem dX9_forms_42 : decode cX9_forms 42 = .ok (.goto 4, 3) := by decide +kernel
theorem dX9_forms_45 : decode cX9_forms 45 = .ok (.iconst 0, 1) := by decide +kernel
theorem dX9_forms_46 : decode cX9_forms 46 = .ok (.iadd, 1) := by decide +kernel
theorem dX9_forms_47 : decode cX9_forms 47 = .ok (.istore_n 1, 1) := by decide +kernel
theorem dX9_forms_48 : decode cX9_forms 48 = .ok (.iinc 2 1, 3) := by decide +kernel
theorem dX9_forms_51 : decode cX9_forms 51 = .ok (.goto (-29), 3) := by decide +kernel
theorem dX9_forms_54 : decode cX9_forms 54 = .ok (.iload_n 1, 1) := by decide +kernel
theorem dX9_forms_55 : decode cX9_forms 55 = .ok (.ireturn, 1) := by decide +kernel
theorem dX9_form_0 : decode cX9_form 0 = .ok (.aload_n 0, 1) := by decide +kernel
theorem dX9_form_1 : decode cX9_form 1 = .ok (.iconst 0, 1) := by decide +kernel
theorem dX9_form_2 : decode cX9_form 2 = .ok (.putfield 142, 3) := by decide +kernel
theorem dX9_form_5 : decode cX9_form 5 = .ok (.aload_n 0, 1) := by decide +kernel
theorem dX9_form_6 : decode cX9_form 6 = .ok (.invokevirtual 182, 3) := by decide +kernel
theorem dX9_form_9 : decode cX9_form 9 = .ok (.ifCond .ne 5, 3) := by decide +kernel
theorem dX9_form_12 : decode cX9_form 12 = .ok (.iconst 0, 1) := by decide +kernel
theorem dX9_form_13 : decode cX9_form 13 = .ok (.ireturn, 1) := by decide +kernel
theorem dX9_form_14 : decode cX9_form 14 = .ok (.aload_n 0, 1) := by decide +kernel
theorem dX9_form_15 : decode cX9_form 15 = .ok (.invokevirtual 410, 3) := by decide +kernel
theorem dX9_form_18 : decode cX9_form 18 = .ok (.iconst 0, 1) := by decide +kernel
theorem dX9_form_19 : decode cX9_form 19 = .ok (.istore_n 2, 1) := by decide +kernel
theorem dX9_form_20 : decode cX9_form 20 = .ok (.iconst 0, 1) := by decide +kernel
theorem dX9_form_21 : decode cX9_form 21 = .ok (.istore_n 3, 1) := by decide +kernel
theorem dX9_form_22 : decode cX9_form 22 = .ok (.iload_n 3, 1) := by decide +kernel
theorem dX9_form_23 : decode cX9_form 23 = .ok (.iconst 1, 1) := by decide +kernel
theorem dX9_form_24 : decode cX9_form 24 = .ok (.aload_n 0, 1) := by decide +kernel
theorem dX9_form_25 : decode cX9_form 25 = .ok (.invokevirtual 171, 3) := by decide +kernel
theorem dX9_form_28 : decode cX9_form 28 = .ok (.ishl, 1) := by decide +kernel
theorem dX9_form_29 : decode cX9_form 29 = .ok (.if_icmp .ge 32, 3) := by decide +kernel
theorem dX9_form_32 : decode cX9_form 32 = .ok (.aload_n 0, 1) := by decide +kernel
theorem dX9_form_33 : decode cX9_form 33 = .ok (.iload_n 3, 1) := by decide +kernel
theorem dX9_form_34 : decode cX9_form 34 = .ok (.invokevirtual 413, 3) := by decide +kernel
theorem dX9_form_37 : decode cX9_form 37 = .ok (.ifCond .eq 18, 3) := by decide +kernel
theorem dX9_form_40 : decode cX9_form 40 = .ok (.iload_n 2, 1) := by decide +kernel
theorem dX9_form_41 : decode cX9_form 41 = .ok (.iload_n 1, 1) := by decide +kernel
theorem dX9_form_42 : decode cX9_form 42 = .ok (.if_icmp .ne 10, 3) := by decide +kernel
theorem dX9_form_45 : decode cX9_form 45 = .ok (.aload_n 0, 1) := by decide +kernel
theorem dX9_form_46 : decode cX9_form 46 = .ok (.iload_n 3, 1) := by decide +kernel
theorem dX9_form_47 : decode cX9_form 47 = .ok (.invokevirtual 416, 3) := by decide +kernel
theorem dX9_form_50 : decode cX9_form 50 = .ok (.iconst 1, 1) := by decide +kernel
theorem dX9_form_51 : decode cX9_form 51 = .ok (.ireturn, 1) := by decide +kernel
theorem dX9_form_52 : decode cX9_form 52 = .ok (.iinc 2 1, 3) := by decide +kernel
theorem dX9_form_55 : decode cX9_form 55 = .ok (.iinc 3 1, 3) := by decide +kernel
theorem dX9_form_58 : decode cX9_form 58 = .ok (.goto (-36), 3) := by decide +kernel
theorem dX9_form_61 : decode cX9_form 61 = .ok (.iconst 0, 1) := by decide +kernel
theorem dX9_form_62 : decode cX9_form 62 = .ok (.ireturn, 1) := by decide +kernel
theorem dX9_name_0 : decode cX9_name 0 = .ok (.aload_n 0, 1) := by decide +kernel
theorem dX9_name_1 : decode cX9_name 1 = .ok (.iconst 0, 1) := by decide +kernel
theorem dX9_name_2 : decode cX9_name 2 = .ok (.putfield 142, 3) := by decide +kernel
theorem dX9_name_5 : decode cX9_name 5 = .ok (.aload_n 0, 1) := by decide +kernel
theorem dX9_name_6 : decode cX9_name 6 = .ok (.invokevirtual 182, 3) := by decide +kernel
theorem dX9_name_9 : decode cX9_name 9 = .ok (.ifCond .ne 5, 3) := by decide +kernel
theorem dX9_name_12 : decode cX9_name 12 = .ok (.iconst 0, 1) := by decide +kernel
theorem dX9_name_13 : decode cX9_name 13 = .ok (.ireturn, 1) := by decide +kernel
theorem dX9_name_14 : decode cX9_name 14 = .ok (.aload_n 0, 1) := by decide +kernel
theorem dX9_name_15 : decode cX9_name 15 = .ok (.invokevirtual 186, 3) := by decide +kernel
theorem dX9_name_18 : decode cX9_name 18 = .ok (.istore_n 1, 1) := by decide +kernel
theorem dX9_name_19 : decode cX9_name 19 = .ok (.aload_n 0, 1) := by decide +kernel
theorem dX9_name_20 : decode cX9_name 20 = .ok (.iload_n 1, 1) := by decide +kernel
theorem dX9_name_21 : decode cX9_name 21 = .ok (.invokevirtual 392, 3) := by decide +kernel
theorem dX9_name_24 : decode cX9_name 24 = .ok (.aload_n 0, 1) := by decide +kernel
theorem dX9_name_25 : decode cX9_name 25 = .ok (.invokevirtual 407, 3) := by decide +kernel
theorem dX9_name_28 : decode cX9_name 28 = .ok (.istore_n 2, 1) := by decide +kernel
theorem dX9_name_29 : decode cX9_name 29 = .ok (.aload_n 0, 1) := by decide +kernel
theorem dX9_name_30 : decode cX9_name 30 = .ok (.iload_n 2, 1) := by decide +kernel
theorem dX9_name_31 : decode cX9_name 31 = .ok (.invokevirtual 416, 3) := by decide +kernel
theorem dX9_name_34 : decode cX9_name 34 = .ok (.iload_n 2, 1) := by decide +kernel
theorem dX9_name_35 : decode cX9_name 35 = .ok (.iload_n 1, 1) := by decide +kernel
theorem dX9_name_36 : decode cX9_name 36 = .ok (.if_icmp .eq 7, 3) := by decide +kernel
theorem dX9_name_39 : decode cX9_name 39 = .ok (.iconst 1, 1) := by decide +kernel
theorem dX9_name_40 : decode cX9_name 40 = .ok (.goto 4, 3) := by decide +kernel
theorem dX9_name_43 : decode cX9_name 43 = .ok (.iconst 0, 1) := by decide +kernel
theorem dX9_name_44 : decode cX9_name 44 = .ok (.ireturn, 1) := by decide +kernel
theorem dX9_findLeast_0 : decode cX9_findLeast 0 = .ok (.aload_n 0, 1) := by decide +kernel
theorem dX9_findLeast_1 : decode cX9_findLeast 1 = .ok (.aload_n 0, 1) := by decide +kernel
theorem dX9_findLeast_2 : decode cX9_findLeast 2 = .ok (.invokevirtual 380, 3) := by decide +kernel
theorem dX9_findLeast_5 : decode cX9_findLeast 5 = .ok (.putfield 383, 3) := by decide +kernel
theorem dX9_findLeast_8 : decode cX9_findLeast 8 = .ok (.aload_n 0, 1) := by decide +kernel
theorem dX9_findLeast_9 : decode cX9_findLeast 9 = .ok (.iconst 0, 1) := by decide +kernel
theorem dX9_findLeast_10 : decode cX9_findLeast 10 = .ok (.putfield 374, 3) := by decide +kernel
theorem dX9_findLeast_13 : decode cX9_findLeast 13 = .ok (.aload_n 0, 1) := by decide +kernel
theorem dX9_findLeast_14 : decode cX9_findLeast 14 = .ok (.iconst 0, 1) := by decide +kernel
theorem dX9_findLeast_15 : decode cX9_findLeast 15 = .ok (.putfield 377, 3) := by decide +kernel
theorem dX9_findLeast_18 : decode cX9_findLeast 18 = .ok (.iconst 3, 1) := by decide +kernel
theorem dX9_findLeast_19 : decode cX9_findLeast 19 = .ok (.istore_n 1, 1) := by decide +kernel
theorem dX9_findLeast_20 : decode cX9_findLeast 20 = .ok (.iload_n 1, 1) := by decide +kernel
theorem dX9_findLeast_21 : decode cX9_findLeast 21 = .ok (.bipush 9, 2) := by decide +kernel
theorem dX9_findLeast_23 : decode cX9_findLeast 23 = .ok (.if_icmp .gt 140, 3) := by decide +kernel
theorem dX9_findLeast_26 : decode cX9_findLeast 26 = .ok (.iconst 1, 1) := by decide +kernel
theorem dX9_findLeast_27 : decode cX9_findLeast 27 = .ok (.istore_n 2, 1) := by decide +kernel
theorem dX9_findLeast_28 : decode cX9_findLeast 28 = .ok (.iload_n 2, 1) := by decide +kernel
theorem dX9_findLeast_29 : decode cX9_findLeast 29 = .ok (.iconst 3, 1) := by decide +kernel
theorem dX9_findLeast_30 : decode cX9_findLeast 30 = .ok (.if_icmp .gt 127, 3) := by decide +kernel
theorem dX9_findLeast_33 : decode cX9_findLeast 33 = .ok (.iconst 1, 1) := by decide +kernel
theorem dX9_findLeast_34 : decode cX9_findLeast 34 = .ok (.istore_n 3, 1) := by decide +kernel
theorem dX9_findLeast_35 : decode cX9_findLeast 35 = .ok (.iload_n 3, 1) := by decide +kernel
theorem dX9_findLeast_36 : decode cX9_findLeast 36 = .ok (.iconst 3, 1) := by decide +kernel
theorem dX9_findLeast_37 : decode cX9_findLeast 37 = .ok (.if_icmp .gt 114, 3) := by decide +kernel
theorem dX9_findLeast_40 : decode cX9_findLeast 40 = .ok (.aload_n 0, 1) := by decide +kernel
theorem dX9_findLeast_41 : decode cX9_findLeast 41 = .ok (.getfield 87, 3) := by decide +kernel
theorem dX9_findLeast_44 : decode cX9_findLeast 44 = .ok (.iconst 0, 1) := by decide +kernel
theorem dX9_findLeast_45 : decode cX9_findLeast 45 = .ok (.iload_n 2, 1) := by decide +kernel
theorem dX9_findLeast_46 : decode cX9_findLeast 46 = .ok (.iastore, 1) := by decide +kernel
theorem dX9_findLeast_47 : decode cX9_findLeast 47 = .ok (.aload_n 0, 1) := by decide +kernel
theorem dX9_findLeast_48 : decode cX9_findLeast 48 = .ok (.getfield 87, 3) := by decide +kernel
theorem dX9_findLeast_51 : decode cX9_findLeast 51 = .ok (.iconst 1, 1) := by decide +kernel
theorem dX9_findLeast_52 : decode cX9_findLeast 52 = .ok (.iload_n 3, 1) := by decide +kernel
theorem dX9_findLeast_53 : decode cX9_findLeast 53 = .ok (.iastore, 1) := by decide +kernel
theorem dX9_findLeast_54 : decode cX9_findLeast 54 = .ok (.aload_n 0, 1) := by decide +kernel
theorem dX9_findLeast_55 : decode cX9_findLeast 55 = .ok (.getfield 87, 3) := by decide +kernel
theorem dX9_findLeast_58 : decode cX9_findLeast 58 = .ok (.iconst 2, 1) := by decide +kernel
theorem dX9_findLeast_59 : decode cX9_findLeast 59 = .ok (.iload_n 1, 1) := by decide +kernel
theorem dX9_findLeast_60 : decode cX9_findLeast 60 = .ok (.iload_n 2, 1) := by decide +kernel
theorem dX9_findLeast_61 : decode cX9_findLeast 61 = .ok (.isub, 1) := by decide +kernel
theorem dX9_findLeast_62 : decode cX9_findLeast 62 = .ok (.iload_n 3, 1) := by decide +kernel
theorem dX9_findLeast_63 : decode cX9_findLeast 63 = .ok (.isub, 1) := by decide +kernel
theorem dX9_findLeast_64 : decode cX9_findLeast 64 = .ok (.iastore, 1) := by decide +kernel
theorem dX9_findLeast_65 : decode cX9_findLeast 65 = .ok (.aload_n 0, 1) := by decide +kernel
theorem dX9_findLeast_66 : decode cX9_findLeast 66 = .ok (.getfield 87, 3) := by decide +kernel
theorem dX9_findLeast_69 : decode cX9_findLeast 69 = .ok (.iconst 2, 1) := by decide +kernel
theorem dX9_findLeast_70 : decode cX9_findLeast 70 = .ok (.iaload, 1) := by decide +kernel
theorem dX9_findLeast_71 : decode cX9_findLeast 71 = .ok (.iconst 1, 1) := by decide +kernel
theorem dX9_findLeast_72 : decode cX9_findLeast 72 = .ok (.iconst 3, 1) := by decide +kernel
theorem dX9_findLeast_73 : decode cX9_findLeast 73 = .ok (.invokestatic 160, 3) := by decide +kernel
theorem dX9_findLeast_76 : decode cX9_findLeast 76 = .ok (.ifCond .ne 6, 3) := by decide +kernel
theorem dX9_findLeast_79 : decode cX9_findLeast 79 = .ok (.goto 66, 3) := by decide +kernel
theorem dX9_findLeast_82 : decode cX9_findLeast 82 = .ok (.aload_n 0, 1) := by decide +kernel
theorem dX9_findLeast_83 : decode cX9_findLeast 83 = .ok (.invokevirtual 154, 3) := by decide +kernel
theorem dX9_findLeast_86 : decode cX9_findLeast 86 = .ok (.iconst 0, 1) := by decide +kernel
theorem dX9_findLeast_87 : decode cX9_findLeast 87 = .ok (.istore 4, 2) := by decide +kernel
theorem dX9_findLeast_89 : decode cX9_findLeast 89 = .ok (.aload_n 0, 1) := by decide +kernel
theorem dX9_findLeast_90 : decode cX9_findLeast 90 = .ok (.invokevirtual 171, 3) := by decide +kernel
theorem dX9_findLeast_93 : decode cX9_findLeast 93 = .ok (.bipush 12, 2) := by decide +kernel
theorem dX9_findLeast_95 : decode cX9_findLeast 95 = .ok (.if_icmp .gt 50, 3) := by decide +kernel
theorem dX9_findLeast_98 : decode cX9_findLeast 98 = .ok (.iload 4, 2) := by decide +kernel
theorem dX9_findLeast_100 : decode cX9_findLeast 100 = .ok (.iconst 1, 1) := by decide +kernel
theorem dX9_findLeast_101 : decode cX9_findLeast 101 = .ok (.aload_n 0, 1) := by decide +kernel
theorem dX9_findLeast_102 : decode cX9_findLeast 102 = .ok (.invokevirtual 171, 3) := by decide +kernel
theorem dX9_findLeast_105 : decode cX9_findLeast 105 = .ok (.ishl, 1) := by decide +kernel
theorem dX9_findLeast_106 : decode cX9_findLeast 106 = .ok (.if_icmp .ge 39, 3) := by decide +kernel
theorem dX9_findLeast_109 : decode cX9_findLeast 109 = .ok (.aload_n 0, 1) := by decide +kernel
theorem dX9_findLeast_110 : decode cX9_findLeast 110 = .ok (.iload 4, 2) := by decide +kernel
theorem dX9_findLeast_112 : decode cX9_findLeast 112 = .ok (.invokevirtual 404, 3) := by decide +kernel
theorem dX9_findLeast_115 : decode cX9_findLeast 115 = .ok (.ifCond .eq 24, 3) := by decide +kernel
theorem dX9_findLeast_118 : decode cX9_findLeast 118 = .ok (.aload_n 0, 1) := by decide +kernel
theorem dX9_findLeast_119 : decode cX9_findLeast 119 = .ok (.iload_n 2, 1) := by decide +kernel
theorem dX9_findLeast_120 : decode cX9_findLeast 120 = .ok (.putfield 419, 3) := by decide +kernel
theorem dX9_findLeast_123 : decode cX9_findLeast 123 = .ok (.aload_n 0, 1) := by decide +kernel
theorem dX9_findLeast_124 : decode cX9_findLeast 124 = .ok (.iload_n 3, 1) := by decide +kernel
theorem dX9_findLeast_125 : decode cX9_findLeast 125 = .ok (.putfield 422, 3) := by decide +kernel
theorem dX9_findLeast_128 : decode cX9_findLeast 128 = .ok (.aload_n 0, 1) := by decide +kernel
theorem dX9_findLeast_129 : decode cX9_findLeast 129 = .ok (.iload_n 1, 1) := by decide +kernel
theorem dX9_findLeast_130 : decode cX9_findLeast 130 = .ok (.iload_n 2, 1) := by decide +kernel
theorem dX9_findLeast_131 : decode cX9_findLeast 131 = .ok (.isub, 1) := by decide +kernel
theorem dX9_findLeast_132 : decode cX9_findLeast 132 = .ok (.iload_n 3, 1) := by decide +kernel
theorem dX9_findLeast_133 : decode cX9_findLeast 133 = .ok (.isub, 1) := by decide +kernel
theorem dX9_findLeast_134 : decode cX9_findLeast 134 = .ok (.putfield 425, 3) := by decide +kernel
theorem dX9_findLeast_137 : decode cX9_findLeast 137 = .ok (.iconst 1, 1) := by decide +kernel
theorem dX9_findLeast_138 : decode cX9_findLeast 138 = .ok (.ireturn, 1) := by decide +kernel
theorem dX9_findLeast_139 : decode cX9_findLeast 139 = .ok (.iinc 4 1, 3) := by decide +kernel
theorem dX9_findLeast_142 : decode cX9_findLeast 142 = .ok (.goto (-53), 3) := by decide +kernel
theorem dX9_findLeast_145 : decode cX9_findLeast 145 = .ok (.iinc 3 1, 3) := by decide +kernel
theorem dX9_findLeast_148 : decode cX9_findLeast 148 = .ok (.goto (-113), 3) := by decide +kernel
theorem dX9_findLeast_151 : decode cX9_findLeast 151 = .ok (.iinc 2 1, 3) := by decide +kernel
theorem dX9_findLeast_154 : decode cX9_findLeast 154 = .ok (.goto (-126), 3) := by decide +kernel
theorem dX9_findLeast_157 : decode cX9_findLeast 157 = .ok (.iinc 1 1, 3) := by decide +kernel
theorem dX9_findLeast_160 : decode cX9_findLeast 160 = .ok (.goto (-140), 3) := by decide +kernel
theorem dX9_findLeast_163 : decode cX9_findLeast 163 = .ok (.iconst 0, 1) := by decide +kernel
theorem dX9_findLeast_164 : decode cX9_findLeast 164 = .ok (.ireturn, 1) := by decide +kernel
theorem dX9_least_0 : decode cX9_least 0 = .ok (.aload_n 0, 1) := by decide +kernel
theorem dX9_least_1 : decode cX9_least 1 = .ok (.iconst 0, 1) := by decide +kernel
theorem dX9_least_2 : decode cX9_least 2 = .ok (.putfield 142, 3) := by decide +kernel
theorem dX9_least_5 : decode cX9_least 5 = .ok (.iload_n 1, 1) := by decide +kernel
theorem dX9_least_6 : decode cX9_least 6 = .ok (.iconst 0, 1) := by decide +kernel
theorem dX9_least_7 : decode cX9_least 7 = .ok (.iconst 2, 1) := by decide +kernel
theorem dX9_least_8 : decode cX9_least 8 = .ok (.invokestatic 160, 3) := by decide +kernel
theorem dX9_least_11 : decode cX9_least 11 = .ok (.ifCond .eq 10, 3) := by decide +kernel
theorem dX9_least_14 : decode cX9_least 14 = .ok (.aload_n 0, 1) := by decide +kernel
theorem dX9_least_15 : decode cX9_least 15 = .ok (.invokevirtual 428, 3) := by decide +kernel
theorem dX9_least_18 : decode cX9_least 18 = .ok (.ifCond .ne 5, 3) := by decide +kernel
theorem dX9_least_21 : decode cX9_least 21 = .ok (.iconst (-1), 1) := by decide +kernel
theorem dX9_least_22 : decode cX9_least 22 = .ok (.ireturn, 1) := by decide +kernel
theorem dX9_least_23 : decode cX9_least 23 = .ok (.iload_n 1, 1) := by decide +kernel
theorem dX9_least_24 : decode cX9_least 24 = .ok (.ifCond .ne 10, 3) := by decide +kernel
theorem dX9_least_27 : decode cX9_least 27 = .ok (.aload_n 0, 1) := by decide +kernel
theorem dX9_least_28 : decode cX9_least 28 = .ok (.getfield 419, 3) := by decide +kernel
theorem dX9_least_31 : decode cX9_least 31 = .ok (.goto 19, 3) := by decide +kernel
theorem dX9_least_34 : decode cX9_least 34 = .ok (.iload_n 1, 1) := by decide +kernel
theorem dX9_least_35 : decode cX9_least 35 = .ok (.iconst 1, 1) := by decide +kernel
theorem dX9_least_36 : decode cX9_least 36 = .ok (.if_icmp .ne 10, 3) := by decide +kernel
theorem dX9_least_39 : decode cX9_least 39 = .ok (.aload_n 0, 1) := by decide +kernel
theorem dX9_least_40 : decode cX9_least 40 = .ok (.getfield 422, 3) := by decide +kernel
theorem dX9_least_43 : decode cX9_least 43 = .ok (.goto 7, 3) := by decide +kernel
theorem dX9_least_46 : decode cX9_least 46 = .ok (.aload_n 0, 1) := by decide +kernel
theorem dX9_least_47 : decode cX9_least 47 = .ok (.getfield 425, 3) := by decide +kernel
theorem dX9_least_50 : decode cX9_least 50 = .ok (.ireturn, 1) := by decide +kernel
theorem dX9_findTogether_0 : decode cX9_findTogether 0 = .ok (.aload_n 0, 1) := by decide +kernel
theorem dX9_findTogether_1 : decode cX9_findTogether 1 = .ok (.invokevirtual 380, 3) := by decide +kernel
theorem dX9_findTogether_4 : decode cX9_findTogether 4 = .ok (.istore_n 3, 1) := by decide +kernel
theorem dX9_findTogether_5 : decode cX9_findTogether 5 = .ok (.iconst 0, 1) := by decide +kernel
theorem dX9_findTogether_6 : decode cX9_findTogether 6 = .ok (.istore 4, 2) := by decide +kernel
theorem dX9_findTogether_8 : decode cX9_findTogether 8 = .ok (.iload 4, 2) := by decide +kernel
theorem dX9_findTogether_10 : decode cX9_findTogether 10 = .ok (.sipush 256, 3) := by decide +kernel
theorem dX9_findTogether_13 : decode cX9_findTogether 13 = .ok (.if_icmp .ge 17, 3) := by decide +kernel
theorem dX9_findTogether_16 : decode cX9_findTogether 16 = .ok (.aload_n 0, 1) := by decide +kernel
theorem dX9_findTogether_17 : decode cX9_findTogether 17 = .ok (.getfield 120, 3) := by decide +kernel
theorem dX9_findTogether_20 : decode cX9_findTogether 20 = .ok (.iload 4, 2) := by decide +kernel
theorem dX9_findTogether_22 : decode cX9_findTogether 22 = .ok (.iconst 0, 1) := by decide +kernel
theorem dX9_findTogether_23 : decode cX9_findTogether 23 = .ok (.bastore, 1) := by decide +kernel
theorem dX9_findTogether_24 : decode cX9_findTogether 24 = .ok (.iinc 4 1, 3) := by decide +kernel
theorem dX9_findTogether_27 : decode cX9_findTogether 27 = .ok (.goto (-19), 3) := by decide +kernel
theorem dX9_findTogether_30 : decode cX9_findTogether 30 = .ok (.aload_n 0, 1) := by decide +kernel
theorem dX9_findTogether_31 : decode cX9_findTogether 31 = .ok (.invokevirtual 386, 3) := by decide +kernel
theorem dX9_findTogether_34 : decode cX9_findTogether 34 = .ok (.iconst 0, 1) := by decide +kernel
theorem dX9_findTogether_35 : decode cX9_findTogether 35 = .ok (.istore 4, 2) := by decide +kernel
theorem dX9_findTogether_37 : decode cX9_findTogether 37 = .ok (.iload 4, 2) := by decide +kernel
theorem dX9_findTogether_39 : decode cX9_findTogether 39 = .ok (.iconst 1, 1) := by decide +kernel
theorem dX9_findTogether_40 : decode cX9_findTogether 40 = .ok (.aload_n 0, 1) := by decide +kernel
theorem dX9_findTogether_41 : decode cX9_findTogether 41 = .ok (.invokevirtual 171, 3) := by decide +kernel
theorem dX9_findTogether_44 : decode cX9_findTogether 44 = .ok (.ishl, 1) := by decide +kernel
theorem dX9_findTogether_45 : decode cX9_findTogether 45 = .ok (.if_icmp .ge 104, 3) := by decide +kernel
theorem dX9_findTogether_48 : decode cX9_findTogether 48 = .ok (.aload_n 0, 1) := by decide +kernel
theorem dX9_findTogether_49 : decode cX9_findTogether 49 = .ok (.iload 4, 2) := by decide +kernel
theorem dX9_findTogether_51 : decode cX9_findTogether 51 = .ok (.invokevirtual 392, 3) := by decide +kernel
theorem dX9_findTogether_54 : decode cX9_findTogether 54 = .ok (.aload_n 0, 1) := by decide +kernel
theorem dX9_findTogether_55 : decode cX9_findTogether 55 = .ok (.iload 4, 2) := by decide +kernel
theorem dX9_findTogether_57 : decode cX9_findTogether 57 = .ok (.invokevirtual 389, 3) := by decide +kernel
theorem dX9_findTogether_60 : decode cX9_findTogether 60 = .ok (.ifCond .eq 83, 3) := by decide +kernel
theorem dX9_findTogether_63 : decode cX9_findTogether 63 = .ok (.iload_n 1, 1) := by decide +kernel
theorem dX9_findTogether_64 : decode cX9_findTogether 64 = .ok (.iconst (-1), 1) := by decide +kernel
theorem dX9_findTogether_65 : decode cX9_findTogether 65 = .ok (.if_icmp .eq 16, 3) := by decide +kernel
theorem dX9_findTogether_68 : decode cX9_findTogether 68 = .ok (.aload_n 0, 1) := by decide +kernel
theorem dX9_findTogether_69 : decode cX9_findTogether 69 = .ok (.getfield 93, 3) := by decide +kernel
theorem dX9_findTogether_72 : decode cX9_findTogether 72 = .ok (.iload_n 1, 1) := by decide +kernel
theorem dX9_findTogether_73 : decode cX9_findTogether 73 = .ok (.baload, 1) := by decide +kernel
theorem dX9_findTogether_74 : decode cX9_findTogether 74 = .ok (.iload_n 2, 1) := by decide +kernel
theorem dX9_findTogether_75 : decode cX9_findTogether 75 = .ok (.if_icmp .ne 6, 3) := by decide +kernel
theorem dX9_findTogether_78 : decode cX9_findTogether 78 = .ok (.goto 65, 3) := by decide +kernel
theorem dX9_findTogether_81 : decode cX9_findTogether 81 = .ok (.iconst 0, 1) := by decide +kernel
theorem dX9_findTogether_82 : decode cX9_findTogether 82 = .ok (.istore 5, 2) := by decide +kernel
theorem dX9_findTogether_84 : decode cX9_findTogether 84 = .ok (.iconst 0, 1) := by decide +kernel
theorem dX9_findTogether_85 : decode cX9_findTogether 85 = .ok (.istore 6, 2) := by decide +kernel
theorem dX9_findTogether_87 : decode cX9_findTogether 87 = .ok (.iload 6, 2) := by decide +kernel
theorem dX9_findTogether_89 : decode cX9_findTogether 89 = .ok (.aload_n 0, 1) := by decide +kernel
theorem dX9_findTogether_90 : decode cX9_findTogether 90 = .ok (.getfield 45, 3) := by decide +kernel
theorem dX9_findTogether_93 : decode cX9_findTogether 93 = .ok (.iconst 0, 1) := by decide +kernel
theorem dX9_findTogether_94 : decode cX9_findTogether 94 = .ok (.iaload, 1) := by decide +kernel
theorem dX9_findTogether_95 : decode cX9_findTogether 95 = .ok (.if_icmp .ge 40, 3) := by decide +kernel
theorem dX9_findTogether_98 : decode cX9_findTogether 98 = .ok (.iload 5, 2) := by decide +kernel
theorem dX9_findTogether_100 : decode cX9_findTogether 100 = .ok (.iload_n 3, 1) := by decide +kernel
theorem dX9_findTogether_101 : decode cX9_findTogether 101 = .ok (.iload 6, 2) := by decide +kernel
theorem dX9_findTogether_103 : decode cX9_findTogether 103 = .ok (.ishr, 1) := by decide +kernel
theorem dX9_findTogether_104 : decode cX9_findTogether 104 = .ok (.iconst 1, 1) := by decide +kernel
theorem dX9_findTogether_105 : decode cX9_findTogether 105 = .ok (.iand, 1) := by decide +kernel
theorem dX9_findTogether_106 : decode cX9_findTogether 106 = .ok (.ifCond .eq 19, 3) := by decide +kernel
theorem dX9_findTogether_109 : decode cX9_findTogether 109 = .ok (.aload_n 0, 1) := by decide +kernel
theorem dX9_findTogether_110 : decode cX9_findTogether 110 = .ok (.iload 6, 2) := by decide +kernel
theorem dX9_findTogether_112 : decode cX9_findTogether 112 = .ok (.invokevirtual 371, 3) := by decide +kernel
theorem dX9_findTogether_115 : decode cX9_findTogether 115 = .ok (.ifCond .eq 10, 3) := by decide +kernel
theorem dX9_findTogether_118 : decode cX9_findTogether 118 = .ok (.iconst 1, 1) := by decide +kernel
theorem dX9_findTogether_119 : decode cX9_findTogether 119 = .ok (.iload 6, 2) := by decide +kernel
theorem dX9_findTogether_121 : decode cX9_findTogether 121 = .ok (.ishl, 1) := by decide +kernel
theorem dX9_findTogether_122 : decode cX9_findTogether 122 = .ok (.goto 4, 3) := by decide +kernel
theorem dX9_findTogether_125 : decode cX9_findTogether 125 = .ok (.iconst 0, 1) := by decide +kernel
theorem dX9_findTogether_126 : decode cX9_findTogether 126 = .ok (.ior, 1) := by decide +kernel
theorem dX9_findTogether_127 : decode cX9_findTogether 127 = .ok (.istore 5, 2) := by decide +kernel
theorem dX9_findTogether_129 : decode cX9_findTogether 129 = .ok (.iinc 6 1, 3) := by decide +kernel
theorem dX9_findTogether_132 : decode cX9_findTogether 132 = .ok (.goto (-45), 3) := by decide +kernel
theorem dX9_findTogether_135 : decode cX9_findTogether 135 = .ok (.aload_n 0, 1) := by decide +kernel
theorem dX9_findTogether_136 : decode cX9_findTogether 136 = .ok (.getfield 120, 3) := by decide +kernel
theorem dX9_findTogether_139 : decode cX9_findTogether 139 = .ok (.iload 5, 2) := by decide +kernel
theorem dX9_findTogether_141 : decode cX9_findTogether 141 = .ok (.iconst 1, 1) := by decide +kernel
theorem dX9_findTogether_142 : decode cX9_findTogether 142 = .ok (.bastore, 1) := by decide +kernel
theorem dX9_findTogether_143 : decode cX9_findTogether 143 = .ok (.iinc 4 1, 3) := by decide +kernel
theorem dX9_findTogether_146 : decode cX9_findTogether 146 = .ok (.goto (-109), 3) := by decide +kernel
theorem dX9_findTogether_149 : decode cX9_findTogether 149 = .ok (.return_, 1) := by decide +kernel
theorem dX9_fewestApart_0 : decode cX9_fewestApart 0 = .ok (.aload_n 0, 1) := by decide +kernel
theorem dX9_fewestApart_1 : decode cX9_fewestApart 1 = .ok (.invokevirtual 380, 3) := by decide +kernel
theorem dX9_fewestApart_4 : decode cX9_fewestApart 4 = .ok (.istore_n 1, 1) := by decide +kernel
theorem dX9_fewestApart_5 : decode cX9_fewestApart 5 = .ok (.iconst (-1), 1) := by decide +kernel
theorem dX9_fewestApart_6 : decode cX9_fewestApart 6 = .ok (.istore_n 2, 1) := by decide +kernel
theorem dX9_fewestApart_7 : decode cX9_fewestApart 7 = .ok (.bipush 9, 2) := by decide +kernel
theorem dX9_fewestApart_9 : decode cX9_fewestApart 9 = .ok (.istore_n 3, 1) := by decide +kernel
theorem dX9_fewestApart_10 : decode cX9_fewestApart 10 = .ok (.iconst 0, 1) := by decide +kernel
theorem dX9_fewestApart_11 : decode cX9_fewestApart 11 = .ok (.istore 4, 2) := by decide +kernel
theorem dX9_fewestApart_13 : decode cX9_fewestApart 13 = .ok (.iload 4, 2) := by decide +kernel
theorem dX9_fewestApart_15 : decode cX9_fewestApart 15 = .ok (.sipush 256, 3) := by decide +kernel
theorem dX9_fewestApart_18 : decode cX9_fewestApart 18 = .ok (.if_icmp .ge 85, 3) := by decide +kernel
theorem dX9_fewestApart_21 : decode cX9_fewestApart 21 = .ok (.iconst 0, 1) := by decide +kernel
theorem dX9_fewestApart_22 : decode cX9_fewestApart 22 = .ok (.istore 5, 2) := by decide +kernel
theorem dX9_fewestApart_24 : decode cX9_fewestApart 24 = .ok (.iconst 0, 1) := by decide +kernel
theorem dX9_fewestApart_25 : decode cX9_fewestApart 25 = .ok (.istore 6, 2) := by decide +kernel
theorem dX9_fewestApart_27 : decode cX9_fewestApart 27 = .ok (.iload 6, 2) := by decide +kernel
theorem dX9_fewestApart_29 : decode cX9_fewestApart 29 = .ok (.bipush 8, 2) := by decide +kernel
theorem dX9_fewestApart_31 : decode cX9_fewestApart 31 = .ok (.if_icmp .ge 21, 3) := by decide +kernel
theorem dX9_fewestApart_34 : decode cX9_fewestApart 34 = .ok (.iload 5, 2) := by decide +kernel
theorem dX9_fewestApart_36 : decode cX9_fewestApart 36 = .ok (.iload 4, 2) := by decide +kernel
theorem dX9_fewestApart_38 : decode cX9_fewestApart 38 = .ok (.iload 6, 2) := by decide +kernel
theorem dX9_fewestApart_40 : decode cX9_fewestApart 40 = .ok (.ishr, 1) := by decide +kernel
theorem dX9_fewestApart_41 : decode cX9_fewestApart 41 = .ok (.iconst 1, 1) := by decide +kernel
theorem dX9_fewestApart_42 : decode cX9_fewestApart 42 = .ok (.iand, 1) := by decide +kernel
theorem dX9_fewestApart_43 : decode cX9_fewestApart 43 = .ok (.iadd, 1) := by decide +kernel
theorem dX9_fewestApart_44 : decode cX9_fewestApart 44 = .ok (.istore 5, 2) := by decide +kernel
theorem dX9_fewestApart_46 : decode cX9_fewestApart 46 = .ok (.iinc 6 1, 3) := by decide +kernel
theorem dX9_fewestApart_49 : decode cX9_fewestApart 49 = .ok (.goto (-22), 3) := by decide +kernel
theorem dX9_fewestApart_52 : decode cX9_fewestApart 52 = .ok (.iload 4, 2) := by decide +kernel
theorem dX9_fewestApart_54 : decode cX9_fewestApart 54 = .ok (.iload_n 1, 1) := by decide +kernel
theorem dX9_fewestApart_55 : decode cX9_fewestApart 55 = .ok (.iconst (-1), 1) := by decide +kernel
theorem dX9_fewestApart_56 : decode cX9_fewestApart 56 = .ok (.ixor, 1) := by decide +kernel
theorem dX9_fewestApart_57 : decode cX9_fewestApart 57 = .ok (.iand, 1) := by decide +kernel
theorem dX9_fewestApart_58 : decode cX9_fewestApart 58 = .ok (.ifCond .ne 39, 3) := by decide +kernel
theorem dX9_fewestApart_61 : decode cX9_fewestApart 61 = .ok (.iload 5, 2) := by decide +kernel
theorem dX9_fewestApart_63 : decode cX9_fewestApart 63 = .ok (.iload_n 3, 1) := by decide +kernel
theorem dX9_fewestApart_64 : decode cX9_fewestApart 64 = .ok (.if_icmp .gt 33, 3) := by decide +kernel
theorem dX9_fewestApart_67 : decode cX9_fewestApart 67 = .ok (.aload_n 0, 1) := by decide +kernel
theorem dX9_fewestApart_68 : decode cX9_fewestApart 68 = .ok (.iload 4, 2) := by decide +kernel
theorem dX9_fewestApart_70 : decode cX9_fewestApart 70 = .ok (.invokevirtual 431, 3) := by decide +kernel
theorem dX9_fewestApart_73 : decode cX9_fewestApart 73 = .ok (.ifCond .ne 24, 3) := by decide +kernel
theorem dX9_fewestApart_76 : decode cX9_fewestApart 76 = .ok (.iload 5, 2) := by decide +kernel
theorem dX9_fewestApart_78 : decode cX9_fewestApart 78 = .ok (.iload_n 3, 1) := by decide +kernel
theorem dX9_fewestApart_79 : decode cX9_fewestApart 79 = .ok (.if_icmp .lt 12, 3) := by decide +kernel
theorem dX9_fewestApart_82 : decode cX9_fewestApart 82 = .ok (.iload 4, 2) := by decide +kernel
theorem dX9_fewestApart_84 : decode cX9_fewestApart 84 = .ok (.iload_n 2, 1) := by decide +kernel
theorem dX9_fewestApart_85 : decode cX9_fewestApart 85 = .ok (.invokestatic 434, 3) := by decide +kernel
theorem dX9_fewestApart_88 : decode cX9_fewestApart 88 = .ok (.ifCond .eq 9, 3) := by decide +kernel
theorem dX9_fewestApart_91 : decode cX9_fewestApart 91 = .ok (.iload 4, 2) := by decide +kernel
theorem dX9_fewestApart_93 : decode cX9_fewestApart 93 = .ok (.istore_n 2, 1) := by decide +kernel
theorem dX9_fewestApart_94 : decode cX9_fewestApart 94 = .ok (.iload 5, 2) := by decide +kernel
theorem dX9_fewestApart_96 : decode cX9_fewestApart 96 = .ok (.istore_n 3, 1) := by decide +kernel
theorem dX9_fewestApart_97 : decode cX9_fewestApart 97 = .ok (.iinc 4 1, 3) := by decide +kernel
theorem dX9_fewestApart_100 : decode cX9_fewestApart 100 = .ok (.goto (-87), 3) := by decide +kernel
theorem dX9_fewestApart_103 : decode cX9_fewestApart 103 = .ok (.iload_n 2, 1) := by decide +kernel
theorem dX9_fewestApart_104 : decode cX9_fewestApart 104 = .ok (.ireturn, 1) := by decide +kernel
theorem dX9_isTogether_0 : decode cX9_isTogether 0 = .ok (.iconst 0, 1) := by decide +kernel
theorem dX9_isTogether_1 : decode cX9_isTogether 1 = .ok (.istore_n 2, 1) := by decide +kernel
theorem dX9_isTogether_2 : decode cX9_isTogether 2 = .ok (.iload_n 2, 1) := by decide +kernel
theorem dX9_isTogether_3 : decode cX9_isTogether 3 = .ok (.sipush 256, 3) := by decide +kernel
theorem dX9_isTogether_6 : decode cX9_isTogether 6 = .ok (.if_icmp .ge 28, 3) := by decide +kernel
theorem dX9_isTogether_9 : decode cX9_isTogether 9 = .ok (.aload_n 0, 1) := by decide +kernel
theorem dX9_isTogether_10 : decode cX9_isTogether 10 = .ok (.getfield 120, 3) := by decide +kernel
theorem dX9_isTogether_13 : decode cX9_isTogether 13 = .ok (.iload_n 2, 1) := by decide +kernel
theorem dX9_isTogether_14 : decode cX9_isTogether 14 = .ok (.baload, 1) := by decide +kernel
theorem dX9_isTogether_15 : decode cX9_isTogether 15 = .ok (.ifCond .eq 13, 3) := by decide +kernel
theorem dX9_isTogether_18 : decode cX9_isTogether 18 = .ok (.iload_n 1, 1) := by decide +kernel
theorem dX9_isTogether_19 : decode cX9_isTogether 19 = .ok (.iload_n 2, 1) := by decide +kernel
theorem dX9_isTogether_20 : decode cX9_isTogether 20 = .ok (.iconst (-1), 1) := by decide +kernel
theorem dX9_isTogether_21 : decode cX9_isTogether 21 = .ok (.ixor, 1) := by decide +kernel
theorem dX9_isTogether_22 : decode cX9_isTogether 22 = .ok (.iand, 1) := by decide +kernel
theorem dX9_isTogether_23 : decode cX9_isTogether 23 = .ok (.ifCond .ne 5, 3) := by decide +kernel
theorem dX9_isTogether_26 : decode cX9_isTogether 26 = .ok (.iconst 1, 1) := by decide +kernel
theorem dX9_isTogether_27 : decode cX9_isTogether 27 = .ok (.ireturn, 1) := by decide +kernel
theorem dX9_isTogether_28 : decode cX9_isTogether 28 = .ok (.iinc 2 1, 3) := by decide +kernel
theorem dX9_isTogether_31 : decode cX9_isTogether 31 = .ok (.goto (-29), 3) := by decide +kernel
theorem dX9_isTogether_34 : decode cX9_isTogether 34 = .ok (.iconst 0, 1) := by decide +kernel
theorem dX9_isTogether_35 : decode cX9_isTogether 35 = .ok (.ireturn, 1) := by decide +kernel
theorem dX9_isLessRow_0 : decode cX9_isLessRow 0 = .ok (.iload_n 0, 1) := by decide +kernel
theorem dX9_isLessRow_1 : decode cX9_isLessRow 1 = .ok (.iload_n 1, 1) := by decide +kernel
theorem dX9_isLessRow_2 : decode cX9_isLessRow 2 = .ok (.ixor, 1) := by decide +kernel
theorem dX9_isLessRow_3 : decode cX9_isLessRow 3 = .ok (.istore_n 2, 1) := by decide +kernel
theorem dX9_isLessRow_4 : decode cX9_isLessRow 4 = .ok (.iload_n 0, 1) := by decide +kernel
theorem dX9_isLessRow_5 : decode cX9_isLessRow 5 = .ok (.iload_n 2, 1) := by decide +kernel
theorem dX9_isLessRow_6 : decode cX9_isLessRow 6 = .ok (.iand, 1) := by decide +kernel
theorem dX9_isLessRow_7 : decode cX9_isLessRow 7 = .ok (.iload_n 2, 1) := by decide +kernel
theorem dX9_isLessRow_8 : decode cX9_isLessRow 8 = .ok (.ineg, 1) := by decide +kernel
theorem dX9_isLessRow_9 : decode cX9_isLessRow 9 = .ok (.iand, 1) := by decide +kernel
theorem dX9_isLessRow_10 : decode cX9_isLessRow 10 = .ok (.ifCond .eq 7, 3) := by decide +kernel
theorem dX9_isLessRow_13 : decode cX9_isLessRow 13 = .ok (.iconst 1, 1) := by decide +kernel
theorem dX9_isLessRow_14 : decode cX9_isLessRow 14 = .ok (.goto 4, 3) := by decide +kernel
theorem dX9_isLessRow_17 : decode cX9_isLessRow 17 = .ok (.iconst 0, 1) := by decide +kernel
theorem dX9_isLessRow_18 : decode cX9_isLessRow 18 = .ok (.ireturn, 1) := by decide +kernel
theorem dX9_core_0 : decode cX9_core 0 = .ok (.aload_n 0, 1) := by decide +kernel
theorem dX9_core_1 : decode cX9_core 1 = .ok (.iconst 0, 1) := by decide +kernel
theorem dX9_core_2 : decode cX9_core 2 = .ok (.putfield 142, 3) := by decide +kernel
theorem dX9_core_5 : decode cX9_core 5 = .ok (.aload_n 0, 1) := by decide +kernel
theorem dX9_core_6 : decode cX9_core 6 = .ok (.invokevirtual 182, 3) := by decide +kernel
theorem dX9_core_9 : decode cX9_core 9 = .ok (.ifCond .ne 5, 3) := by decide +kernel
theorem dX9_core_12 : decode cX9_core 12 = .ok (.iconst (-1), 1) := by decide +kernel
theorem dX9_core_13 : decode cX9_core 13 = .ok (.ireturn, 1) := by decide +kernel
theorem dX9_core_14 : decode cX9_core 14 = .ok (.aload_n 0, 1) := by decide +kernel
theorem dX9_core_15 : decode cX9_core 15 = .ok (.iconst (-1), 1) := by decide +kernel
theorem dX9_core_16 : decode cX9_core 16 = .ok (.iconst 0, 1) := by decide +kernel
theorem dX9_core_17 : decode cX9_core 17 = .ok (.invokevirtual 437, 3) := by decide +kernel
theorem dX9_core_20 : decode cX9_core 20 = .ok (.aload_n 0, 1) := by decide +kernel
theorem dX9_core_21 : decode cX9_core 21 = .ok (.invokevirtual 441, 3) := by decide +kernel
theorem dX9_core_24 : decode cX9_core 24 = .ok (.istore_n 2, 1) := by decide +kernel
theorem dX9_core_25 : decode cX9_core 25 = .ok (.iload_n 2, 1) := by decide +kernel
theorem dX9_core_26 : decode cX9_core 26 = .ok (.iload_n 1, 1) := by decide +kernel
theorem dX9_core_27 : decode cX9_core 27 = .ok (.invokestatic 444, 3) := by decide +kernel
theorem dX9_core_30 : decode cX9_core 30 = .ok (.ireturn, 1) := by decide +kernel
theorem dX9_numberIn_0 : decode cX9_numberIn 0 = .ok (.iconst 0, 1) := by decide +kernel
theorem dX9_numberIn_1 : decode cX9_numberIn 1 = .ok (.istore_n 2, 1) := by decide +kernel
theorem dX9_numberIn_2 : decode cX9_numberIn 2 = .ok (.iconst 0, 1) := by decide +kernel
theorem dX9_numberIn_3 : decode cX9_numberIn 3 = .ok (.istore_n 3, 1) := by decide +kernel
theorem dX9_numberIn_4 : decode cX9_numberIn 4 = .ok (.iload_n 3, 1) := by decide +kernel
theorem dX9_numberIn_5 : decode cX9_numberIn 5 = .ok (.bipush 8, 2) := by decide +kernel
theorem dX9_numberIn_7 : decode cX9_numberIn 7 = .ok (.if_icmp .ge 32, 3) := by decide +kernel
theorem dX9_numberIn_10 : decode cX9_numberIn 10 = .ok (.iload_n 0, 1) := by decide +kernel
theorem dX9_numberIn_11 : decode cX9_numberIn 11 = .ok (.iconst (-1), 1) := by decide +kernel
theorem dX9_numberIn_12 : decode cX9_numberIn 12 = .ok (.if_icmp .eq 27, 3) := by decide +kernel
theorem dX9_numberIn_15 : decode cX9_numberIn 15 = .ok (.iload_n 0, 1) := by decide +kernel
theorem dX9_numberIn_16 : decode cX9_numberIn 16 = .ok (.iload_n 3, 1) := by decide +kernel
theorem dX9_numberIn_17 : decode cX9_numberIn 17 = .ok (.ishr, 1) := by decide +kernel
theorem dX9_numberIn_18 : decode cX9_numberIn 18 = .ok (.iconst 1, 1) := by decide +kernel
theorem dX9_numberIn_19 : decode cX9_numberIn 19 = .ok (.iand, 1) := by decide +kernel
theorem dX9_numberIn_20 : decode cX9_numberIn 20 = .ok (.ifCond .eq 13, 3) := by decide +kernel
theorem dX9_numberIn_23 : decode cX9_numberIn 23 = .ok (.iload_n 2, 1) := by decide +kernel
theorem dX9_numberIn_24 : decode cX9_numberIn 24 = .ok (.iload_n 1, 1) := by decide +kernel
theorem dX9_numberIn_25 : decode cX9_numberIn 25 = .ok (.if_icmp .ne 5, 3) := by decide +kernel
theorem dX9_numberIn_28 : decode cX9_numberIn 28 = .ok (.iload_n 3, 1) := by decide +kernel
theorem dX9_numberIn_29 : decode cX9_numberIn 29 = .ok (.ireturn, 1) := by decide +kernel
theorem dX9_numberIn_30 : decode cX9_numberIn 30 = .ok (.iinc 2 1, 3) := by decide +kernel
theorem dX9_numberIn_33 : decode cX9_numberIn 33 = .ok (.iinc 3 1, 3) := by decide +kernel
theorem dX9_numberIn_36 : decode cX9_numberIn 36 = .ok (.goto (-32), 3) := by decide +kernel
theorem dX9_numberIn_39 : decode cX9_numberIn 39 = .ok (.iconst (-1), 1) := by decide +kernel
theorem dX9_numberIn_40 : decode cX9_numberIn 40 = .ok (.ireturn, 1) := by decide +kernel
theorem dX9_countFacts_0 : decode cX9_countFacts 0 = .ok (.aload_n 0, 1) := by decide +kernel
theorem dX9_countFacts_1 : decode cX9_countFacts 1 = .ok (.invokevirtual 410, 3) := by decide +kernel
theorem dX9_countFacts_4 : decode cX9_countFacts 4 = .ok (.aload_n 0, 1) := by decide +kernel
theorem dX9_countFacts_5 : decode cX9_countFacts 5 = .ok (.iconst 0, 1) := by decide +kernel
theorem dX9_countFacts_6 : decode cX9_countFacts 6 = .ok (.putfield 447, 3) := by decide +kernel
theorem dX9_countFacts_9 : decode cX9_countFacts 9 = .ok (.iconst 0, 1) := by decide +kernel
theorem dX9_countFacts_10 : decode cX9_countFacts 10 = .ok (.istore_n 1, 1) := by decide +kernel
theorem dX9_countFacts_11 : decode cX9_countFacts 11 = .ok (.iload_n 1, 1) := by decide +kernel
theorem dX9_countFacts_12 : decode cX9_countFacts 12 = .ok (.bipush 12, 2) := by decide +kernel
theorem dX9_countFacts_14 : decode cX9_countFacts 14 = .ok (.if_icmp .ge 16, 3) := by decide +kernel
theorem dX9_countFacts_17 : decode cX9_countFacts 17 = .ok (.aload_n 0, 1) := by decide +kernel
theorem dX9_countFacts_18 : decode cX9_countFacts 18 = .ok (.getfield 123, 3) := by decide +kernel
theorem dX9_countFacts_21 : decode cX9_countFacts 21 = .ok (.iload_n 1, 1) := by decide +kernel
theorem dX9_countFacts_22 : decode cX9_countFacts 22 = .ok (.iconst 0, 1) := by decide +kernel
theorem dX9_countFacts_23 : decode cX9_countFacts 23 = .ok (.iastore, 1) := by decide +kernel
theorem dX9_countFacts_24 : decode cX9_countFacts 24 = .ok (.iinc 1 1, 3) := by decide +kernel
theorem dX9_countFacts_27 : decode cX9_countFacts 27 = .ok (.goto (-16), 3) := by decide +kernel
theorem dX9_countFacts_30 : decode cX9_countFacts 30 = .ok (.iconst 0, 1) := by decide +kernel
theorem dX9_countFacts_31 : decode cX9_countFacts 31 = .ok (.istore_n 1, 1) := by decide +kernel
theorem dX9_countFacts_32 : decode cX9_countFacts 32 = .ok (.iload_n 1, 1) := by decide +kernel
theorem dX9_countFacts_33 : decode cX9_countFacts 33 = .ok (.iconst 1, 1) := by decide +kernel
theorem dX9_countFacts_34 : decode cX9_countFacts 34 = .ok (.aload_n 0, 1) := by decide +kernel
theorem dX9_countFacts_35 : decode cX9_countFacts 35 = .ok (.invokevirtual 171, 3) := by decide +kernel
theorem dX9_countFacts_38 : decode cX9_countFacts 38 = .ok (.ishl, 1) := by decide +kernel
theorem dX9_countFacts_39 : decode cX9_countFacts 39 = .ok (.if_icmp .ge 66, 3) := by decide +kernel
theorem dX9_countFacts_42 : decode cX9_countFacts 42 = .ok (.aload_n 0, 1) := by decide +kernel
theorem dX9_countFacts_43 : decode cX9_countFacts 43 = .ok (.iload_n 1, 1) := by decide +kernel
theorem dX9_countFacts_44 : decode cX9_countFacts 44 = .ok (.invokevirtual 404, 3) := by decide +kernel
theorem dX9_countFacts_47 : decode cX9_countFacts 47 = .ok (.ifCond .eq 52, 3) := by decide +kernel
theorem dX9_countFacts_50 : decode cX9_countFacts 50 = .ok (.aload_n 0, 1) := by decide +kernel
theorem dX9_countFacts_51 : decode cX9_countFacts 51 = .ok (.dup, 1) := by decide +kernel
theorem dX9_countFacts_52 : decode cX9_countFacts 52 = .ok (.getfield 447, 3) := by decide +kernel
theorem dX9_countFacts_55 : decode cX9_countFacts 55 = .ok (.iconst 1, 1) := by decide +kernel
theorem dX9_countFacts_56 : decode cX9_countFacts 56 = .ok (.iadd, 1) := by decide +kernel
theorem dX9_countFacts_57 : decode cX9_countFacts 57 = .ok (.putfield 447, 3) := by decide +kernel
theorem dX9_countFacts_60 : decode cX9_countFacts 60 = .ok (.iconst 0, 1) := by decide +kernel
theorem dX9_countFacts_61 : decode cX9_countFacts 61 = .ok (.istore_n 2, 1) := by decide +kernel
theorem dX9_countFacts_62 : decode cX9_countFacts 62 = .ok (.iload_n 2, 1) := by decide +kernel
theorem dX9_countFacts_63 : decode cX9_countFacts 63 = .ok (.aload_n 0, 1) := by decide +kernel
theorem dX9_countFacts_64 : decode cX9_countFacts 64 = .ok (.invokevirtual 171, 3) := by decide +kernel
theorem dX9_countFacts_67 : decode cX9_countFacts 67 = .ok (.if_icmp .ge 32, 3) := by decide +kernel
theorem dX9_countFacts_70 : decode cX9_countFacts 70 = .ok (.aload_n 0, 1) := by decide +kernel
theorem dX9_countFacts_71 : decode cX9_countFacts 71 = .ok (.getfield 123, 3) := by decide +kernel
theorem dX9_countFacts_74 : decode cX9_countFacts 74 = .ok (.iload_n 2, 1) := by decide +kernel
theorem dX9_countFacts_75 : decode cX9_countFacts 75 = .ok (.dup2, 1) := by decide +kernel
theorem dX9_countFacts_76 : decode cX9_countFacts 76 = .ok (.iaload, 1) := by decide +kernel
theorem dX9_countFacts_77 : decode cX9_countFacts 77 = .ok (.aload_n 0, 1) := by decide +kernel
theorem dX9_countFacts_78 : decode cX9_countFacts 78 = .ok (.getfield 93, 3) := by decide +kernel
theorem dX9_countFacts_81 : decode cX9_countFacts 81 = .ok (.iload_n 2, 1) := by decide +kernel
theorem dX9_countFacts_82 : decode cX9_countFacts 82 = .ok (.baload, 1) := by decide +kernel
theorem dX9_countFacts_83 : decode cX9_countFacts 83 = .ok (.ifCond .eq 7, 3) := by decide +kernel
theorem dX9_countFacts_86 : decode cX9_countFacts 86 = .ok (.iconst 1, 1) := by decide +kernel
theorem dX9_countFacts_87 : decode cX9_countFacts 87 = .ok (.goto 4, 3) := by decide +kernel
theorem dX9_countFacts_90 : decode cX9_countFacts 90 = .ok (.iconst 0, 1) := by decide +kernel
theorem dX9_countFacts_91 : decode cX9_countFacts 91 = .ok (.iadd, 1) := by decide +kernel
theorem dX9_countFacts_92 : decode cX9_countFacts 92 = .ok (.iastore, 1) := by decide +kernel
theorem dX9_countFacts_93 : decode cX9_countFacts 93 = .ok (.iinc 2 1, 3) := by decide +kernel
theorem dX9_countFacts_96 : decode cX9_countFacts 96 = .ok (.goto (-34), 3) := by decide +kernel
theorem dX9_countFacts_99 : decode cX9_countFacts 99 = .ok (.iinc 1 1, 3) := by decide +kernel
theorem dX9_countFacts_102 : decode cX9_countFacts 102 = .ok (.goto (-70), 3) := by decide +kernel
theorem dX9_countFacts_105 : decode cX9_countFacts 105 = .ok (.return_, 1) := by decide +kernel
theorem dX9_sure_0 : decode cX9_sure 0 = .ok (.aload_n 0, 1) := by decide +kernel
theorem dX9_sure_1 : decode cX9_sure 1 = .ok (.iconst 0, 1) := by decide +kernel
theorem dX9_sure_2 : decode cX9_sure 2 = .ok (.putfield 142, 3) := by decide +kernel
theorem dX9_sure_5 : decode cX9_sure 5 = .ok (.aload_n 0, 1) := by decide +kernel
theorem dX9_sure_6 : decode cX9_sure 6 = .ok (.iload_n 1, 1) := by decide +kernel
theorem dX9_sure_7 : decode cX9_sure 7 = .ok (.iload_n 2, 1) := by decide +kernel
theorem dX9_sure_8 : decode cX9_sure 8 = .ok (.iload_n 3, 1) := by decide +kernel
theorem dX9_sure_9 : decode cX9_sure 9 = .ok (.invokevirtual 179, 3) := by decide +kernel
theorem dX9_sure_12 : decode cX9_sure 12 = .ok (.istore 4, 2) := by decide +kernel
theorem dX9_sure_14 : decode cX9_sure 14 = .ok (.iload 4, 2) := by decide +kernel
theorem dX9_sure_16 : decode cX9_sure 16 = .ok (.iconst (-1), 1) := by decide +kernel
theorem dX9_sure_17 : decode cX9_sure 17 = .ok (.if_icmp .eq 10, 3) := by decide +kernel
theorem dX9_sure_20 : decode cX9_sure 20 = .ok (.aload_n 0, 1) := by decide +kernel
theorem dX9_sure_21 : decode cX9_sure 21 = .ok (.invokevirtual 182, 3) := by decide +kernel
theorem dX9_sure_24 : decode cX9_sure 24 = .ok (.ifCond .ne 5, 3) := by decide +kernel
theorem dX9_sure_27 : decode cX9_sure 27 = .ok (.iconst (-1), 1) := by decide +kernel
theorem dX9_sure_28 : decode cX9_sure 28 = .ok (.ireturn, 1) := by decide +kernel
theorem dX9_sure_29 : decode cX9_sure 29 = .ok (.aload_n 0, 1) := by decide +kernel
theorem dX9_sure_30 : decode cX9_sure 30 = .ok (.invokevirtual 450, 3) := by decide +kernel
theorem dX9_sure_33 : decode cX9_sure 33 = .ok (.aload_n 0, 1) := by decide +kernel
theorem dX9_sure_34 : decode cX9_sure 34 = .ok (.getfield 447, 3) := by decide +kernel
theorem dX9_sure_37 : decode cX9_sure 37 = .ok (.ifCond .ne 7, 3) := by decide +kernel
theorem dX9_sure_40 : decode cX9_sure 40 = .ok (.iconst (-1), 1) := by decide +kernel
theorem dX9_sure_41 : decode cX9_sure 41 = .ok (.goto 36, 3) := by decide +kernel
theorem dX9_sure_44 : decode cX9_sure 44 = .ok (.aload_n 0, 1) := by decide +kernel
theorem dX9_sure_45 : decode cX9_sure 45 = .ok (.getfield 123, 3) := by decide +kernel
theorem dX9_sure_48 : decode cX9_sure 48 = .ok (.iload 4, 2) := by decide +kernel
theorem dX9_sure_50 : decode cX9_sure 50 = .ok (.iaload, 1) := by decide +kernel
theorem dX9_sure_51 : decode cX9_sure 51 = .ok (.aload_n 0, 1) := by decide +kernel
theorem dX9_sure_52 : decode cX9_sure 52 = .ok (.getfield 447, 3) := by decide +kernel
theorem dX9_sure_55 : decode cX9_sure 55 = .ok (.if_icmp .ne 7, 3) := by decide +kernel
theorem dX9_sure_58 : decode cX9_sure 58 = .ok (.iconst 1, 1) := by decide +kernel
theorem dX9_sure_59 : decode cX9_sure 59 = .ok (.goto 18, 3) := by decide +kernel
theorem dX9_sure_62 : decode cX9_sure 62 = .ok (.aload_n 0, 1) := by decide +kernel
theorem dX9_sure_63 : decode cX9_sure 63 = .ok (.getfield 123, 3) := by decide +kernel
theorem dX9_sure_66 : decode cX9_sure 66 = .ok (.iload 4, 2) := by decide +kernel
theorem dX9_sure_68 : decode cX9_sure 68 = .ok (.iaload, 1) := by decide +kernel
theorem dX9_sure_69 : decode cX9_sure 69 = .ok (.ifCond .ne 7, 3) := by decide +kernel
theorem dX9_sure_72 : decode cX9_sure 72 = .ok (.iconst 0, 1) := by decide +kernel
theorem dX9_sure_73 : decode cX9_sure 73 = .ok (.goto 4, 3) := by decide +kernel
theorem dX9_sure_76 : decode cX9_sure 76 = .ok (.iconst (-1), 1) := by decide +kernel
theorem dX9_sure_77 : decode cX9_sure 77 = .ok (.ireturn, 1) := by decide +kernel
theorem dX9_cause_0 : decode cX9_cause 0 = .ok (.aload_n 0, 1) := by decide +kernel
theorem dX9_cause_1 : decode cX9_cause 1 = .ok (.iconst 0, 1) := by decide +kernel
theorem dX9_cause_2 : decode cX9_cause 2 = .ok (.putfield 142, 3) := by decide +kernel
theorem dX9_cause_5 : decode cX9_cause 5 = .ok (.aload_n 0, 1) := by decide +kernel
theorem dX9_cause_6 : decode cX9_cause 6 = .ok (.iload_n 1, 1) := by decide +kernel
theorem dX9_cause_7 : decode cX9_cause 7 = .ok (.iload_n 2, 1) := by decide +kernel
theorem dX9_cause_8 : decode cX9_cause 8 = .ok (.iload_n 3, 1) := by decide +kernel
theorem dX9_cause_9 : decode cX9_cause 9 = .ok (.invokevirtual 179, 3) := by decide +kernel
theorem dX9_cause_12 : decode cX9_cause 12 = .ok (.istore 5, 2) := by decide +kernel
theorem dX9_cause_14 : decode cX9_cause 14 = .ok (.iload 5, 2) := by decide +kernel
theorem dX9_cause_16 : decode cX9_cause 16 = .ok (.iconst (-1), 1) := by decide +kernel
theorem dX9_cause_17 : decode cX9_cause 17 = .ok (.if_icmp .eq 10, 3) := by decide +kernel
theorem dX9_cause_20 : decode cX9_cause 20 = .ok (.aload_n 0, 1) := by decide +kernel
theorem dX9_cause_21 : decode cX9_cause 21 = .ok (.invokevirtual 182, 3) := by decide +kernel
theorem dX9_cause_24 : decode cX9_cause 24 = .ok (.ifCond .ne 5, 3) := by decide +kernel
theorem dX9_cause_27 : decode cX9_cause 27 = .ok (.iconst (-1), 1) := by decide +kernel
theorem dX9_cause_28 : decode cX9_cause 28 = .ok (.ireturn, 1) := by decide +kernel
theorem dX9_cause_29 : decode cX9_cause 29 = .ok (.aload_n 0, 1) := by decide +kernel
theorem dX9_cause_30 : decode cX9_cause 30 = .ok (.invokevirtual 450, 3) := by decide +kernel
theorem dX9_cause_33 : decode cX9_cause 33 = .ok (.aload_n 0, 1) := by decide +kernel
theorem dX9_cause_34 : decode cX9_cause 34 = .ok (.getfield 447, 3) := by decide +kernel
theorem dX9_cause_37 : decode cX9_cause 37 = .ok (.ifCond .eq 27, 3) := by decide +kernel
theorem dX9_cause_40 : decode cX9_cause 40 = .ok (.aload_n 0, 1) := by decide +kernel
theorem dX9_cause_41 : decode cX9_cause 41 = .ok (.getfield 123, 3) := by decide +kernel
theorem dX9_cause_44 : decode cX9_cause 44 = .ok (.iload 5, 2) := by decide +kernel
theorem dX9_cause_46 : decode cX9_cause 46 = .ok (.iaload, 1) := by decide +kernel
theorem dX9_cause_47 : decode cX9_cause 47 = .ok (.ifCond .eq 19, 3) := by decide +kernel
theorem dX9_cause_50 : decode cX9_cause 50 = .ok (.aload_n 0, 1) := by decide +kernel
theorem dX9_cause_51 : decode cX9_cause 51 = .ok (.getfield 123, 3) := by decide +kernel
theorem dX9_cause_54 : decode cX9_cause 54 = .ok (.iload 5, 2) := by decide +kernel
theorem dX9_cause_56 : decode cX9_cause 56 = .ok (.iaload, 1) := by decide +kernel
theorem dX9_cause_57 : decode cX9_cause 57 = .ok (.aload_n 0, 1) := by decide +kernel
theorem dX9_cause_58 : decode cX9_cause 58 = .ok (.getfield 447, 3) := by decide +kernel
theorem dX9_cause_61 : decode cX9_cause 61 = .ok (.if_icmp .eq 5, 3) := by decide +kernel
theorem dX9_cause_64 : decode cX9_cause 64 = .ok (.iconst (-1), 1) := by decide +kernel
theorem dX9_cause_65 : decode cX9_cause 65 = .ok (.ireturn, 1) := by decide +kernel
theorem dX9_cause_66 : decode cX9_cause 66 = .ok (.aload_n 0, 1) := by decide +kernel
theorem dX9_cause_67 : decode cX9_cause 67 = .ok (.iload 5, 2) := by decide +kernel
theorem dX9_cause_69 : decode cX9_cause 69 = .ok (.aload_n 0, 1) := by decide +kernel
theorem dX9_cause_70 : decode cX9_cause 70 = .ok (.getfield 123, 3) := by decide +kernel
theorem dX9_cause_73 : decode cX9_cause 73 = .ok (.iload 5, 2) := by decide +kernel
theorem dX9_cause_75 : decode cX9_cause 75 = .ok (.iaload, 1) := by decide +kernel
theorem dX9_cause_76 : decode cX9_cause 76 = .ok (.ifCond .le 7, 3) := by decide +kernel
theorem dX9_cause_79 : decode cX9_cause 79 = .ok (.iconst 1, 1) := by decide +kernel
theorem dX9_cause_80 : decode cX9_cause 80 = .ok (.goto 4, 3) := by decide +kernel
theorem dX9_cause_83 : decode cX9_cause 83 = .ok (.iconst 0, 1) := by decide +kernel
theorem dX9_cause_84 : decode cX9_cause 84 = .ok (.invokevirtual 437, 3) := by decide +kernel
theorem dX9_cause_87 : decode cX9_cause 87 = .ok (.aload_n 0, 1) := by decide +kernel
theorem dX9_cause_88 : decode cX9_cause 88 = .ok (.invokevirtual 441, 3) := by decide +kernel
theorem dX9_cause_91 : decode cX9_cause 91 = .ok (.iload 4, 2) := by decide +kernel
theorem dX9_cause_93 : decode cX9_cause 93 = .ok (.invokestatic 444, 3) := by decide +kernel
theorem dX9_cause_96 : decode cX9_cause 96 = .ok (.ireturn, 1) := by decide +kernel
theorem dX9_without_0 : decode cX9_without 0 = .ok (.aload_n 0, 1) := by decide +kernel
theorem dX9_without_1 : decode cX9_without 1 = .ok (.iconst 0, 1) := by decide +kernel
theorem dX9_without_2 : decode cX9_without 2 = .ok (.putfield 142, 3) := by decide +kernel
theorem dX9_without_5 : decode cX9_without 5 = .ok (.iload_n 1, 1) := by decide +kernel
theorem dX9_without_6 : decode cX9_without 6 = .ok (.iconst 0, 1) := by decide +kernel
theorem dX9_without_7 : decode cX9_without 7 = .ok (.aload_n 0, 1) := by decide +kernel
theorem dX9_without_8 : decode cX9_without 8 = .ok (.getfield 45, 3) := by decide +kernel
theorem dX9_without_11 : decode cX9_without 11 = .ok (.iconst 0, 1) := by decide +kernel
theorem dX9_without_12 : decode cX9_without 12 = .ok (.iaload, 1) := by decide +kernel
theorem dX9_without_13 : decode cX9_without 13 = .ok (.iconst 1, 1) := by decide +kernel
theorem dX9_without_14 : decode cX9_without 14 = .ok (.isub, 1) := by decide +kernel
theorem dX9_without_15 : decode cX9_without 15 = .ok (.invokestatic 160, 3) := by decide +kernel
theorem dX9_without_18 : decode cX9_without 18 = .ok (.ifCond .eq 10, 3) := by decide +kernel
theorem dX9_without_21 : decode cX9_without 21 = .ok (.aload_n 0, 1) := by decide +kernel
theorem dX9_without_22 : decode cX9_without 22 = .ok (.invokevirtual 182, 3) := by decide +kernel
theorem dX9_without_25 : decode cX9_without 25 = .ok (.ifCond .ne 5, 3) := by decide +kernel
theorem dX9_without_28 : decode cX9_without 28 = .ok (.iconst (-1), 1) := by decide +kernel
theorem dX9_without_29 : decode cX9_without 29 = .ok (.ireturn, 1) := by decide +kernel
theorem dX9_without_30 : decode cX9_without 30 = .ok (.aload_n 0, 1) := by decide +kernel
theorem dX9_without_31 : decode cX9_without 31 = .ok (.invokevirtual 410, 3) := by decide +kernel
theorem dX9_without_34 : decode cX9_without 34 = .ok (.aload_n 0, 1) := by decide +kernel
theorem dX9_without_35 : decode cX9_without 35 = .ok (.getfield 383, 3) := by decide +kernel
theorem dX9_without_38 : decode cX9_without 38 = .ok (.iload_n 1, 1) := by decide +kernel
theorem dX9_without_39 : decode cX9_without 39 = .ok (.ishr, 1) := by decide +kernel
theorem dX9_without_40 : decode cX9_without 40 = .ok (.iconst 1, 1) := by decide +kernel
theorem dX9_without_41 : decode cX9_without 41 = .ok (.iand, 1) := by decide +kernel
theorem dX9_without_42 : decode cX9_without 42 = .ok (.ifCond .ne 5, 3) := by decide +kernel
theorem dX9_without_45 : decode cX9_without 45 = .ok (.iconst (-1), 1) := by decide +kernel
theorem dX9_without_46 : decode cX9_without 46 = .ok (.ireturn, 1) := by decide +kernel
theorem dX9_without_47 : decode cX9_without 47 = .ok (.aload_n 0, 1) := by decide +kernel
theorem dX9_without_48 : decode cX9_without 48 = .ok (.dup, 1) := by decide +kernel
theorem dX9_without_49 : decode cX9_without 49 = .ok (.getfield 383, 3) := by decide +kernel
theorem dX9_without_52 : decode cX9_without 52 = .ok (.iconst 1, 1) := by decide +kernel
theorem dX9_without_53 : decode cX9_without 53 = .ok (.iload_n 1, 1) := by decide +kernel
theorem dX9_without_54 : decode cX9_without 54 = .ok (.ishl, 1) := by decide +kernel
theorem dX9_without_55 : decode cX9_without 55 = .ok (.ixor, 1) := by decide +kernel
theorem dX9_without_56 : decode cX9_without 56 = .ok (.putfield 383, 3) := by decide +kernel
theorem dX9_without_59 : decode cX9_without 59 = .ok (.iconst 0, 1) := by decide +kernel
theorem dX9_without_60 : decode cX9_without 60 = .ok (.istore_n 2, 1) := by decide +kernel
theorem dX9_without_61 : decode cX9_without 61 = .ok (.iconst 0, 1) := by decide +kernel
theorem dX9_without_62 : decode cX9_without 62 = .ok (.istore_n 3, 1) := by decide +kernel
theorem dX9_without_63 : decode cX9_without 63 = .ok (.iload_n 3, 1) := by decide +kernel
theorem dX9_without_64 : decode cX9_without 64 = .ok (.iconst 1, 1) := by decide +kernel
theorem dX9_without_65 : decode cX9_without 65 = .ok (.aload_n 0, 1) := by decide +kernel
theorem dX9_without_66 : decode cX9_without 66 = .ok (.invokevirtual 171, 3) := by decide +kernel
theorem dX9_without_69 : decode cX9_without 69 = .ok (.ishl, 1) := by decide +kernel
theorem dX9_without_70 : decode cX9_without 70 = .ok (.if_icmp .ge 25, 3) := by decide +kernel
theorem dX9_without_73 : decode cX9_without 73 = .ok (.iload_n 2, 1) := by decide +kernel
theorem dX9_without_74 : decode cX9_without 74 = .ok (.aload_n 0, 1) := by decide +kernel
theorem dX9_without_75 : decode cX9_without 75 = .ok (.iload_n 3, 1) := by decide +kernel
theorem dX9_without_76 : decode cX9_without 76 = .ok (.invokevirtual 404, 3) := by decide +kernel
theorem dX9_without_79 : decode cX9_without 79 = .ok (.ifCond .eq 7, 3) := by decide +kernel
theorem dX9_without_82 : decode cX9_without 82 = .ok (.iconst 1, 1) := by decide +kernel
theorem dX9_without_83 : decode cX9_without 83 = .ok (.goto 4, 3) := by decide +kernel
theorem dX9_without_86 : decode cX9_without 86 = .ok (.iconst 0, 1) := by decide +kernel
theorem dX9_without_87 : decode cX9_without 87 = .ok (.iadd, 1) := by decide +kernel
theorem dX9_without_88 : decode cX9_without 88 = .ok (.istore_n 2, 1) := by decide +kernel
theorem dX9_without_89 : decode cX9_without 89 = .ok (.iinc 3 1, 3) := by decide +kernel
theorem dX9_without_92 : decode cX9_without 92 = .ok (.goto (-29), 3) := by decide +kernel
theorem dX9_without_95 : decode cX9_without 95 = .ok (.iload_n 2, 1) := by decide +kernel
theorem dX9_without_96 : decode cX9_without 96 = .ok (.ireturn, 1) := by decide +kernel
theorem dX9_findYes_0 : decode cX9_findYes 0 = .ok (.iconst 0, 1) := by decide +kernel
theorem dX9_findYes_1 : decode cX9_findYes 1 = .ok (.istore_n 2, 1) := by decide +kernel
theorem dX9_findYes_2 : decode cX9_findYes 2 = .ok (.iload_n 2, 1) := by decide +kernel
theorem dX9_findYes_3 : decode cX9_findYes 3 = .ok (.aload_n 0, 1) := by decide +kernel
theorem dX9_findYes_4 : decode cX9_findYes 4 = .ok (.invokevirtual 171, 3) := by decide +kernel
theorem dX9_findYes_7 : decode cX9_findYes 7 = .ok (.if_icmp .ge 58, 3) := by decide +kernel
theorem dX9_findYes_10 : decode cX9_findYes 10 = .ok (.aload_n 0, 1) := by decide +kernel
theorem dX9_findYes_11 : decode cX9_findYes 11 = .ok (.getfield 136, 3) := by decide +kernel
theorem dX9_findYes_14 : decode cX9_findYes 14 = .ok (.iload_n 2, 1) := by decide +kernel
theorem dX9_findYes_15 : decode cX9_findYes 15 = .ok (.iconst 0, 1) := by decide +kernel
theorem dX9_findYes_16 : decode cX9_findYes 16 = .ok (.iastore, 1) := by decide +kernel
theorem dX9_findYes_17 : decode cX9_findYes 17 = .ok (.iconst 0, 1) := by decide +kernel
theorem dX9_findYes_18 : decode cX9_findYes 18 = .ok (.istore_n 3, 1) := by decide +kernel
theorem dX9_findYes_19 : decode cX9_findYes 19 = .ok (.iload_n 3, 1) := by decide +kernel
theorem dX9_findYes_20 : decode cX9_findYes 20 = .ok (.iload_n 1, 1) := by decide +kernel
theorem dX9_findYes_21 : decode cX9_findYes 21 = .ok (.if_icmp .ge 38, 3) := by decide +kernel
theorem dX9_findYes_24 : decode cX9_findYes 24 = .ok (.aload_n 0, 1) := by decide +kernel
theorem dX9_findYes_25 : decode cX9_findYes 25 = .ok (.getfield 136, 3) := by decide +kernel
theorem dX9_findYes_28 : decode cX9_findYes 28 = .ok (.iload_n 2, 1) := by decide +kernel
theorem dX9_findYes_29 : decode cX9_findYes 29 = .ok (.dup2, 1) := by decide +kernel
theorem dX9_findYes_30 : decode cX9_findYes 30 = .ok (.iaload, 1) := by decide +kernel
theorem dX9_findYes_31 : decode cX9_findYes 31 = .ok (.aload_n 0, 1) := by decide +kernel
theorem dX9_findYes_32 : decode cX9_findYes 32 = .ok (.getfield 126, 3) := by decide +kernel
theorem dX9_findYes_35 : decode cX9_findYes 35 = .ok (.iload_n 3, 1) := by decide +kernel
theorem dX9_findYes_36 : decode cX9_findYes 36 = .ok (.iaload, 1) := by decide +kernel
theorem dX9_findYes_37 : decode cX9_findYes 37 = .ok (.iload_n 2, 1) := by decide +kernel
theorem dX9_findYes_38 : decode cX9_findYes 38 = .ok (.ishr, 1) := by decide +kernel
theorem dX9_findYes_39 : decode cX9_findYes 39 = .ok (.iconst 1, 1) := by decide +kernel
theorem dX9_findYes_40 : decode cX9_findYes 40 = .ok (.iand, 1) := by decide +kernel
theorem dX9_findYes_41 : decode cX9_findYes 41 = .ok (.ifCond .eq 9, 3) := by decide +kernel
theorem dX9_findYes_44 : decode cX9_findYes 44 = .ok (.iconst 1, 1) := by decide +kernel
theorem dX9_findYes_45 : decode cX9_findYes 45 = .ok (.iload_n 3, 1) := by decide +kernel
theorem dX9_findYes_46 : decode cX9_findYes 46 = .ok (.ishl, 1) := by decide +kernel
theorem dX9_findYes_47 : decode cX9_findYes 47 = .ok (.goto 4, 3) := by decide +kernel
theorem dX9_findYes_50 : decode cX9_findYes 50 = .ok (.iconst 0, 1) := by decide +kernel
theorem dX9_findYes_51 : decode cX9_findYes 51 = .ok (.ior, 1) := by decide +kernel
theorem dX9_findYes_52 : decode cX9_findYes 52 = .ok (.iastore, 1) := by decide +kernel
theorem dX9_findYes_53 : decode cX9_findYes 53 = .ok (.iinc 3 1, 3) := by decide +kernel
theorem dX9_findYes_56 : decode cX9_findYes 56 = .ok (.goto (-37), 3) := by decide +kernel
theorem dX9_findYes_59 : decode cX9_findYes 59 = .ok (.iinc 2 1, 3) := by decide +kernel
theorem dX9_findYes_62 : decode cX9_findYes 62 = .ok (.goto (-60), 3) := by decide +kernel
theorem dX9_findYes_65 : decode cX9_findYes 65 = .ok (.return_, 1) := by decide +kernel
theorem dX9_asks_0 : decode cX9_asks 0 = .ok (.iconst 0, 1) := by decide +kernel
theorem dX9_asks_1 : decode cX9_asks 1 = .ok (.istore_n 2, 1) := by decide +kernel
theorem dX9_asks_2 : decode cX9_asks 2 = .ok (.iload_n 2, 1) := by decide +kernel
theorem dX9_asks_3 : decode cX9_asks 3 = .ok (.aload_n 0, 1) := by decide +kernel
theorem dX9_asks_4 : decode cX9_asks 4 = .ok (.invokevirtual 171, 3) := by decide +kernel
theorem dX9_asks_7 : decode cX9_asks 7 = .ok (.if_icmp .ge 45, 3) := by decide +kernel
theorem dX9_asks_10 : decode cX9_asks 10 = .ok (.aload_n 0, 1) := by decide +kernel
theorem dX9_asks_11 : decode cX9_asks 11 = .ok (.getfield 130, 3) := by decide +kernel
theorem dX9_asks_14 : decode cX9_asks 14 = .ok (.iload_n 1, 1) := by decide +kernel
theorem dX9_asks_15 : decode cX9_asks 15 = .ok (.aload_n 0, 1) := by decide +kernel
theorem dX9_asks_16 : decode cX9_asks 16 = .ok (.getfield 136, 3) := by decide +kernel
theorem dX9_asks_19 : decode cX9_asks 19 = .ok (.iload_n 2, 1) := by decide +kernel
theorem dX9_asks_20 : decode cX9_asks 20 = .ok (.iaload, 1) := by decide +kernel
theorem dX9_asks_21 : decode cX9_asks 21 = .ok (.iand, 1) := by decide +kernel
theorem dX9_asks_22 : decode cX9_asks 22 = .ok (.baload, 1) := by decide +kernel
theorem dX9_asks_23 : decode cX9_asks 23 = .ok (.ifCond .eq 23, 3) := by decide +kernel
theorem dX9_asks_26 : decode cX9_asks 26 = .ok (.aload_n 0, 1) := by decide +kernel
theorem dX9_asks_27 : decode cX9_asks 27 = .ok (.getfield 130, 3) := by decide +kernel
theorem dX9_asks_30 : decode cX9_asks 30 = .ok (.iload_n 1, 1) := by decide +kernel
theorem dX9_asks_31 : decode cX9_asks 31 = .ok (.aload_n 0, 1) := by decide +kernel
theorem dX9_asks_32 : decode cX9_asks 32 = .ok (.getfield 136, 3) := by decide +kernel
theorem dX9_asks_35 : decode cX9_asks 35 = .ok (.iload_n 2, 1) := by decide +kernel
theorem dX9_asks_36 : decode cX9_asks 36 = .ok (.iaload, 1) := by decide +kernel
theorem dX9_asks_37 : decode cX9_asks 37 = .ok (.iconst (-1), 1) := by decide +kernel
theorem dX9_asks_38 : decode cX9_asks 38 = .ok (.ixor, 1) := by decide +kernel
theorem dX9_asks_39 : decode cX9_asks 39 = .ok (.iand, 1) := by decide +kernel
theorem dX9_asks_40 : decode cX9_asks 40 = .ok (.baload, 1) := by decide +kernel
theorem dX9_asks_41 : decode cX9_asks 41 = .ok (.ifCond .eq 5, 3) := by decide +kernel
theorem dX9_asks_44 : decode cX9_asks 44 = .ok (.iconst 1, 1) := by decide +kernel
theorem dX9_asks_45 : decode cX9_asks 45 = .ok (.ireturn, 1) := by decide +kernel
theorem dX9_asks_46 : decode cX9_asks 46 = .ok (.iinc 2 1, 3) := by decide +kernel
theorem dX9_asks_49 : decode cX9_asks 49 = .ok (.goto (-47), 3) := by decide +kernel
theorem dX9_asks_52 : decode cX9_asks 52 = .ok (.iconst 0, 1) := by decide +kernel
theorem dX9_asks_53 : decode cX9_asks 53 = .ok (.ireturn, 1) := by decide +kernel
theorem dX9_questions_0 : decode cX9_questions 0 = .ok (.aload_n 0, 1) := by decide +kernel
theorem dX9_questions_1 : decode cX9_questions 1 = .ok (.iconst 0, 1) := by decide +kernel
theorem dX9_questions_2 : decode cX9_questions 2 = .ok (.putfield 142, 3) := by decide +kernel
theorem dX9_questions_5 : decode cX9_questions 5 = .ok (.aload_n 0, 1) := by decide +kernel
theorem dX9_questions_6 : decode cX9_questions 6 = .ok (.invokevirtual 182, 3) := by decide +kernel
theorem dX9_questions_9 : decode cX9_questions 9 = .ok (.ifCond .ne 5, 3) := by decide +kernel
theorem dX9_questions_12 : decode cX9_questions 12 = .ok (.iconst (-1), 1) := by decide +kernel
theorem dX9_questions_13 : decode cX9_questions 13 = .ok (.ireturn, 1) := by decide +kernel
theorem dX9_questions_14 : decode cX9_questions 14 = .ok (.aload_n 0, 1) := by decide +kernel
theorem dX9_questions_15 : decode cX9_questions 15 = .ok (.invokevirtual 410, 3) := by decide +kernel
theorem dX9_questions_18 : decode cX9_questions 18 = .ok (.iconst 0, 1) := by decide +kernel
theorem dX9_questions_19 : decode cX9_questions 19 = .ok (.istore_n 1, 1) := by decide +kernel
theorem dX9_questions_20 : decode cX9_questions 20 = .ok (.iconst 0, 1) := by decide +kernel
theorem dX9_questions_21 : decode cX9_questions 21 = .ok (.istore_n 2, 1) := by decide +kernel
theorem dX9_questions_22 : decode cX9_questions 22 = .ok (.iload_n 2, 1) := by decide +kernel
theorem dX9_questions_23 : decode cX9_questions 23 = .ok (.iconst 1, 1) := by decide +kernel
theorem dX9_questions_24 : decode cX9_questions 24 = .ok (.aload_n 0, 1) := by decide +kernel
theorem dX9_questions_25 : decode cX9_questions 25 = .ok (.invokevirtual 171, 3) := by decide +kernel
theorem dX9_questions_28 : decode cX9_questions 28 = .ok (.ishl, 1) := by decide +kernel
theorem dX9_questions_29 : decode cX9_questions 29 = .ok (.if_icmp .ge 35, 3) := by decide +kernel
theorem dX9_questions_32 : decode cX9_questions 32 = .ok (.aload_n 0, 1) := by decide +kernel
theorem dX9_questions_33 : decode cX9_questions 33 = .ok (.iload_n 2, 1) := by decide +kernel
theorem dX9_questions_34 : decode cX9_questions 34 = .ok (.invokevirtual 404, 3) := by decide +kernel
theorem dX9_questions_37 : decode cX9_questions 37 = .ok (.ifCond .eq 21, 3) := by decide +kernel
theorem dX9_questions_40 : decode cX9_questions 40 = .ok (.iload_n 1, 1) := by decide +kernel
theorem dX9_questions_41 : decode cX9_questions 41 = .ok (.bipush 16, 2) := by decide +kernel
theorem dX9_questions_43 : decode cX9_questions 43 = .ok (.if_icmp .ne 5, 3) := by decide +kernel
theorem dX9_questions_46 : decode cX9_questions 46 = .ok (.iconst (-1), 1) := by decide +kernel
theorem dX9_questions_47 : decode cX9_questions 47 = .ok (.ireturn, 1) := by decide +kernel
theorem dX9_questions_48 : decode cX9_questions 48 = .ok (.aload_n 0, 1) := by decide +kernel
theorem dX9_questions_49 : decode cX9_questions 49 = .ok (.getfield 126, 3) := by decide +kernel
theorem dX9_questions_52 : decode cX9_questions 52 = .ok (.iload_n 1, 1) := by decide +kernel
theorem dX9_questions_53 : decode cX9_questions 53 = .ok (.iload_n 2, 1) := by decide +kernel
theorem dX9_questions_54 : decode cX9_questions 54 = .ok (.iastore, 1) := by decide +kernel
theorem dX9_questions_55 : decode cX9_questions 55 = .ok (.iinc 1 1, 3) := by decide +kernel
theorem dX9_questions_58 : decode cX9_questions 58 = .ok (.iinc 2 1, 3) := by decide +kernel
theorem dX9_questions_61 : decode cX9_questions 61 = .ok (.goto (-39), 3) := by decide +kernel
theorem dX9_questions_64 : decode cX9_questions 64 = .ok (.iload_n 1, 1) := by decide +kernel
theorem dX9_questions_65 : decode cX9_questions 65 = .ok (.ifCond .ne 5, 3) := by decide +kernel
theorem dX9_questions_68 : decode cX9_questions 68 = .ok (.iconst (-1), 1) := by decide +kernel
theorem dX9_questions_69 : decode cX9_questions 69 = .ok (.ireturn, 1) := by decide +kernel
theorem dX9_questions_70 : decode cX9_questions 70 = .ok (.aload_n 0, 1) := by decide +kernel
theorem dX9_questions_71 : decode cX9_questions 71 = .ok (.iload_n 1, 1) := by decide +kernel
theorem dX9_questions_72 : decode cX9_questions 72 = .ok (.invokevirtual 453, 3) := by decide +kernel
theorem dX9_questions_75 : decode cX9_questions 75 = .ok (.iconst 0, 1) := by decide +kernel
theorem dX9_questions_76 : decode cX9_questions 76 = .ok (.istore_n 2, 1) := by decide +kernel
theorem dX9_questions_77 : decode cX9_questions 77 = .ok (.iload_n 2, 1) := by decide +kernel
theorem dX9_questions_78 : decode cX9_questions 78 = .ok (.iconst 1, 1) := by decide +kernel
theorem dX9_questions_79 : decode cX9_questions 79 = .ok (.iload_n 1, 1) := by decide +kernel
theorem dX9_questions_80 : decode cX9_questions 80 = .ok (.ishl, 1) := by decide +kernel
theorem dX9_questions_81 : decode cX9_questions 81 = .ok (.if_icmp .ge 28, 3) := by decide +kernel
theorem dX9_questions_84 : decode cX9_questions 84 = .ok (.aload_n 0, 1) := by decide +kernel
theorem dX9_questions_85 : decode cX9_questions 85 = .ok (.getfield 130, 3) := by decide +kernel
theorem dX9_questions_88 : decode cX9_questions 88 = .ok (.iload_n 2, 1) := by decide +kernel
theorem dX9_questions_89 : decode cX9_questions 89 = .ok (.iload_n 2, 1) := by decide +kernel
theorem dX9_questions_90 : decode cX9_questions 90 = .ok (.iload_n 2, 1) := by decide +kernel
theorem dX9_questions_91 : decode cX9_questions 91 = .ok (.iconst 1, 1) := by decide +kernel
theorem dX9_questions_92 : decode cX9_questions 92 = .ok (.isub, 1) := by decide +kernel
theorem dX9_questions_93 : decode cX9_questions 93 = .ok (.iand, 1) := by decide +kernel
theorem dX9_questions_94 : decode cX9_questions 94 = .ok (.ifCond .ne 7, 3) := by decide +kernel
theorem dX9_questions_97 : decode cX9_questions 97 = .ok (.iconst 1, 1) := by decide +kernel
theorem dX9_questions_98 : decode cX9_questions 98 = .ok (.goto 4, 3) := by decide +kernel
theorem dX9_questions_101 : decode cX9_questions 101 = .ok (.iconst 0, 1) := by decide +kernel
theorem dX9_questions_102 : decode cX9_questions 102 = .ok (.bastore, 1) := by decide +kernel
theorem dX9_questions_103 : decode cX9_questions 103 = .ok (.iinc 2 1, 3) := by decide +kernel
theorem dX9_questions_106 : decode cX9_questions 106 = .ok (.goto (-29), 3) := by decide +kernel
theorem dX9_questions_109 : decode cX9_questions 109 = .ok (.iconst 0, 1) := by decide +kernel
theorem dX9_questions_110 : decode cX9_questions 110 = .ok (.istore_n 2, 1) := by decide +kernel
theorem dX9_questions_111 : decode cX9_questions 111 = .ok (.iload_n 2, 1) := by decide +kernel
theorem dX9_questions_112 : decode cX9_questions 112 = .ok (.iconst 4, 1) := by decide +kernel
theorem dX9_questions_113 : decode cX9_questions 113 = .ok (.if_icmp .gt 94, 3) := by decide +kernel
theorem dX9_questions_116 : decode cX9_questions 116 = .ok (.aload_n 0, 1) := by decide +kernel
theorem dX9_questions_117 : decode cX9_questions 117 = .ok (.getfield 130, 3) := by decide +kernel
theorem dX9_questions_120 : decode cX9_questions 120 = .ok (.iconst 1, 1) := by decide +kernel
theorem dX9_questions_121 : decode cX9_questions 121 = .ok (.iload_n 1, 1) := by decide +kernel
theorem dX9_questions_122 : decode cX9_questions 122 = .ok (.ishl, 1) := by decide +kernel
theorem dX9_questions_123 : decode cX9_questions 123 = .ok (.iconst 1, 1) := by decide +kernel
theorem dX9_questions_124 : decode cX9_questions 124 = .ok (.isub, 1) := by decide +kernel
theorem dX9_questions_125 : decode cX9_questions 125 = .ok (.baload, 1) := by decide +kernel
theorem dX9_questions_126 : decode cX9_questions 126 = .ok (.ifCond .eq 5, 3) := by decide +kernel
theorem dX9_questions_129 : decode cX9_questions 129 = .ok (.iload_n 2, 1) := by decide +kernel
theorem dX9_questions_130 : decode cX9_questions 130 = .ok (.ireturn, 1) := by decide +kernel
theorem dX9_questions_131 : decode cX9_questions 131 = .ok (.iconst 0, 1) := by decide +kernel
theorem dX9_questions_132 : decode cX9_questions 132 = .ok (.istore_n 3, 1) := by decide +kernel
theorem dX9_questions_133 : decode cX9_questions 133 = .ok (.iload_n 3, 1) := by decide +kernel
theorem dX9_questions_134 : decode cX9_questions 134 = .ok (.iconst 1, 1) := by decide +kernel
theorem dX9_questions_135 : decode cX9_questions 135 = .ok (.iload_n 1, 1) := by decide +kernel
theorem dX9_questions_136 : decode cX9_questions 136 = .ok (.ishl, 1) := by decide +kernel
theorem dX9_questions_137 : decode cX9_questions 137 = .ok (.if_icmp .ge 37, 3) := by decide +kernel
theorem dX9_questions_140 : decode cX9_questions 140 = .ok (.aload_n 0, 1) := by decide +kernel
theorem dX9_questions_141 : decode cX9_questions 141 = .ok (.getfield 133, 3) := by decide +kernel
theorem dX9_questions_144 : decode cX9_questions 144 = .ok (.iload_n 3, 1) := by decide +kernel
theorem dX9_questions_145 : decode cX9_questions 145 = .ok (.aload_n 0, 1) := by decide +kernel
theorem dX9_questions_146 : decode cX9_questions 146 = .ok (.getfield 130, 3) := by decide +kernel
theorem dX9_questions_149 : decode cX9_questions 149 = .ok (.iload_n 3, 1) := by decide +kernel
theorem dX9_questions_150 : decode cX9_questions 150 = .ok (.baload, 1) := by decide +kernel
theorem dX9_questions_151 : decode cX9_questions 151 = .ok (.ifCond .ne 11, 3) := by decide +kernel
theorem dX9_questions_154 : decode cX9_questions 154 = .ok (.aload_n 0, 1) := by decide +kernel
theorem dX9_questions_155 : decode cX9_questions 155 = .ok (.iload_n 3, 1) := by decide +kernel
theorem dX9_questions_156 : decode cX9_questions 156 = .ok (.invokevirtual 456, 3) := by decide +kernel
theorem dX9_questions_159 : decode cX9_questions 159 = .ok (.ifCond .eq 7, 3) := by decide +kernel
theorem dX9_questions_162 : decode cX9_questions 162 = .ok (.iconst 1, 1) := by decide +kernel
theorem dX9_questions_163 : decode cX9_questions 163 = .ok (.goto 4, 3) := by decide +kernel
theorem dX9_questions_166 : decode cX9_questions 166 = .ok (.iconst 0, 1) := by decide +kernel
theorem dX9_questions_167 : decode cX9_questions 167 = .ok (.bastore, 1) := by decide +kernel
theorem dX9_questions_168 : decode cX9_questions 168 = .ok (.iinc 3 1, 3) := by decide +kernel
theorem dX9_questions_171 : decode cX9_questions 171 = .ok (.goto (-38), 3) := by decide +kernel
theorem dX9_questions_174 : decode cX9_questions 174 = .ok (.iconst 0, 1) := by decide +kernel
theorem dX9_questions_175 : decode cX9_questions 175 = .ok (.istore_n 3, 1) := by decide +kernel
theorem dX9_questions_176 : decode cX9_questions 176 = .ok (.iload_n 3, 1) := by decide +kernel
theorem dX9_questions_177 : decode cX9_questions 177 = .ok (.iconst 1, 1) := by decide +kernel
theorem dX9_questions_178 : decode cX9_questions 178 = .ok (.iload_n 1, 1) := by decide +kernel
theorem dX9_questions_179 : decode cX9_questions 179 = .ok (.ishl, 1) := by decide +kernel
theorem dX9_questions_180 : decode cX9_questions 180 = .ok (.if_icmp .ge 21, 3) := by decide +kernel
theorem dX9_questions_183 : decode cX9_questions 183 = .ok (.aload_n 0, 1) := by decide +kernel
theorem dX9_questions_184 : decode cX9_questions 184 = .ok (.getfield 130, 3) := by decide +kernel
theorem dX9_questions_187 : decode cX9_questions 187 = .ok (.iload_n 3, 1) := by decide +kernel
theorem dX9_questions_188 : decode cX9_questions 188 = .ok (.aload_n 0, 1) := by decide +kernel
theorem dX9_questions_189 : decode cX9_questions 189 = .ok (.getfield 133, 3) := by decide +kernel
theorem dX9_questions_192 : decode cX9_questions 192 = .ok (.iload_n 3, 1) := by decide +kernel
theorem dX9_questions_193 : decode cX9_questions 193 = .ok (.baload, 1) := by decide +kernel
theorem dX9_questions_194 : decode cX9_questions 194 = .ok (.bastore, 1) := by decide +kernel
theorem dX9_questions_195 : decode cX9_questions 195 = .ok (.iinc 3 1, 3) := by decide +kernel
theorem dX9_questions_198 : decode cX9_questions 198 = .ok (.goto (-22), 3) := by decide +kernel
theorem dX9_questions_201 : decode cX9_questions 201 = .ok (.iinc 2 1, 3) := by decide +kernel
theorem dX9_questions_204 : decode cX9_questions 204 = .ok (.goto (-93), 3) := by decide +kernel
theorem dX9_questions_207 : decode cX9_questions 207 = .ok (.iconst (-1), 1) := by decide +kernel
theorem dX9_questions_208 : decode cX9_questions 208 = .ok (.ireturn, 1) := by decide +kernel
theorem dX9_settle_0 : decode cX9_settle 0 = .ok (.aload_n 0, 1) := by decide +kernel
theorem dX9_settle_1 : decode cX9_settle 1 = .ok (.iconst 0, 1) := by decide +kernel
theorem dX9_settle_2 : decode cX9_settle 2 = .ok (.putfield 142, 3) := by decide +kernel
theorem dX9_settle_5 : decode cX9_settle 5 = .ok (.aload_n 0, 1) := by decide +kernel
theorem dX9_settle_6 : decode cX9_settle 6 = .ok (.invokevirtual 182, 3) := by decide +kernel
theorem dX9_settle_9 : decode cX9_settle 9 = .ok (.ifCond .eq 19, 3) := by decide +kernel
theorem dX9_settle_12 : decode cX9_settle 12 = .ok (.aload_n 0, 1) := by decide +kernel
theorem dX9_settle_13 : decode cX9_settle 13 = .ok (.invokevirtual 171, 3) := by decide +kernel
theorem dX9_settle_16 : decode cX9_settle 16 = .ok (.ifCond .eq 12, 3) := by decide +kernel
theorem dX9_settle_19 : decode cX9_settle 19 = .ok (.iload_n 1, 1) := by decide +kernel
theorem dX9_settle_20 : decode cX9_settle 20 = .ok (.iconst 0, 1) := by decide +kernel
theorem dX9_settle_21 : decode cX9_settle 21 = .ok (.iconst 3, 1) := by decide +kernel
theorem dX9_settle_22 : decode cX9_settle 22 = .ok (.invokestatic 160, 3) := by decide +kernel
theorem dX9_settle_25 : decode cX9_settle 25 = .ok (.ifCond .ne 5, 3) := by decide +kernel
theorem dX9_settle_28 : decode cX9_settle 28 = .ok (.iconst (-1), 1) := by decide +kernel
theorem dX9_settle_29 : decode cX9_settle 29 = .ok (.ireturn, 1) := by decide +kernel
theorem dX9_settle_30 : decode cX9_settle 30 = .ok (.aload_n 0, 1) := by decide +kernel
theorem dX9_settle_31 : decode cX9_settle 31 = .ok (.invokevirtual 450, 3) := by decide +kernel
theorem dX9_settle_34 : decode cX9_settle 34 = .ok (.aload_n 0, 1) := by decide +kernel
theorem dX9_settle_35 : decode cX9_settle 35 = .ok (.getfield 447, 3) := by decide +kernel
theorem dX9_settle_38 : decode cX9_settle 38 = .ok (.ifCond .ne 5, 3) := by decide +kernel
theorem dX9_settle_41 : decode cX9_settle 41 = .ok (.iconst (-1), 1) := by decide +kernel
theorem dX9_settle_42 : decode cX9_settle 42 = .ok (.ireturn, 1) := by decide +kernel
theorem dX9_settle_43 : decode cX9_settle 43 = .ok (.iconst (-1), 1) := by decide +kernel
theorem dX9_settle_44 : decode cX9_settle 44 = .ok (.istore_n 2, 1) := by decide +kernel
theorem dX9_settle_45 : decode cX9_settle 45 = .ok (.iconst 0, 1) := by decide +kernel
theorem dX9_settle_46 : decode cX9_settle 46 = .ok (.istore_n 3, 1) := by decide +kernel
theorem dX9_settle_47 : decode cX9_settle 47 = .ok (.iconst 0, 1) := by decide +kernel
theorem dX9_settle_48 : decode cX9_settle 48 = .ok (.istore 4, 2) := by decide +kernel
theorem dX9_settle_50 : decode cX9_settle 50 = .ok (.iload 4, 2) := by decide +kernel
theorem dX9_settle_52 : decode cX9_settle 52 = .ok (.aload_n 0, 1) := by decide +kernel
theorem dX9_settle_53 : decode cX9_settle 53 = .ok (.invokevirtual 171, 3) := by decide +kernel
theorem dX9_settle_56 : decode cX9_settle 56 = .ok (.if_icmp .ge 66, 3) := by decide +kernel
theorem dX9_settle_59 : decode cX9_settle 59 = .ok (.iconst 2, 1) := by decide +kernel
theorem dX9_settle_60 : decode cX9_settle 60 = .ok (.aload_n 0, 1) := by decide +kernel
theorem dX9_settle_61 : decode cX9_settle 61 = .ok (.getfield 123, 3) := by decide +kernel
theorem dX9_settle_64 : decode cX9_settle 64 = .ok (.iload 4, 2) := by decide +kernel
theorem dX9_settle_66 : decode cX9_settle 66 = .ok (.iaload, 1) := by decide +kernel
theorem dX9_settle_67 : decode cX9_settle 67 = .ok (.imul, 1) := by decide +kernel
theorem dX9_settle_68 : decode cX9_settle 68 = .ok (.aload_n 0, 1) := by decide +kernel
theorem dX9_settle_69 : decode cX9_settle 69 = .ok (.getfield 447, 3) := by decide +kernel
theorem dX9_settle_72 : decode cX9_settle 72 = .ok (.if_icmp .le 13, 3) := by decide +kernel
theorem dX9_settle_75 : decode cX9_settle 75 = .ok (.aload_n 0, 1) := by decide +kernel
theorem dX9_settle_76 : decode cX9_settle 76 = .ok (.getfield 123, 3) := by decide +kernel
theorem dX9_settle_79 : decode cX9_settle 79 = .ok (.iload 4, 2) := by decide +kernel
theorem dX9_settle_81 : decode cX9_settle 81 = .ok (.iaload, 1) := by decide +kernel
theorem dX9_settle_82 : decode cX9_settle 82 = .ok (.goto 15, 3) := by decide +kernel
theorem dX9_settle_85 : decode cX9_settle 85 = .ok (.aload_n 0, 1) := by decide +kernel
theorem dX9_settle_86 : decode cX9_settle 86 = .ok (.getfield 447, 3) := by decide +kernel
theorem dX9_settle_89 : decode cX9_settle 89 = .ok (.aload_n 0, 1) := by decide +kernel
theorem dX9_settle_90 : decode cX9_settle 90 = .ok (.getfield 123, 3) := by decide +kernel
theorem dX9_settle_93 : decode cX9_settle 93 = .ok (.iload 4, 2) := by decide +kernel
theorem dX9_settle_95 : decode cX9_settle 95 = .ok (.iaload, 1) := by decide +kernel
theorem dX9_settle_96 : decode cX9_settle 96 = .ok (.isub, 1) := by decide +kernel
theorem dX9_settle_97 : decode cX9_settle 97 = .ok (.istore 5, 2) := by decide +kernel
theorem dX9_settle_99 : decode cX9_settle 99 = .ok (.iload_n 2, 1) := by decide +kernel
theorem dX9_settle_100 : decode cX9_settle 100 = .ok (.iconst (-1), 1) := by decide +kernel
theorem dX9_settle_101 : decode cX9_settle 101 = .ok (.if_icmp .eq 9, 3) := by decide +kernel
theorem dX9_settle_104 : decode cX9_settle 104 = .ok (.iload 5, 2) := by decide +kernel
theorem dX9_settle_106 : decode cX9_settle 106 = .ok (.iload_n 3, 1) := by decide +kernel
theorem dX9_settle_107 : decode cX9_settle 107 = .ok (.if_icmp .ge 9, 3) := by decide +kernel
theorem dX9_settle_110 : decode cX9_settle 110 = .ok (.iload 4, 2) := by decide +kernel
theorem dX9_settle_112 : decode cX9_settle 112 = .ok (.istore_n 2, 1) := by decide +kernel
theorem dX9_settle_113 : decode cX9_settle 113 = .ok (.iload 5, 2) := by decide +kernel
theorem dX9_settle_115 : decode cX9_settle 115 = .ok (.istore_n 3, 1) := by decide +kernel
theorem dX9_settle_116 : decode cX9_settle 116 = .ok (.iinc 4 1, 3) := by decide +kernel
theorem dX9_settle_119 : decode cX9_settle 119 = .ok (.goto (-69), 3) := by decide +kernel
theorem dX9_settle_122 : decode cX9_settle 122 = .ok (.iconst 0, 1) := by decide +kernel
theorem dX9_settle_123 : decode cX9_settle 123 = .ok (.istore 4, 2) := by decide +kernel
theorem dX9_settle_125 : decode cX9_settle 125 = .ok (.aload_n 0, 1) := by decide +kernel
theorem dX9_settle_126 : decode cX9_settle 126 = .ok (.getfield 90, 3) := by decide +kernel
theorem dX9_settle_129 : decode cX9_settle 129 = .ok (.iload 4, 2) := by decide +kernel
theorem dX9_settle_131 : decode cX9_settle 131 = .ok (.iconst 1, 1) := by decide +kernel
theorem dX9_settle_132 : decode cX9_settle 132 = .ok (.iadd, 1) := by decide +kernel
theorem dX9_settle_133 : decode cX9_settle 133 = .ok (.iaload, 1) := by decide +kernel
theorem dX9_settle_134 : decode cX9_settle 134 = .ok (.iload_n 2, 1) := by decide +kernel
theorem dX9_settle_135 : decode cX9_settle 135 = .ok (.if_icmp .gt 9, 3) := by decide +kernel
theorem dX9_settle_138 : decode cX9_settle 138 = .ok (.iinc 4 1, 3) := by decide +kernel
theorem dX9_settle_141 : decode cX9_settle 141 = .ok (.goto (-16), 3) := by decide +kernel
theorem dX9_settle_144 : decode cX9_settle 144 = .ok (.aload_n 0, 1) := by decide +kernel
theorem dX9_settle_145 : decode cX9_settle 145 = .ok (.aload_n 0, 1) := by decide +kernel
theorem dX9_settle_146 : decode cX9_settle 146 = .ok (.getfield 38, 3) := by decide +kernel
theorem dX9_settle_149 : decode cX9_settle 149 = .ok (.iload 4, 2) := by decide +kernel
theorem dX9_settle_151 : decode cX9_settle 151 = .ok (.iaload, 1) := by decide +kernel
theorem dX9_settle_152 : decode cX9_settle 152 = .ok (.invokevirtual 150, 3) := by decide +kernel
theorem dX9_settle_155 : decode cX9_settle 155 = .ok (.istore 5, 2) := by decide +kernel
theorem dX9_settle_157 : decode cX9_settle 157 = .ok (.iload_n 1, 1) := by decide +kernel
theorem dX9_settle_158 : decode cX9_settle 158 = .ok (.ifCond .ne 8, 3) := by decide +kernel
theorem dX9_settle_161 : decode cX9_settle 161 = .ok (.iload 4, 2) := by decide +kernel
theorem dX9_settle_163 : decode cX9_settle 163 = .ok (.goto 59, 3) := by decide +kernel
theorem dX9_settle_166 : decode cX9_settle 166 = .ok (.iload_n 1, 1) := by decide +kernel
theorem dX9_settle_167 : decode cX9_settle 167 = .ok (.iconst 1, 1) := by decide +kernel
theorem dX9_settle_168 : decode cX9_settle 168 = .ok (.if_icmp .ne 18, 3) := by decide +kernel
theorem dX9_settle_171 : decode cX9_settle 171 = .ok (.iload_n 2, 1) := by decide +kernel
theorem dX9_settle_172 : decode cX9_settle 172 = .ok (.aload_n 0, 1) := by decide +kernel
theorem dX9_settle_173 : decode cX9_settle 173 = .ok (.getfield 90, 3) := by decide +kernel
theorem dX9_settle_176 : decode cX9_settle 176 = .ok (.iload 4, 2) := by decide +kernel
theorem dX9_settle_178 : decode cX9_settle 178 = .ok (.iaload, 1) := by decide +kernel
theorem dX9_settle_179 : decode cX9_settle 179 = .ok (.isub, 1) := by decide +kernel
theorem dX9_settle_180 : decode cX9_settle 180 = .ok (.iload 5, 2) := by decide +kernel
theorem dX9_settle_182 : decode cX9_settle 182 = .ok (.idiv, 1) := by decide +kernel
theorem dX9_settle_183 : decode cX9_settle 183 = .ok (.goto 39, 3) := by decide +kernel
theorem dX9_settle_186 : decode cX9_settle 186 = .ok (.iload_n 1, 1) := by decide +kernel
theorem dX9_settle_187 : decode cX9_settle 187 = .ok (.iconst 3, 1) := by decide +kernel
theorem dX9_settle_188 : decode cX9_settle 188 = .ok (.if_icmp .ne 7, 3) := by decide +kernel
theorem dX9_settle_191 : decode cX9_settle 191 = .ok (.iload_n 3, 1) := by decide +kernel
theorem dX9_settle_192 : decode cX9_settle 192 = .ok (.goto 30, 3) := by decide +kernel
theorem dX9_settle_195 : decode cX9_settle 195 = .ok (.aload_n 0, 1) := by decide +kernel
theorem dX9_settle_196 : decode cX9_settle 196 = .ok (.getfield 38, 3) := by decide +kernel
theorem dX9_settle_199 : decode cX9_settle 199 = .ok (.iload 4, 2) := by decide +kernel
theorem dX9_settle_201 : decode cX9_settle 201 = .ok (.iaload, 1) := by decide +kernel
theorem dX9_settle_202 : decode cX9_settle 202 = .ok (.iconst (-1), 1) := by decide +kernel
theorem dX9_settle_203 : decode cX9_settle 203 = .ok (.if_icmp .ne 7, 3) := by decide +kernel
theorem dX9_settle_206 : decode cX9_settle 206 = .ok (.iconst (-1), 1) := by decide +kernel
theorem dX9_settle_207 : decode cX9_settle 207 = .ok (.goto 15, 3) := by decide +kernel
theorem dX9_settle_210 : decode cX9_settle 210 = .ok (.iload_n 2, 1) := by decide +kernel
theorem dX9_settle_211 : decode cX9_settle 211 = .ok (.aload_n 0, 1) := by decide +kernel
theorem dX9_settle_212 : decode cX9_settle 212 = .ok (.getfield 90, 3) := by decide +kernel
theorem dX9_settle_215 : decode cX9_settle 215 = .ok (.iload 4, 2) := by decide +kernel
theorem dX9_settle_217 : decode cX9_settle 217 = .ok (.iaload, 1) := by decide +kernel
theorem dX9_settle_218 : decode cX9_settle 218 = .ok (.isub, 1) := by decide +kernel
theorem dX9_settle_219 : decode cX9_settle 219 = .ok (.iload 5, 2) := by decide +kernel
theorem dX9_settle_221 : decode cX9_settle 221 = .ok (.irem, 1) := by decide +kernel
theorem dX9_settle_222 : decode cX9_settle 222 = .ok (.ireturn, 1) := by decide +kernel
theorem dX9_near_0 : decode cX9_near 0 = .ok (.aload_n 0, 1) := by decide +kernel
theorem dX9_near_1 : decode cX9_near 1 = .ok (.iconst 0, 1) := by decide +kernel
theorem dX9_near_2 : decode cX9_near 2 = .ok (.putfield 142, 3) := by decide +kernel
theorem dX9_near_5 : decode cX9_near 5 = .ok (.aload_n 0, 1) := by decide +kernel
theorem dX9_near_6 : decode cX9_near 6 = .ok (.invokevirtual 182, 3) := by decide +kernel
theorem dX9_near_9 : decode cX9_near 9 = .ok (.ifCond .ne 5, 3) := by decide +kernel
theorem dX9_near_12 : decode cX9_near 12 = .ok (.iconst (-1), 1) := by decide +kernel
theorem dX9_near_13 : decode cX9_near 13 = .ok (.ireturn, 1) := by decide +kernel
theorem dX9_near_14 : decode cX9_near 14 = .ok (.aload_n 0, 1) := by decide +kernel
theorem dX9_near_15 : decode cX9_near 15 = .ok (.invokevirtual 410, 3) := by decide +kernel
theorem dX9_near_18 : decode cX9_near 18 = .ok (.iconst (-1), 1) := by decide +kernel
theorem dX9_near_19 : decode cX9_near 19 = .ok (.istore_n 1, 1) := by decide +kernel
theorem dX9_near_20 : decode cX9_near 20 = .ok (.iconst 0, 1) := by decide +kernel
theorem dX9_near_21 : decode cX9_near 21 = .ok (.istore_n 2, 1) := by decide +kernel
theorem dX9_near_22 : decode cX9_near 22 = .ok (.iconst 0, 1) := by decide +kernel
theorem dX9_near_23 : decode cX9_near 23 = .ok (.istore_n 3, 1) := by decide +kernel
theorem dX9_near_24 : decode cX9_near 24 = .ok (.iload_n 3, 1) := by decide +kernel
theorem dX9_near_25 : decode cX9_near 25 = .ok (.iconst 1, 1) := by decide +kernel
theorem dX9_near_26 : decode cX9_near 26 = .ok (.aload_n 0, 1) := by decide +kernel
theorem dX9_near_27 : decode cX9_near 27 = .ok (.invokevirtual 171, 3) := by decide +kernel
theorem dX9_near_30 : decode cX9_near 30 = .ok (.ishl, 1) := by decide +kernel
theorem dX9_near_31 : decode cX9_near 31 = .ok (.if_icmp .ge 84, 3) := by decide +kernel
theorem dX9_near_34 : decode cX9_near 34 = .ok (.aload_n 0, 1) := by decide +kernel
theorem dX9_near_35 : decode cX9_near 35 = .ok (.iload_n 3, 1) := by decide +kernel
theorem dX9_near_36 : decode cX9_near 36 = .ok (.invokevirtual 404, 3) := by decide +kernel
theorem dX9_near_39 : decode cX9_near 39 = .ok (.ifCond .ne 6, 3) := by decide +kernel
theorem dX9_near_42 : decode cX9_near 42 = .ok (.goto 67, 3) := by decide +kernel
theorem dX9_near_45 : decode cX9_near 45 = .ok (.iconst 0, 1) := by decide +kernel
theorem dX9_near_46 : decode cX9_near 46 = .ok (.istore 4, 2) := by decide +kernel
theorem dX9_near_48 : decode cX9_near 48 = .ok (.iconst 0, 1) := by decide +kernel
theorem dX9_near_49 : decode cX9_near 49 = .ok (.istore 5, 2) := by decide +kernel
theorem dX9_near_51 : decode cX9_near 51 = .ok (.iload 5, 2) := by decide +kernel
theorem dX9_near_53 : decode cX9_near 53 = .ok (.aload_n 0, 1) := by decide +kernel
theorem dX9_near_54 : decode cX9_near 54 = .ok (.invokevirtual 171, 3) := by decide +kernel
theorem dX9_near_57 : decode cX9_near 57 = .ok (.if_icmp .ge 36, 3) := by decide +kernel
theorem dX9_near_60 : decode cX9_near 60 = .ok (.iload 4, 2) := by decide +kernel
theorem dX9_near_62 : decode cX9_near 62 = .ok (.aload_n 0, 1) := by decide +kernel
theorem dX9_near_63 : decode cX9_near 63 = .ok (.getfield 93, 3) := by decide +kernel
theorem dX9_near_66 : decode cX9_near 66 = .ok (.iload 5, 2) := by decide +kernel
theorem dX9_near_68 : decode cX9_near 68 = .ok (.baload, 1) := by decide +kernel
theorem dX9_near_69 : decode cX9_near 69 = .ok (.aload_n 0, 1) := by decide +kernel
theorem dX9_near_70 : decode cX9_near 70 = .ok (.getfield 41, 3) := by decide +kernel
theorem dX9_near_73 : decode cX9_near 73 = .ok (.iload 5, 2) := by decide +kernel
theorem dX9_near_75 : decode cX9_near 75 = .ok (.baload, 1) := by decide +kernel
theorem dX9_near_76 : decode cX9_near 76 = .ok (.if_icmp .eq 7, 3) := by decide +kernel
theorem dX9_near_79 : decode cX9_near 79 = .ok (.iconst 1, 1) := by decide +kernel
theorem dX9_near_80 : decode cX9_near 80 = .ok (.goto 4, 3) := by decide +kernel
theorem dX9_near_83 : decode cX9_near 83 = .ok (.iconst 0, 1) := by decide +kernel
theorem dX9_near_84 : decode cX9_near 84 = .ok (.iadd, 1) := by decide +kernel
theorem dX9_near_85 : decode cX9_near 85 = .ok (.istore 4, 2) := by decide +kernel
theorem dX9_near_87 : decode cX9_near 87 = .ok (.iinc 5 1, 3) := by decide +kernel
theorem dX9_near_90 : decode cX9_near 90 = .ok (.goto (-39), 3) := by decide +kernel
theorem dX9_near_93 : decode cX9_near 93 = .ok (.iload_n 1, 1) := by decide +kernel
theorem dX9_near_94 : decode cX9_near 94 = .ok (.iconst (-1), 1) := by decide +kernel
theorem dX9_near_95 : decode cX9_near 95 = .ok (.if_icmp .eq 9, 3) := by decide +kernel
theorem dX9_near_98 : decode cX9_near 98 = .ok (.iload 4, 2) := by decide +kernel
theorem dX9_near_100 : decode cX9_near 100 = .ok (.iload_n 2, 1) := by decide +kernel
theorem dX9_near_101 : decode cX9_near 101 = .ok (.if_icmp .ge 8, 3) := by decide +kernel
theorem dX9_near_104 : decode cX9_near 104 = .ok (.iload_n 3, 1) := by decide +kernel
theorem dX9_near_105 : decode cX9_near 105 = .ok (.istore_n 1, 1) := by decide +kernel
theorem dX9_near_106 : decode cX9_near 106 = .ok (.iload 4, 2) := by decide +kernel
theorem dX9_near_108 : decode cX9_near 108 = .ok (.istore_n 2, 1) := by decide +kernel
theorem dX9_near_109 : decode cX9_near 109 = .ok (.iinc 3 1, 3) := by decide +kernel
theorem dX9_near_112 : decode cX9_near 112 = .ok (.goto (-88), 3) := by decide +kernel
theorem dX9_near_115 : decode cX9_near 115 = .ok (.iload_n 1, 1) := by decide +kernel
theorem dX9_near_116 : decode cX9_near 116 = .ok (.iconst (-1), 1) := by decide +kernel
theorem dX9_near_117 : decode cX9_near 117 = .ok (.if_icmp .ne 5, 3) := by decide +kernel
theorem dX9_near_120 : decode cX9_near 120 = .ok (.iconst (-1), 1) := by decide +kernel
theorem dX9_near_121 : decode cX9_near 121 = .ok (.ireturn, 1) := by decide +kernel
theorem dX9_near_122 : decode cX9_near 122 = .ok (.aload_n 0, 1) := by decide +kernel
theorem dX9_near_123 : decode cX9_near 123 = .ok (.iload_n 1, 1) := by decide +kernel
theorem dX9_near_124 : decode cX9_near 124 = .ok (.invokevirtual 416, 3) := by decide +kernel
theorem dX9_near_127 : decode cX9_near 127 = .ok (.iload_n 2, 1) := by decide +kernel
theorem dX9_near_128 : decode cX9_near 128 = .ok (.ireturn, 1) := by decide +kernel
theorem dX9_holds_0 : decode cX9_holds 0 = .ok (.aload_n 0, 1) := by decide +kernel
theorem dX9_holds_1 : decode cX9_holds 1 = .ok (.iconst 0, 1) := by decide +kernel
theorem dX9_holds_2 : decode cX9_holds 2 = .ok (.putfield 142, 3) := by decide +kernel
theorem dX9_holds_5 : decode cX9_holds 5 = .ok (.aload_n 0, 1) := by decide +kernel
theorem dX9_holds_6 : decode cX9_holds 6 = .ok (.getfield 54, 3) := by decide +kernel
theorem dX9_holds_9 : decode cX9_holds 9 = .ok (.bipush 8, 2) := by decide +kernel
theorem dX9_holds_11 : decode cX9_holds 11 = .ok (.iaload, 1) := by decide +kernel
theorem dX9_holds_12 : decode cX9_holds 12 = .ok (.ifCond .eq 19, 3) := by decide +kernel
theorem dX9_holds_15 : decode cX9_holds 15 = .ok (.aload_n 0, 1) := by decide +kernel
theorem dX9_holds_16 : decode cX9_holds 16 = .ok (.invokevirtual 182, 3) := by decide +kernel
theorem dX9_holds_19 : decode cX9_holds 19 = .ok (.ifCond .eq 12, 3) := by decide +kernel
theorem dX9_holds_22 : decode cX9_holds 22 = .ok (.iload_n 1, 1) := by decide +kernel
theorem dX9_holds_23 : decode cX9_holds 23 = .ok (.iconst 0, 1) := by decide +kernel
theorem dX9_holds_24 : decode cX9_holds 24 = .ok (.iconst 1, 1) := by decide +kernel
theorem dX9_holds_25 : decode cX9_holds 25 = .ok (.invokestatic 160, 3) := by decide +kernel
theorem dX9_holds_28 : decode cX9_holds 28 = .ok (.ifCond .ne 5, 3) := by decide +kernel
theorem dX9_holds_31 : decode cX9_holds 31 = .ok (.iconst (-1), 1) := by decide +kernel
theorem dX9_holds_32 : decode cX9_holds 32 = .ok (.ireturn, 1) := by decide +kernel
theorem dX9_holds_33 : decode cX9_holds 33 = .ok (.aload_n 0, 1) := by decide +kernel
theorem dX9_holds_34 : decode cX9_holds 34 = .ok (.invokevirtual 410, 3) := by decide +kernel
theorem dX9_holds_37 : decode cX9_holds 37 = .ok (.iconst 0, 1) := by decide +kernel
theorem dX9_holds_38 : decode cX9_holds 38 = .ok (.istore_n 2, 1) := by decide +kernel
theorem dX9_holds_39 : decode cX9_holds 39 = .ok (.iconst 0, 1) := by decide +kernel
theorem dX9_holds_40 : decode cX9_holds 40 = .ok (.istore_n 3, 1) := by decide +kernel
theorem dX9_holds_41 : decode cX9_holds 41 = .ok (.iload_n 3, 1) := by decide +kernel
theorem dX9_holds_42 : decode cX9_holds 42 = .ok (.iconst 1, 1) := by decide +kernel
theorem dX9_holds_43 : decode cX9_holds 43 = .ok (.aload_n 0, 1) := by decide +kernel
theorem dX9_holds_44 : decode cX9_holds 44 = .ok (.invokevirtual 171, 3) := by decide +kernel
theorem dX9_holds_47 : decode cX9_holds 47 = .ok (.ishl, 1) := by decide +kernel
theorem dX9_holds_48 : decode cX9_holds 48 = .ok (.if_icmp .ge 49, 3) := by decide +kernel
theorem dX9_holds_51 : decode cX9_holds 51 = .ok (.iload_n 2, 1) := by decide +kernel
theorem dX9_holds_52 : decode cX9_holds 52 = .ok (.iload_n 1, 1) := by decide +kernel
theorem dX9_holds_53 : decode cX9_holds 53 = .ok (.ifCond .ne 14, 3) := by decide +kernel
theorem dX9_holds_56 : decode cX9_holds 56 = .ok (.aload_n 0, 1) := by decide +kernel
theorem dX9_holds_57 : decode cX9_holds 57 = .ok (.iload_n 3, 1) := by decide +kernel
theorem dX9_holds_58 : decode cX9_holds 58 = .ok (.invokevirtual 404, 3) := by decide +kernel
theorem dX9_holds_61 : decode cX9_holds 61 = .ok (.ifCond .eq 27, 3) := by decide +kernel
theorem dX9_holds_64 : decode cX9_holds 64 = .ok (.goto 11, 3) := by decide +kernel
theorem dX9_holds_67 : decode cX9_holds 67 = .ok (.aload_n 0, 1) := by decide +kernel
theorem dX9_holds_68 : decode cX9_holds 68 = .ok (.iload_n 3, 1) := by decide +kernel
theorem dX9_holds_69 : decode cX9_holds 69 = .ok (.invokevirtual 413, 3) := by decide +kernel
theorem dX9_holds_72 : decode cX9_holds 72 = .ok (.ifCond .eq 16, 3) := by decide +kernel
theorem dX9_holds_75 : decode cX9_holds 75 = .ok (.aload_n 0, 1) := by decide +kernel
theorem dX9_holds_76 : decode cX9_holds 76 = .ok (.bipush 8, 2) := by decide +kernel
theorem dX9_holds_78 : decode cX9_holds 78 = .ok (.invokevirtual 371, 3) := by decide +kernel
theorem dX9_holds_81 : decode cX9_holds 81 = .ok (.ifCond .eq 7, 3) := by decide +kernel
theorem dX9_holds_84 : decode cX9_holds 84 = .ok (.iconst 1, 1) := by decide +kernel
theorem dX9_holds_85 : decode cX9_holds 85 = .ok (.goto 4, 3) := by decide +kernel
theorem dX9_holds_88 : decode cX9_holds 88 = .ok (.iconst 0, 1) := by decide +kernel
theorem dX9_holds_89 : decode cX9_holds 89 = .ok (.iadd, 1) := by decide +kernel
theorem dX9_holds_90 : decode cX9_holds 90 = .ok (.istore_n 2, 1) := by decide +kernel
theorem dX9_holds_91 : decode cX9_holds 91 = .ok (.iinc 3 1, 3) := by decide +kernel
theorem dX9_holds_94 : decode cX9_holds 94 = .ok (.goto (-53), 3) := by decide +kernel
theorem dX9_holds_97 : decode cX9_holds 97 = .ok (.iload_n 2, 1) := by decide +kernel
theorem dX9_holds_98 : decode cX9_holds 98 = .ok (.ireturn, 1) := by decide +kernel
theorem dX9_against_0 : decode cX9_against 0 = .ok (.aload_n 0, 1) := by decide +kernel
theorem dX9_against_1 : decode cX9_against 1 = .ok (.iconst 0, 1) := by decide +kernel
theorem dX9_against_2 : decode cX9_against 2 = .ok (.putfield 142, 3) := by decide +kernel
theorem dX9_against_5 : decode cX9_against 5 = .ok (.aload_n 0, 1) := by decide +kernel
theorem dX9_against_6 : decode cX9_against 6 = .ok (.getfield 54, 3) := by decide +kernel
theorem dX9_against_9 : decode cX9_against 9 = .ok (.bipush 8, 2) := by decide +kernel
theorem dX9_against_11 : decode cX9_against 11 = .ok (.iaload, 1) := by decide +kernel
theorem dX9_against_12 : decode cX9_against 12 = .ok (.ifCond .eq 10, 3) := by decide +kernel
theorem dX9_against_15 : decode cX9_against 15 = .ok (.aload_n 0, 1) := by decide +kernel
theorem dX9_against_16 : decode cX9_against 16 = .ok (.invokevirtual 182, 3) := by decide +kernel
theorem dX9_against_19 : decode cX9_against 19 = .ok (.ifCond .ne 5, 3) := by decide +kernel
theorem dX9_against_22 : decode cX9_against 22 = .ok (.iconst 0, 1) := by decide +kernel
theorem dX9_against_23 : decode cX9_against 23 = .ok (.ireturn, 1) := by decide +kernel
theorem dX9_against_24 : decode cX9_against 24 = .ok (.aload_n 0, 1) := by decide +kernel
theorem dX9_against_25 : decode cX9_against 25 = .ok (.invokevirtual 410, 3) := by decide +kernel
theorem dX9_against_28 : decode cX9_against 28 = .ok (.iconst 0, 1) := by decide +kernel
theorem dX9_against_29 : decode cX9_against 29 = .ok (.istore_n 1, 1) := by decide +kernel
theorem dX9_against_30 : decode cX9_against 30 = .ok (.iload_n 1, 1) := by decide +kernel
theorem dX9_against_31 : decode cX9_against 31 = .ok (.iconst 1, 1) := by decide +kernel
theorem dX9_against_32 : decode cX9_against 32 = .ok (.aload_n 0, 1) := by decide +kernel
theorem dX9_against_33 : decode cX9_against 33 = .ok (.invokevirtual 171, 3) := by decide +kernel
theorem dX9_against_36 : decode cX9_against 36 = .ok (.ishl, 1) := by decide +kernel
theorem dX9_against_37 : decode cX9_against 37 = .ok (.if_icmp .ge 33, 3) := by decide +kernel
theorem dX9_against_40 : decode cX9_against 40 = .ok (.aload_n 0, 1) := by decide +kernel
theorem dX9_against_41 : decode cX9_against 41 = .ok (.iload_n 1, 1) := by decide +kernel
theorem dX9_against_42 : decode cX9_against 42 = .ok (.invokevirtual 413, 3) := by decide +kernel
theorem dX9_against_45 : decode cX9_against 45 = .ok (.ifCond .eq 19, 3) := by decide +kernel
theorem dX9_against_48 : decode cX9_against 48 = .ok (.aload_n 0, 1) := by decide +kernel
theorem dX9_against_49 : decode cX9_against 49 = .ok (.bipush 8, 2) := by decide +kernel
theorem dX9_against_51 : decode cX9_against 51 = .ok (.invokevirtual 371, 3) := by decide +kernel
theorem dX9_against_54 : decode cX9_against 54 = .ok (.ifCond .ne 10, 3) := by decide +kernel
theorem dX9_against_57 : decode cX9_against 57 = .ok (.aload_n 0, 1) := by decide +kernel
theorem dX9_against_58 : decode cX9_against 58 = .ok (.iload_n 1, 1) := by decide +kernel
theorem dX9_against_59 : decode cX9_against 59 = .ok (.invokevirtual 416, 3) := by decide +kernel
theorem dX9_against_62 : decode cX9_against 62 = .ok (.iconst 1, 1) := by decide +kernel
theorem dX9_against_63 : decode cX9_against 63 = .ok (.ireturn, 1) := by decide +kernel
theorem dX9_against_64 : decode cX9_against 64 = .ok (.iinc 1 1, 3) := by decide +kernel
theorem dX9_against_67 : decode cX9_against 67 = .ok (.goto (-37), 3) := by decide +kernel
theorem dX9_against_70 : decode cX9_against 70 = .ok (.iconst 0, 1) := by decide +kernel
theorem dX9_against_71 : decode cX9_against 71 = .ok (.ireturn, 1) := by decide +kernel
theorem dX9_many_0 : decode cX9_many 0 = .ok (.aload_n 0, 1) := by decide +kernel
theorem dX9_many_1 : decode cX9_many 1 = .ok (.iconst 0, 1) := by decide +kernel
theorem dX9_many_2 : decode cX9_many 2 = .ok (.putfield 142, 3) := by decide +kernel
theorem dX9_many_5 : decode cX9_many 5 = .ok (.iconst 0, 1) := by decide +kernel
theorem dX9_many_6 : decode cX9_many 6 = .ok (.istore_n 2, 1) := by decide +kernel
theorem dX9_many_7 : decode cX9_many 7 = .ok (.iload_n 1, 1) := by decide +kernel
theorem dX9_many_8 : decode cX9_many 8 = .ok (.tableswitch 148 0 10 #[60, 60, 60, 67, 74, 81, 88, 95, 100, 133, 141], 60) := by decide +kernel
theorem dX9_many_68 : decode cX9_many 68 = .ok (.aload_n 0, 1) := by decide +kernel
theorem dX9_many_69 : decode cX9_many 69 = .ok (.getfield 29, 3) := by decide +kernel
theorem dX9_many_72 : decode cX9_many 72 = .ok (.iload_n 1, 1) := by decide +kernel
theorem dX9_many_73 : decode cX9_many 73 = .ok (.iaload, 1) := by decide +kernel
theorem dX9_many_74 : decode cX9_many 74 = .ok (.ireturn, 1) := by decide +kernel
theorem dX9_many_75 : decode cX9_many 75 = .ok (.aload_n 0, 1) := by decide +kernel
theorem dX9_many_76 : decode cX9_many 76 = .ok (.getfield 32, 3) := by decide +kernel
theorem dX9_many_79 : decode cX9_many 79 = .ok (.iconst 0, 1) := by decide +kernel
theorem dX9_many_80 : decode cX9_many 80 = .ok (.iaload, 1) := by decide +kernel
theorem dX9_many_81 : decode cX9_many 81 = .ok (.ireturn, 1) := by decide +kernel
theorem dX9_many_82 : decode cX9_many 82 = .ok (.aload_n 0, 1) := by decide +kernel
theorem dX9_many_83 : decode cX9_many 83 = .ok (.getfield 45, 3) := by decide +kernel
theorem dX9_many_86 : decode cX9_many 86 = .ok (.iconst 0, 1) := by decide +kernel
theorem dX9_many_87 : decode cX9_many 87 = .ok (.iaload, 1) := by decide +kernel
theorem dX9_many_88 : decode cX9_many 88 = .ok (.ireturn, 1) := by decide +kernel
theorem dX9_many_89 : decode cX9_many 89 = .ok (.aload_n 0, 1) := by decide +kernel
theorem dX9_many_90 : decode cX9_many 90 = .ok (.getfield 23, 3) := by decide +kernel
theorem dX9_many_93 : decode cX9_many 93 = .ok (.iconst 0, 1) := by decide +kernel
theorem dX9_many_94 : decode cX9_many 94 = .ok (.iaload, 1) := by decide +kernel
theorem dX9_many_95 : decode cX9_many 95 = .ok (.ireturn, 1) := by decide +kernel
theorem dX9_many_96 : decode cX9_many 96 = .ok (.aload_n 0, 1) := by decide +kernel
theorem dX9_many_97 : decode cX9_many 97 = .ok (.getfield 26, 3) := by decide +kernel
theorem dX9_many_100 : decode cX9_many 100 = .ok (.iconst 0, 1) := by decide +kernel
theorem dX9_many_101 : decode cX9_many 101 = .ok (.iaload, 1) := by decide +kernel
theorem dX9_many_102 : decode cX9_many 102 = .ok (.ireturn, 1) := by decide +kernel
theorem dX9_many_103 : decode cX9_many 103 = .ok (.aload_n 0, 1) := by decide +kernel
theorem dX9_many_104 : decode cX9_many 104 = .ok (.invokevirtual 380, 3) := by decide +kernel
theorem dX9_many_107 : decode cX9_many 107 = .ok (.ireturn, 1) := by decide +kernel
theorem dX9_many_108 : decode cX9_many 108 = .ok (.iconst 0, 1) := by decide +kernel
theorem dX9_many_109 : decode cX9_many 109 = .ok (.istore_n 3, 1) := by decide +kernel
theorem dX9_many_110 : decode cX9_many 110 = .ok (.iload_n 3, 1) := by decide +kernel
theorem dX9_many_111 : decode cX9_many 111 = .ok (.bipush 36, 2) := by decide +kernel
theorem dX9_many_113 : decode cX9_many 113 = .ok (.if_icmp .ge 26, 3) := by decide +kernel
theorem dX9_many_116 : decode cX9_many 116 = .ok (.iload_n 2, 1) := by decide +kernel
theorem dX9_many_117 : decode cX9_many 117 = .ok (.aload_n 0, 1) := by decide +kernel
theorem dX9_many_118 : decode cX9_many 118 = .ok (.getfield 41, 3) := by decide +kernel
theorem dX9_many_121 : decode cX9_many 121 = .ok (.iload_n 3, 1) := by decide +kernel
theorem dX9_many_122 : decode cX9_many 122 = .ok (.baload, 1) := by decide +kernel
theorem dX9_many_123 : decode cX9_many 123 = .ok (.ifCond .eq 7, 3) := by decide +kernel
theorem dX9_many_126 : decode cX9_many 126 = .ok (.iconst 1, 1) := by decide +kernel
theorem dX9_many_127 : decode cX9_many 127 = .ok (.goto 4, 3) := by decide +kernel
theorem dX9_many_130 : decode cX9_many 130 = .ok (.iconst 0, 1) := by decide +kernel
theorem dX9_many_131 : decode cX9_many 131 = .ok (.iadd, 1) := by decide +kernel
theorem dX9_many_132 : decode cX9_many 132 = .ok (.istore_n 2, 1) := by decide +kernel
theorem dX9_many_133 : decode cX9_many 133 = .ok (.iinc 3 1, 3) := by decide +kernel
theorem dX9_many_136 : decode cX9_many 136 = .ok (.goto (-26), 3) := by decide +kernel
theorem dX9_many_139 : decode cX9_many 139 = .ok (.iload_n 2, 1) := by decide +kernel
theorem dX9_many_140 : decode cX9_many 140 = .ok (.ireturn, 1) := by decide +kernel
theorem dX9_many_141 : decode cX9_many 141 = .ok (.aload_n 0, 1) := by decide +kernel
theorem dX9_many_142 : decode cX9_many 142 = .ok (.getfield 54, 3) := by decide +kernel
theorem dX9_many_145 : decode cX9_many 145 = .ok (.bipush 8, 2) := by decide +kernel
theorem dX9_many_147 : decode cX9_many 147 = .ok (.iaload, 1) := by decide +kernel
theorem dX9_many_148 : decode cX9_many 148 = .ok (.ireturn, 1) := by decide +kernel
theorem dX9_many_149 : decode cX9_many 149 = .ok (.aload_n 0, 1) := by decide +kernel
theorem dX9_many_150 : decode cX9_many 150 = .ok (.getfield 69, 3) := by decide +kernel
theorem dX9_many_153 : decode cX9_many 153 = .ok (.iconst 0, 1) := by decide +kernel
theorem dX9_many_154 : decode cX9_many 154 = .ok (.iaload, 1) := by decide +kernel
theorem dX9_many_155 : decode cX9_many 155 = .ok (.ireturn, 1) := by decide +kernel
theorem dX9_many_156 : decode cX9_many 156 = .ok (.bipush (-2), 2) := by decide +kernel
theorem dX9_many_158 : decode cX9_many 158 = .ok (.ireturn, 1) := by decide +kernel
theorem dX9_image_0 : decode cX9_image 0 = .ok (.aload_n 0, 1) := by decide +kernel
theorem dX9_image_1 : decode cX9_image 1 = .ok (.iconst 0, 1) := by decide +kernel
theorem dX9_image_2 : decode cX9_image 2 = .ok (.putfield 142, 3) := by decide +kernel
theorem dX9_image_5 : decode cX9_image 5 = .ok (.iload_n 1, 1) := by decide +kernel
theorem dX9_image_6 : decode cX9_image 6 = .ok (.iconst 0, 1) := by decide +kernel
theorem dX9_image_7 : decode cX9_image 7 = .ok (.iconst 2, 1) := by decide +kernel
theorem dX9_image_8 : decode cX9_image 8 = .ok (.invokestatic 160, 3) := by decide +kernel
theorem dX9_image_11 : decode cX9_image 11 = .ok (.ifCond .ne 5, 3) := by decide +kernel
theorem dX9_image_14 : decode cX9_image 14 = .ok (.iconst 0, 1) := by decide +kernel
theorem dX9_image_15 : decode cX9_image 15 = .ok (.ireturn, 1) := by decide +kernel
theorem dX9_image_16 : decode cX9_image 16 = .ok (.aload_n 0, 1) := by decide +kernel
theorem dX9_image_17 : decode cX9_image 17 = .ok (.iconst 0, 1) := by decide +kernel
theorem dX9_image_18 : decode cX9_image 18 = .ok (.iload_n 1, 1) := by decide +kernel
theorem dX9_image_19 : decode cX9_image 19 = .ok (.iconst 1, 1) := by decide +kernel
theorem dX9_image_20 : decode cX9_image 20 = .ok (.iadd, 1) := by decide +kernel
theorem dX9_image_21 : decode cX9_image 21 = .ok (.invokevirtual 459, 3) := by decide +kernel
theorem dX9_image_24 : decode cX9_image 24 = .ok (.aload_n 0, 1) := by decide +kernel
theorem dX9_image_25 : decode cX9_image 25 = .ok (.getfield 139, 3) := by decide +kernel
theorem dX9_image_28 : decode cX9_image 28 = .ok (.iload_n 1, 1) := by decide +kernel
theorem dX9_image_29 : decode cX9_image 29 = .ok (.iconst 1, 1) := by decide +kernel
theorem dX9_image_30 : decode cX9_image 30 = .ok (.bastore, 1) := by decide +kernel
theorem dX9_image_31 : decode cX9_image 31 = .ok (.iconst 1, 1) := by decide +kernel
theorem dX9_image_32 : decode cX9_image 32 = .ok (.ireturn, 1) := by decide +kernel
theorem dX9_again_0 : decode cX9_again 0 = .ok (.aload_n 0, 1) := by decide +kernel
theorem dX9_again_1 : decode cX9_again 1 = .ok (.iconst 0, 1) := by decide +kernel
theorem dX9_again_2 : decode cX9_again 2 = .ok (.putfield 142, 3) := by decide +kernel
theorem dX9_again_5 : decode cX9_again 5 = .ok (.iload_n 1, 1) := by decide +kernel
theorem dX9_again_6 : decode cX9_again 6 = .ok (.iconst 0, 1) := by decide +kernel
theorem dX9_again_7 : decode cX9_again 7 = .ok (.iconst 2, 1) := by decide +kernel
theorem dX9_again_8 : decode cX9_again 8 = .ok (.invokestatic 160, 3) := by decide +kernel
theorem dX9_again_11 : decode cX9_again 11 = .ok (.ifCond .eq 12, 3) := by decide +kernel
theorem dX9_again_14 : decode cX9_again 14 = .ok (.aload_n 0, 1) := by decide +kernel
theorem dX9_again_15 : decode cX9_again 15 = .ok (.getfield 139, 3) := by decide +kernel
theorem dX9_again_18 : decode cX9_again 18 = .ok (.iload_n 1, 1) := by decide +kernel
theorem dX9_again_19 : decode cX9_again 19 = .ok (.baload, 1) := by decide +kernel
theorem dX9_again_20 : decode cX9_again 20 = .ok (.ifCond .ne 5, 3) := by decide +kernel
theorem dX9_again_23 : decode cX9_again 23 = .ok (.iconst 0, 1) := by decide +kernel
theorem dX9_again_24 : decode cX9_again 24 = .ok (.ireturn, 1) := by decide +kernel
theorem dX9_again_25 : decode cX9_again 25 = .ok (.aload_n 0, 1) := by decide +kernel
theorem dX9_again_26 : decode cX9_again 26 = .ok (.iload_n 1, 1) := by decide +kernel
theorem dX9_again_27 : decode cX9_again 27 = .ok (.iconst 1, 1) := by decide +kernel
theorem dX9_again_28 : decode cX9_again 28 = .ok (.iadd, 1) := by decide +kernel
theorem dX9_again_29 : decode cX9_again 29 = .ok (.iconst 0, 1) := by decide +kernel
theorem dX9_again_30 : decode cX9_again 30 = .ok (.invokevirtual 459, 3) := by decide +kernel
theorem dX9_again_33 : decode cX9_again 33 = .ok (.iconst 1, 1) := by decide +kernel
theorem dX9_again_34 : decode cX9_again 34 = .ok (.ireturn, 1) := by decide +kernel
