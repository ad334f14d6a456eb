theorem dX0_versionIn_0 : decode cX0_versionIn 0 = .ok (.iload_n 0, 1) := by decide +kernel
theorem dX0_versionIn_1 : decode cX0_versionIn 1 = .ok (.iconst 2, 1) := by decide +kernel
theorem dX0_versionIn_2 : decode cX0_versionIn 2 = .ok (.iload_n 1, 1) := by decide +kernel
theorem dX0_versionIn_3 : decode cX0_versionIn 3 = .ok (.imul, 1) := by decide +kernel
theorem dX0_versionIn_4 : decode cX0_versionIn 4 = .ok (.ishr, 1) := by decide +kernel
theorem dX0_versionIn_5 : decode cX0_versionIn 5 = .ok (.iconst 3, 1) := by decide +kernel
theorem dX0_versionIn_6 : decode cX0_versionIn 6 = .ok (.iand, 1) := by decide +kernel
theorem dX0_versionIn_7 : decode cX0_versionIn 7 = .ok (.ireturn, 1) := by decide +kernel
theorem dX0_with_0 : decode cX0_with 0 = .ok (.iload_n 0, 1) := by decide +kernel
theorem dX0_with_1 : decode cX0_with 1 = .ok (.iconst 3, 1) := by decide +kernel
theorem dX0_with_2 : decode cX0_with 2 = .ok (.iconst 2, 1) := by decide +kernel
theorem dX0_with_3 : decode cX0_with 3 = .ok (.iload_n 1, 1) := by decide +kernel
theorem dX0_with_4 : decode cX0_with 4 = .ok (.imul, 1) := by decide +kernel
theorem dX0_with_5 : decode cX0_with 5 = .ok (.ishl, 1) := by decide +kernel
theorem dX0_with_6 : decode cX0_with 6 = .ok (.iconst (-1), 1) := by decide +kernel
theorem dX0_with_7 : decode cX0_with 7 = .ok (.ixor, 1) := by decide +kernel
theorem dX0_with_8 : decode cX0_with 8 = .ok (.iand, 1) := by decide +kernel
theorem dX0_with_9 : decode cX0_with 9 = .ok (.iload_n 2, 1) := by decide +kernel
theorem dX0_with_10 : decode cX0_with 10 = .ok (.iconst 2, 1) := by decide +kernel
theorem dX0_with_11 : decode cX0_with 11 = .ok (.iload_n 1, 1) := by decide +kernel
theorem dX0_with_12 : decode cX0_with 12 = .ok (.imul, 1) := by decide +kernel
theorem dX0_with_13 : decode cX0_with 13 = .ok (.ishl, 1) := by decide +kernel
theorem dX0_with_14 : decode cX0_with 14 = .ok (.ior, 1) := by decide +kernel
theorem dX0_with_15 : decode cX0_with 15 = .ok (.ireturn, 1) := by decide +kernel
theorem dX0_change_0 : decode cX0_change 0 = .ok (.iconst 4, 1) := by decide +kernel
theorem dX0_change_1 : decode cX0_change 1 = .ok (.iload_n 0, 1) := by decide +kernel
theorem dX0_change_2 : decode cX0_change 2 = .ok (.imul, 1) := by decide +kernel
theorem dX0_change_3 : decode cX0_change 3 = .ok (.iload_n 1, 1) := by decide +kernel
theorem dX0_change_4 : decode cX0_change 4 = .ok (.iadd, 1) := by decide +kernel
theorem dX0_change_5 : decode cX0_change 5 = .ok (.ireturn, 1) := by decide +kernel
theorem dX1_succeeds_0 : decode cX1_succeeds 0 = .ok (.iload_n 1, 1) := by decide +kernel
theorem dX1_succeeds_1 : decode cX1_succeeds 1 = .ok (.bipush 100, 2) := by decide +kernel
theorem dX1_succeeds_3 : decode cX1_succeeds 3 = .ok (.idiv, 1) := by decide +kernel
theorem dX1_succeeds_4 : decode cX1_succeeds 4 = .ok (.bipush 10, 2) := by decide +kernel
theorem dX1_succeeds_6 : decode cX1_succeeds 6 = .ok (.irem, 1) := by decide +kernel
theorem dX1_succeeds_7 : decode cX1_succeeds 7 = .ok (.istore_n 2, 1) := by decide +kernel
theorem dX1_succeeds_8 : decode cX1_succeeds 8 = .ok (.iload_n 1, 1) := by decide +kernel
theorem dX1_succeeds_9 : decode cX1_succeeds 9 = .ok (.bipush 10, 2) := by decide +kernel
theorem dX1_succeeds_11 : decode cX1_succeeds 11 = .ok (.idiv, 1) := by decide +kernel
theorem dX1_succeeds_12 : decode cX1_succeeds 12 = .ok (.bipush 10, 2) := by decide +kernel
theorem dX1_succeeds_14 : decode cX1_succeeds 14 = .ok (.irem, 1) := by decide +kernel
theorem dX1_succeeds_15 : decode cX1_succeeds 15 = .ok (.istore_n 3, 1) := by decide +kernel
theorem dX1_succeeds_16 : decode cX1_succeeds 16 = .ok (.iload_n 1, 1) := by decide +kernel
theorem dX1_succeeds_17 : decode cX1_succeeds 17 = .ok (.bipush 10, 2) := by decide +kernel
theorem dX1_succeeds_19 : decode cX1_succeeds 19 = .ok (.irem, 1) := by decide +kernel
theorem dX1_succeeds_20 : decode cX1_succeeds 20 = .ok (.istore 4, 2) := by decide +kernel
theorem dX1_succeeds_22 : decode cX1_succeeds 22 = .ok (.iload_n 1, 1) := by decide +kernel
theorem dX1_succeeds_23 : decode cX1_succeeds 23 = .ok (.sipush 1000, 3) := by decide +kernel
theorem dX1_succeeds_26 : decode cX1_succeeds 26 = .ok (.idiv, 1) := by decide +kernel
theorem dX1_succeeds_27 : decode cX1_succeeds 27 = .ok (.tableswitch 234 1 8 #[45, 61, 77, 86, 128, 148, 181, 210], 45) := by decide +kernel
theorem dX1_succeeds_72 : decode cX1_succeeds 72 = .ok (.aload_n 0, 1) := by decide +kernel
theorem dX1_succeeds_73 : decode cX1_succeeds 73 = .ok (.getfield 9, 3) := by decide +kernel
theorem dX1_succeeds_76 : decode cX1_succeeds 76 = .ok (.aload_n 0, 1) := by decide +kernel
theorem dX1_succeeds_77 : decode cX1_succeeds 77 = .ok (.getfield 15, 3) := by decide +kernel
theorem dX1_succeeds_80 : decode cX1_succeeds 80 = .ok (.iload_n 2, 1) := by decide +kernel
theorem dX1_succeeds_81 : decode cX1_succeeds 81 = .ok (.iload_n 3, 1) := by decide +kernel
theorem dX1_succeeds_82 : decode cX1_succeeds 82 = .ok (.iload 4, 2) := by decide +kernel
theorem dX1_succeeds_84 : decode cX1_succeeds 84 = .ok (.invokestatic 19, 3) := by decide +kernel
theorem dX1_succeeds_87 : decode cX1_succeeds 87 = .ok (.ireturn, 1) := by decide +kernel
theorem dX1_succeeds_88 : decode cX1_succeeds 88 = .ok (.aload_n 0, 1) := by decide +kernel
theorem dX1_succeeds_89 : decode cX1_succeeds 89 = .ok (.getfield 9, 3) := by decide +kernel
theorem dX1_succeeds_92 : decode cX1_succeeds 92 = .ok (.aload_n 0, 1) := by decide +kernel
theorem dX1_succeeds_93 : decode cX1_succeeds 93 = .ok (.getfield 25, 3) := by decide +kernel
theorem dX1_succeeds_96 : decode cX1_succeeds 96 = .ok (.iload_n 2, 1) := by decide +kernel
theorem dX1_succeeds_97 : decode cX1_succeeds 97 = .ok (.iload_n 3, 1) := by decide +kernel
theorem dX1_succeeds_98 : decode cX1_succeeds 98 = .ok (.iload 4, 2) := by decide +kernel
theorem dX1_succeeds_100 : decode cX1_succeeds 100 = .ok (.invokestatic 19, 3) := by decide +kernel
theorem dX1_succeeds_103 : decode cX1_succeeds 103 = .ok (.ireturn, 1) := by decide +kernel
theorem dX1_succeeds_104 : decode cX1_succeeds 104 = .ok (.aload_n 0, 1) := by decide +kernel
theorem dX1_succeeds_105 : decode cX1_succeeds 105 = .ok (.iload_n 2, 1) := by decide +kernel
theorem dX1_succeeds_106 : decode cX1_succeeds 106 = .ok (.iload_n 3, 1) := by decide +kernel
theorem dX1_succeeds_107 : decode cX1_succeeds 107 = .ok (.iload 4, 2) := by decide +kernel
theorem dX1_succeeds_109 : decode cX1_succeeds 109 = .ok (.invokestatic 28, 3) := by decide +kernel
theorem dX1_succeeds_112 : decode cX1_succeeds 112 = .ok (.ireturn, 1) := by decide +kernel
theorem dX1_succeeds_113 : decode cX1_succeeds 113 = .ok (.iload_n 2, 1) := by decide +kernel
theorem dX1_succeeds_114 : decode cX1_succeeds 114 = .ok (.ifCond .ne 26, 3) := by decide +kernel
theorem dX1_succeeds_117 : decode cX1_succeeds 117 = .ok (.bipush 10, 2) := by decide +kernel
theorem dX1_succeeds_119 : decode cX1_succeeds 119 = .ok (.iload_n 3, 1) := by decide +kernel
theorem dX1_succeeds_120 : decode cX1_succeeds 120 = .ok (.imul, 1) := by decide +kernel
theorem dX1_succeeds_121 : decode cX1_succeeds 121 = .ok (.iload 4, 2) := by decide +kernel
theorem dX1_succeeds_123 : decode cX1_succeeds 123 = .ok (.iadd, 1) := by decide +kernel
theorem dX1_succeeds_124 : decode cX1_succeeds 124 = .ok (.iconst 1, 1) := by decide +kernel
theorem dX1_succeeds_125 : decode cX1_succeeds 125 = .ok (.if_icmp .lt 15, 3) := by decide +kernel
theorem dX1_succeeds_128 : decode cX1_succeeds 128 = .ok (.bipush 10, 2) := by decide +kernel
theorem dX1_succeeds_130 : decode cX1_succeeds 130 = .ok (.iload_n 3, 1) := by decide +kernel
theorem dX1_succeeds_131 : decode cX1_succeeds 131 = .ok (.imul, 1) := by decide +kernel
theorem dX1_succeeds_132 : decode cX1_succeeds 132 = .ok (.iload 4, 2) := by decide +kernel
theorem dX1_succeeds_134 : decode cX1_succeeds 134 = .ok (.iadd, 1) := by decide +kernel
theorem dX1_succeeds_135 : decode cX1_succeeds 135 = .ok (.bipush 50, 2) := by decide +kernel
theorem dX1_succeeds_137 : decode cX1_succeeds 137 = .ok (.if_icmp .le 5, 3) := by decide +kernel
theorem dX1_succeeds_140 : decode cX1_succeeds 140 = .ok (.iconst 0, 1) := by decide +kernel
theorem dX1_succeeds_141 : decode cX1_succeeds 141 = .ok (.ireturn, 1) := by decide +kernel
theorem dX1_succeeds_142 : decode cX1_succeeds 142 = .ok (.aload_n 0, 1) := by decide +kernel
theorem dX1_succeeds_143 : decode cX1_succeeds 143 = .ok (.bipush 10, 2) := by decide +kernel
theorem dX1_succeeds_145 : decode cX1_succeeds 145 = .ok (.iload_n 3, 1) := by decide +kernel
theorem dX1_succeeds_146 : decode cX1_succeeds 146 = .ok (.imul, 1) := by decide +kernel
theorem dX1_succeeds_147 : decode cX1_succeeds 147 = .ok (.iload 4, 2) := by decide +kernel
theorem dX1_succeeds_149 : decode cX1_succeeds 149 = .ok (.iadd, 1) := by decide +kernel
theorem dX1_succeeds_150 : decode cX1_succeeds 150 = .ok (.invokevirtual 32, 3) := by decide +kernel
theorem dX1_succeeds_153 : decode cX1_succeeds 153 = .ok (.iconst 1, 1) := by decide +kernel
theorem dX1_succeeds_154 : decode cX1_succeeds 154 = .ok (.ireturn, 1) := by decide +kernel
theorem dX1_succeeds_155 : decode cX1_succeeds 155 = .ok (.iload_n 3, 1) := by decide +kernel
theorem dX1_succeeds_156 : decode cX1_succeeds 156 = .ok (.ifCond .ne 17, 3) := by decide +kernel
theorem dX1_succeeds_159 : decode cX1_succeeds 159 = .ok (.aload_n 0, 1) := by decide +kernel
theorem dX1_succeeds_160 : decode cX1_succeeds 160 = .ok (.iload_n 2, 1) := by decide +kernel
theorem dX1_succeeds_161 : decode cX1_succeeds 161 = .ok (.iload 4, 2) := by decide +kernel
theorem dX1_succeeds_163 : decode cX1_succeeds 163 = .ok (.invokestatic 36, 3) := by decide +kernel
theorem dX1_succeeds_166 : decode cX1_succeeds 166 = .ok (.ifCond .eq 7, 3) := by decide +kernel
theorem dX1_succeeds_169 : decode cX1_succeeds 169 = .ok (.iconst 1, 1) := by decide +kernel
theorem dX1_succeeds_170 : decode cX1_succeeds 170 = .ok (.goto 4, 3) := by decide +kernel
theorem dX1_succeeds_173 : decode cX1_succeeds 173 = .ok (.iconst 0, 1) := by decide +kernel
theorem dX1_succeeds_174 : decode cX1_succeeds 174 = .ok (.ireturn, 1) := by decide +kernel
theorem dX1_succeeds_175 : decode cX1_succeeds 175 = .ok (.aload_n 0, 1) := by decide +kernel
theorem dX1_succeeds_176 : decode cX1_succeeds 176 = .ok (.getfield 9, 3) := by decide +kernel
theorem dX1_succeeds_179 : decode cX1_succeeds 179 = .ok (.iload_n 2, 1) := by decide +kernel
theorem dX1_succeeds_180 : decode cX1_succeeds 180 = .ok (.iload_n 3, 1) := by decide +kernel
theorem dX1_succeeds_181 : decode cX1_succeeds 181 = .ok (.invokevirtual 40, 3) := by decide +kernel
theorem dX1_succeeds_184 : decode cX1_succeeds 184 = .ok (.ifCond .eq 22, 3) := by decide +kernel
theorem dX1_succeeds_187 : decode cX1_succeeds 187 = .ok (.aload_n 0, 1) := by decide +kernel
theorem dX1_succeeds_188 : decode cX1_succeeds 188 = .ok (.getfield 25, 3) := by decide +kernel
theorem dX1_succeeds_191 : decode cX1_succeeds 191 = .ok (.iload_n 2, 1) := by decide +kernel
theorem dX1_succeeds_192 : decode cX1_succeeds 192 = .ok (.iaload, 1) := by decide +kernel
theorem dX1_succeeds_193 : decode cX1_succeeds 193 = .ok (.iload_n 3, 1) := by decide +kernel
theorem dX1_succeeds_194 : decode cX1_succeeds 194 = .ok (.invokestatic 46, 3) := by decide +kernel
theorem dX1_succeeds_197 : decode cX1_succeeds 197 = .ok (.iload 4, 2) := by decide +kernel
theorem dX1_succeeds_199 : decode cX1_succeeds 199 = .ok (.if_icmp .ne 7, 3) := by decide +kernel
theorem dX1_succeeds_202 : decode cX1_succeeds 202 = .ok (.iconst 1, 1) := by decide +kernel
theorem dX1_succeeds_203 : decode cX1_succeeds 203 = .ok (.goto 4, 3) := by decide +kernel
theorem dX1_succeeds_206 : decode cX1_succeeds 206 = .ok (.iconst 0, 1) := by decide +kernel
theorem dX1_succeeds_207 : decode cX1_succeeds 207 = .ok (.ireturn, 1) := by decide +kernel
theorem dX1_succeeds_208 : decode cX1_succeeds 208 = .ok (.aload_n 0, 1) := by decide +kernel
theorem dX1_succeeds_209 : decode cX1_succeeds 209 = .ok (.getfield 9, 3) := by decide +kernel
theorem dX1_succeeds_212 : decode cX1_succeeds 212 = .ok (.iload_n 2, 1) := by decide +kernel
theorem dX1_succeeds_213 : decode cX1_succeeds 213 = .ok (.iload_n 3, 1) := by decide +kernel
theorem dX1_succeeds_214 : decode cX1_succeeds 214 = .ok (.invokevirtual 40, 3) := by decide +kernel
theorem dX1_succeeds_217 : decode cX1_succeeds 217 = .ok (.ifCond .eq 18, 3) := by decide +kernel
theorem dX1_succeeds_220 : decode cX1_succeeds 220 = .ok (.aload_n 0, 1) := by decide +kernel
theorem dX1_succeeds_221 : decode cX1_succeeds 221 = .ok (.iload_n 2, 1) := by decide +kernel
theorem dX1_succeeds_222 : decode cX1_succeeds 222 = .ok (.iload_n 3, 1) := by decide +kernel
theorem dX1_succeeds_223 : decode cX1_succeeds 223 = .ok (.invokevirtual 52, 3) := by decide +kernel
theorem dX1_succeeds_226 : decode cX1_succeeds 226 = .ok (.iload 4, 2) := by decide +kernel
theorem dX1_succeeds_228 : decode cX1_succeeds 228 = .ok (.if_icmp .ne 7, 3) := by decide +kernel
theorem dX1_succeeds_231 : decode cX1_succeeds 231 = .ok (.iconst 1, 1) := by decide +kernel
theorem dX1_succeeds_232 : decode cX1_succeeds 232 = .ok (.goto 4, 3) := by decide +kernel
theorem dX1_succeeds_235 : decode cX1_succeeds 235 = .ok (.iconst 0, 1) := by decide +kernel
theorem dX1_succeeds_236 : decode cX1_succeeds 236 = .ok (.ireturn, 1) := by decide +kernel
theorem dX1_succeeds_237 : decode cX1_succeeds 237 = .ok (.iload_n 2, 1) := by decide +kernel
theorem dX1_succeeds_238 : decode cX1_succeeds 238 = .ok (.ifCond .ne 21, 3) := by decide +kernel
theorem dX1_succeeds_241 : decode cX1_succeeds 241 = .ok (.aload_n 0, 1) := by decide +kernel
theorem dX1_succeeds_242 : decode cX1_succeeds 242 = .ok (.getfield 55, 3) := by decide +kernel
theorem dX1_succeeds_245 : decode cX1_succeeds 245 = .ok (.bipush 10, 2) := by decide +kernel
theorem dX1_succeeds_247 : decode cX1_succeeds 247 = .ok (.iload_n 3, 1) := by decide +kernel
theorem dX1_succeeds_248 : decode cX1_succeeds 248 = .ok (.imul, 1) := by decide +kernel
theorem dX1_succeeds_249 : decode cX1_succeeds 249 = .ok (.iload 4, 2) := by decide +kernel
theorem dX1_succeeds_251 : decode cX1_succeeds 251 = .ok (.iadd, 1) := by decide +kernel
theorem dX1_succeeds_252 : decode cX1_succeeds 252 = .ok (.if_icmp .lt 7, 3) := by decide +kernel
theorem dX1_succeeds_255 : decode cX1_succeeds 255 = .ok (.iconst 1, 1) := by decide +kernel
theorem dX1_succeeds_256 : decode cX1_succeeds 256 = .ok (.goto 4, 3) := by decide +kernel
theorem dX1_succeeds_259 : decode cX1_succeeds 259 = .ok (.iconst 0, 1) := by decide +kernel
theorem dX1_succeeds_260 : decode cX1_succeeds 260 = .ok (.ireturn, 1) := by decide +kernel
theorem dX1_succeeds_261 : decode cX1_succeeds 261 = .ok (.iconst 0, 1) := by decide +kernel
theorem dX1_succeeds_262 : decode cX1_succeeds 262 = .ok (.ireturn, 1) := by decide +kernel
theorem dX1_setVersion_0 : decode cX1_setVersion 0 = .ok (.aload_n 0, 1) := by decide +kernel
theorem dX1_setVersion_1 : decode cX1_setVersion 1 = .ok (.iload_n 2, 1) := by decide +kernel
theorem dX1_setVersion_2 : decode cX1_setVersion 2 = .ok (.iload_n 3, 1) := by decide +kernel
theorem dX1_setVersion_3 : decode cX1_setVersion 3 = .ok (.invokevirtual 40, 3) := by decide +kernel
theorem dX1_setVersion_6 : decode cX1_setVersion 6 = .ok (.ifCond .eq 9, 3) := by decide +kernel
theorem dX1_setVersion_9 : decode cX1_setVersion 9 = .ok (.iload 4, 2) := by decide +kernel
theorem dX1_setVersion_11 : decode cX1_setVersion 11 = .ok (.iconst 3, 1) := by decide +kernel
theorem dX1_setVersion_12 : decode cX1_setVersion 12 = .ok (.if_icmp .le 5, 3) := by decide +kernel
theorem dX1_setVersion_15 : decode cX1_setVersion 15 = .ok (.iconst 0, 1) := by decide +kernel
theorem dX1_setVersion_16 : decode cX1_setVersion 16 = .ok (.ireturn, 1) := by decide +kernel
theorem dX1_setVersion_17 : decode cX1_setVersion 17 = .ok (.aload_n 1, 1) := by decide +kernel
theorem dX1_setVersion_18 : decode cX1_setVersion 18 = .ok (.iload_n 2, 1) := by decide +kernel
theorem dX1_setVersion_19 : decode cX1_setVersion 19 = .ok (.aload_n 1, 1) := by decide +kernel
theorem dX1_setVersion_20 : decode cX1_setVersion 20 = .ok (.iload_n 2, 1) := by decide +kernel
theorem dX1_setVersion_21 : decode cX1_setVersion 21 = .ok (.iaload, 1) := by decide +kernel
theorem dX1_setVersion_22 : decode cX1_setVersion 22 = .ok (.iload_n 3, 1) := by decide +kernel
theorem dX1_setVersion_23 : decode cX1_setVersion 23 = .ok (.iload 4, 2) := by decide +kernel
theorem dX1_setVersion_25 : decode cX1_setVersion 25 = .ok (.invokestatic 59, 3) := by decide +kernel
theorem dX1_setVersion_28 : decode cX1_setVersion 28 = .ok (.iastore, 1) := by decide +kernel
theorem dX1_setVersion_29 : decode cX1_setVersion 29 = .ok (.iconst 1, 1) := by decide +kernel
theorem dX1_setVersion_30 : decode cX1_setVersion 30 = .ok (.ireturn, 1) := by decide +kernel
theorem dX1_addApproval_0 : decode cX1_addApproval 0 = .ok (.iload_n 1, 1) := by decide +kernel
theorem dX1_addApproval_1 : decode cX1_addApproval 1 = .ok (.aload_n 0, 1) := by decide +kernel
theorem dX1_addApproval_2 : decode cX1_addApproval 2 = .ok (.getfield 9, 3) := by decide +kernel
theorem dX1_addApproval_5 : decode cX1_addApproval 5 = .ok (.getfield 63, 3) := by decide +kernel
theorem dX1_addApproval_8 : decode cX1_addApproval 8 = .ok (.if_icmp .ge 13, 3) := by decide +kernel
theorem dX1_addApproval_11 : decode cX1_addApproval 11 = .ok (.iload_n 2, 1) := by decide +kernel
theorem dX1_addApproval_12 : decode cX1_addApproval 12 = .ok (.iconst 3, 1) := by decide +kernel
theorem dX1_addApproval_13 : decode cX1_addApproval 13 = .ok (.if_icmp .gt 8, 3) := by decide +kernel
theorem dX1_addApproval_16 : decode cX1_addApproval 16 = .ok (.iload_n 3, 1) := by decide +kernel
theorem dX1_addApproval_17 : decode cX1_addApproval 17 = .ok (.iconst 5, 1) := by decide +kernel
theorem dX1_addApproval_18 : decode cX1_addApproval 18 = .ok (.if_icmp .lt 5, 3) := by decide +kernel
theorem dX1_addApproval_21 : decode cX1_addApproval 21 = .ok (.iconst 0, 1) := by decide +kernel
theorem dX1_addApproval_22 : decode cX1_addApproval 22 = .ok (.ireturn, 1) := by decide +kernel
theorem dX1_addApproval_23 : decode cX1_addApproval 23 = .ok (.aload_n 0, 1) := by decide +kernel
theorem dX1_addApproval_24 : decode cX1_addApproval 24 = .ok (.getfield 66, 3) := by decide +kernel
theorem dX1_addApproval_27 : decode cX1_addApproval 27 = .ok (.iload_n 1, 1) := by decide +kernel
theorem dX1_addApproval_28 : decode cX1_addApproval 28 = .ok (.iload_n 2, 1) := by decide +kernel
theorem dX1_addApproval_29 : decode cX1_addApproval 29 = .ok (.invokestatic 69, 3) := by decide +kernel
theorem dX1_addApproval_32 : decode cX1_addApproval 32 = .ok (.dup2, 1) := by decide +kernel
theorem dX1_addApproval_33 : decode cX1_addApproval 33 = .ok (.iaload, 1) := by decide +kernel
theorem dX1_addApproval_34 : decode cX1_addApproval 34 = .ok (.iconst 1, 1) := by decide +kernel
theorem dX1_addApproval_35 : decode cX1_addApproval 35 = .ok (.iload_n 3, 1) := by decide +kernel
theorem dX1_addApproval_36 : decode cX1_addApproval 36 = .ok (.ishl, 1) := by decide +kernel
theorem dX1_addApproval_37 : decode cX1_addApproval 37 = .ok (.ior, 1) := by decide +kernel
theorem dX1_addApproval_38 : decode cX1_addApproval 38 = .ok (.iastore, 1) := by decide +kernel
theorem dX1_addApproval_39 : decode cX1_addApproval 39 = .ok (.iconst 1, 1) := by decide +kernel
theorem dX1_addApproval_40 : decode cX1_addApproval 40 = .ok (.ireturn, 1) := by decide +kernel
theorem dX1_giveFaults_0 : decode cX1_giveFaults 0 = .ok (.iload_n 1, 1) := by decide +kernel
theorem dX1_giveFaults_1 : decode cX1_giveFaults 1 = .ok (.aload_n 0, 1) := by decide +kernel
theorem dX1_giveFaults_2 : decode cX1_giveFaults 2 = .ok (.getfield 9, 3) := by decide +kernel
theorem dX1_giveFaults_5 : decode cX1_giveFaults 5 = .ok (.getfield 72, 3) := by decide +kernel
theorem dX1_giveFaults_8 : decode cX1_giveFaults 8 = .ok (.if_icmp .lt 5, 3) := by decide +kernel
theorem dX1_giveFaults_11 : decode cX1_giveFaults 11 = .ok (.iconst 0, 1) := by decide +kernel
theorem dX1_giveFaults_12 : decode cX1_giveFaults 12 = .ok (.ireturn, 1) := by decide +kernel
theorem dX1_giveFaults_13 : decode cX1_giveFaults 13 = .ok (.aload_n 0, 1) := by decide +kernel
theorem dX1_giveFaults_14 : decode cX1_giveFaults 14 = .ok (.getfield 75, 3) := by decide +kernel
theorem dX1_giveFaults_17 : decode cX1_giveFaults 17 = .ok (.iload_n 1, 1) := by decide +kernel
theorem dX1_giveFaults_18 : decode cX1_giveFaults 18 = .ok (.iload_n 2, 1) := by decide +kernel
theorem dX1_giveFaults_19 : decode cX1_giveFaults 19 = .ok (.iastore, 1) := by decide +kernel
theorem dX1_giveFaults_20 : decode cX1_giveFaults 20 = .ok (.iconst 1, 1) := by decide +kernel
theorem dX1_giveFaults_21 : decode cX1_giveFaults 21 = .ok (.ireturn, 1) := by decide +kernel
theorem dX2_init_0 : decode cX2_init 0 = .ok (.aload_n 0, 1) := by decide +kernel
theorem dX2_init_1 : decode cX2_init 1 = .ok (.invokespecial 3, 3) := by decide +kernel
theorem dX2_init_4 : decode cX2_init 4 = .ok (.aload_n 0, 1) := by decide +kernel
theorem dX2_init_5 : decode cX2_init 5 = .ok (.bipush 14, 2) := by decide +kernel
theorem dX2_init_7 : decode cX2_init 7 = .ok (.anewarray 9, 3) := by decide +kernel
theorem dX2_init_10 : decode cX2_init 10 = .ok (.putfield 11, 3) := by decide +kernel
theorem dX2_init_13 : decode cX2_init 13 = .ok (.iconst 0, 1) := by decide +kernel
theorem dX2_init_14 : decode cX2_init 14 = .ok (.istore_n 2, 1) := by decide +kernel
theorem dX2_init_15 : decode cX2_init 15 = .ok (.iload_n 2, 1) := by decide +kernel
theorem dX2_init_16 : decode cX2_init 16 = .ok (.bipush 14, 2) := by decide +kernel
theorem dX2_init_18 : decode cX2_init 18 = .ok (.if_icmp .ge 23, 3) := by decide +kernel
theorem dX2_init_21 : decode cX2_init 21 = .ok (.aload_n 0, 1) := by decide +kernel
theorem dX2_init_22 : decode cX2_init 22 = .ok (.getfield 11, 3) := by decide +kernel
theorem dX2_init_25 : decode cX2_init 25 = .ok (.iload_n 2, 1) := by decide +kernel
theorem dX2_init_26 : decode cX2_init 26 = .ok (.new 9, 3) := by decide +kernel
theorem dX2_init_29 : decode cX2_init 29 = .ok (.dup, 1) := by decide +kernel
theorem dX2_init_30 : decode cX2_init 30 = .ok (.aload_n 1, 1) := by decide +kernel
theorem dX2_init_31 : decode cX2_init 31 = .ok (.invokespecial 17, 3) := by decide +kernel
theorem dX2_init_34 : decode cX2_init 34 = .ok (.aastore, 1) := by decide +kernel
theorem dX2_init_35 : decode cX2_init 35 = .ok (.iinc 2 1, 3) := by decide +kernel
theorem dX2_init_38 : decode cX2_init 38 = .ok (.goto (-23), 3) := by decide +kernel
theorem dX2_init_41 : decode cX2_init 41 = .ok (.return_, 1) := by decide +kernel
theorem dX2_forget_0 : decode cX2_forget 0 = .ok (.aload_n 0, 1) := by decide +kernel
theorem dX2_forget_1 : decode cX2_forget 1 = .ok (.iconst 0, 1) := by decide +kernel
theorem dX2_forget_2 : decode cX2_forget 2 = .ok (.putfield 20, 3) := by decide +kernel
theorem dX2_forget_5 : decode cX2_forget 5 = .ok (.return_, 1) := by decide +kernel
theorem dX2_remember_0 : decode cX2_remember 0 = .ok (.aload_n 0, 1) := by decide +kernel
theorem dX2_remember_1 : decode cX2_remember 1 = .ok (.aload_n 0, 1) := by decide +kernel
theorem dX2_remember_2 : decode cX2_remember 2 = .ok (.getfield 24, 3) := by decide +kernel
theorem dX2_remember_5 : decode cX2_remember 5 = .ok (.iconst 1, 1) := by decide +kernel
theorem dX2_remember_6 : decode cX2_remember 6 = .ok (.iadd, 1) := by decide +kernel
theorem dX2_remember_7 : decode cX2_remember 7 = .ok (.bipush 14, 2) := by decide +kernel
theorem dX2_remember_9 : decode cX2_remember 9 = .ok (.if_icmp .ge 12, 3) := by decide +kernel
theorem dX2_remember_12 : decode cX2_remember 12 = .ok (.aload_n 0, 1) := by decide +kernel
theorem dX2_remember_13 : decode cX2_remember 13 = .ok (.getfield 24, 3) := by decide +kernel
theorem dX2_remember_16 : decode cX2_remember 16 = .ok (.iconst 1, 1) := by decide +kernel
theorem dX2_remember_17 : decode cX2_remember 17 = .ok (.iadd, 1) := by decide +kernel
theorem dX2_remember_18 : decode cX2_remember 18 = .ok (.goto 4, 3) := by decide +kernel
theorem dX2_remember_21 : decode cX2_remember 21 = .ok (.iconst 0, 1) := by decide +kernel
theorem dX2_remember_22 : decode cX2_remember 22 = .ok (.putfield 24, 3) := by decide +kernel
theorem dX2_remember_25 : decode cX2_remember 25 = .ok (.aload_n 0, 1) := by decide +kernel
theorem dX2_remember_26 : decode cX2_remember 26 = .ok (.getfield 11, 3) := by decide +kernel
theorem dX2_remember_29 : decode cX2_remember 29 = .ok (.aload_n 0, 1) := by decide +kernel
theorem dX2_remember_30 : decode cX2_remember 30 = .ok (.getfield 24, 3) := by decide +kernel
theorem dX2_remember_33 : decode cX2_remember 33 = .ok (.aaload, 1) := by decide +kernel
theorem dX2_remember_34 : decode cX2_remember 34 = .ok (.aload_n 1, 1) := by decide +kernel
theorem dX2_remember_35 : decode cX2_remember 35 = .ok (.invokevirtual 27, 3) := by decide +kernel
theorem dX2_remember_38 : decode cX2_remember 38 = .ok (.aload_n 0, 1) := by decide +kernel
theorem dX2_remember_39 : decode cX2_remember 39 = .ok (.aload_n 0, 1) := by decide +kernel
theorem dX2_remember_40 : decode cX2_remember 40 = .ok (.getfield 20, 3) := by decide +kernel
theorem dX2_remember_43 : decode cX2_remember 43 = .ok (.iconst 1, 1) := by decide +kernel
theorem dX2_remember_44 : decode cX2_remember 44 = .ok (.iadd, 1) := by decide +kernel
theorem dX2_remember_45 : decode cX2_remember 45 = .ok (.bipush 14, 2) := by decide +kernel
theorem dX2_remember_47 : decode cX2_remember 47 = .ok (.invokestatic 31, 3) := by decide +kernel
theorem dX2_remember_50 : decode cX2_remember 50 = .ok (.putfield 20, 3) := by decide +kernel
theorem dX2_remember_53 : decode cX2_remember 53 = .ok (.return_, 1) := by decide +kernel
theorem dX2_takeBack_0 : decode cX2_takeBack 0 = .ok (.aload_n 0, 1) := by decide +kernel
theorem dX2_takeBack_1 : decode cX2_takeBack 1 = .ok (.getfield 20, 3) := by decide +kernel
theorem dX2_takeBack_4 : decode cX2_takeBack 4 = .ok (.ifCond .ne 4, 3) := by decide +kernel
theorem dX2_takeBack_7 : decode cX2_takeBack 7 = .ok (.return_, 1) := by decide +kernel
theorem dX2_takeBack_8 : decode cX2_takeBack 8 = .ok (.aload_n 1, 1) := by decide +kernel
theorem dX2_takeBack_9 : decode cX2_takeBack 9 = .ok (.aload_n 0, 1) := by decide +kernel
theorem dX2_takeBack_10 : decode cX2_takeBack 10 = .ok (.getfield 11, 3) := by decide +kernel
theorem dX2_takeBack_13 : decode cX2_takeBack 13 = .ok (.aload_n 0, 1) := by decide +kernel
theorem dX2_takeBack_14 : decode cX2_takeBack 14 = .ok (.getfield 24, 3) := by decide +kernel
theorem dX2_takeBack_17 : decode cX2_takeBack 17 = .ok (.aaload, 1) := by decide +kernel
theorem dX2_takeBack_18 : decode cX2_takeBack 18 = .ok (.invokevirtual 27, 3) := by decide +kernel
theorem dX2_takeBack_21 : decode cX2_takeBack 21 = .ok (.aload_n 0, 1) := by decide +kernel
theorem dX2_takeBack_22 : decode cX2_takeBack 22 = .ok (.aload_n 0, 1) := by decide +kernel
theorem dX2_takeBack_23 : decode cX2_takeBack 23 = .ok (.getfield 24, 3) := by decide +kernel
theorem dX2_takeBack_26 : decode cX2_takeBack 26 = .ok (.ifCond .le 12, 3) := by decide +kernel
theorem dX2_takeBack_29 : decode cX2_takeBack 29 = .ok (.aload_n 0, 1) := by decide +kernel
theorem dX2_takeBack_30 : decode cX2_takeBack 30 = .ok (.getfield 24, 3) := by decide +kernel
theorem dX2_takeBack_33 : decode cX2_takeBack 33 = .ok (.iconst 1, 1) := by decide +kernel
theorem dX2_takeBack_34 : decode cX2_takeBack 34 = .ok (.isub, 1) := by decide +kernel
theorem dX2_takeBack_35 : decode cX2_takeBack 35 = .ok (.goto 5, 3) := by decide +kernel
theorem dX2_takeBack_38 : decode cX2_takeBack 38 = .ok (.bipush 13, 2) := by decide +kernel
theorem dX2_takeBack_40 : decode cX2_takeBack 40 = .ok (.putfield 24, 3) := by decide +kernel
theorem dX2_takeBack_43 : decode cX2_takeBack 43 = .ok (.aload_n 0, 1) := by decide +kernel
theorem dX2_takeBack_44 : decode cX2_takeBack 44 = .ok (.dup, 1) := by decide +kernel
theorem dX2_takeBack_45 : decode cX2_takeBack 45 = .ok (.getfield 20, 3) := by decide +kernel
theorem dX2_takeBack_48 : decode cX2_takeBack 48 = .ok (.iconst 1, 1) := by decide +kernel
theorem dX2_takeBack_49 : decode cX2_takeBack 49 = .ok (.isub, 1) := by decide +kernel
theorem dX2_takeBack_50 : decode cX2_takeBack 50 = .ok (.putfield 20, 3) := by decide +kernel
theorem dX2_takeBack_53 : decode cX2_takeBack 53 = .ok (.return_, 1) := by decide +kernel
theorem dX3_init_0 : decode cX3_init 0 = .ok (.aload_n 0, 1) := by decide +kernel
theorem dX3_init_1 : decode cX3_init 1 = .ok (.invokespecial 3, 3) := by decide +kernel
theorem dX3_init_4 : decode cX3_init 4 = .ok (.aload_n 0, 1) := by decide +kernel
theorem dX3_init_5 : decode cX3_init 5 = .ok (.iconst 1, 1) := by decide +kernel
theorem dX3_init_6 : decode cX3_init 6 = .ok (.putfield 9, 3) := by decide +kernel
theorem dX3_init_9 : decode cX3_init 9 = .ok (.aload_n 0, 1) := by decide +kernel
theorem dX3_init_10 : decode cX3_init 10 = .ok (.iconst 1, 1) := by decide +kernel
theorem dX3_init_11 : decode cX3_init 11 = .ok (.putfield 15, 3) := by decide +kernel
theorem dX3_init_14 : decode cX3_init 14 = .ok (.aload_n 0, 1) := by decide +kernel
theorem dX3_init_15 : decode cX3_init 15 = .ok (.iconst 3, 1) := by decide +kernel
theorem dX3_init_16 : decode cX3_init 16 = .ok (.putfield 18, 3) := by decide +kernel
theorem dX3_init_19 : decode cX3_init 19 = .ok (.aload_n 0, 1) := by decide +kernel
theorem dX3_init_20 : decode cX3_init 20 = .ok (.iconst 5, 1) := by decide +kernel
theorem dX3_init_21 : decode cX3_init 21 = .ok (.putfield 21, 3) := by decide +kernel
theorem dX3_init_24 : decode cX3_init 24 = .ok (.aload_n 0, 1) := by decide +kernel
theorem dX3_init_25 : decode cX3_init 25 = .ok (.iconst 5, 1) := by decide +kernel
theorem dX3_init_26 : decode cX3_init 26 = .ok (.newarray .int, 2) := by decide +kernel
theorem dX3_init_28 : decode cX3_init 28 = .ok (.putfield 24, 3) := by decide +kernel
theorem dX3_init_31 : decode cX3_init 31 = .ok (.aload_n 0, 1) := by decide +kernel
theorem dX3_init_32 : decode cX3_init 32 = .ok (.new 28, 3) := by decide +kernel
theorem dX3_init_35 : decode cX3_init 35 = .ok (.dup, 1) := by decide +kernel
theorem dX3_init_36 : decode cX3_init 36 = .ok (.invokespecial 30, 3) := by decide +kernel
theorem dX3_init_39 : decode cX3_init 39 = .ok (.putfield 31, 3) := by decide +kernel
theorem dX3_init_42 : decode cX3_init 42 = .ok (.return_, 1) := by decide +kernel
theorem dX3_take_0 : decode cX3_take 0 = .ok (.aload_n 0, 1) := by decide +kernel
theorem dX3_take_1 : decode cX3_take 1 = .ok (.aload_n 1, 1) := by decide +kernel
theorem dX3_take_2 : decode cX3_take 2 = .ok (.getfield 35, 3) := by decide +kernel
theorem dX3_take_5 : decode cX3_take 5 = .ok (.putfield 9, 3) := by decide +kernel
theorem dX3_take_8 : decode cX3_take 8 = .ok (.aload_n 0, 1) := by decide +kernel
theorem dX3_take_9 : decode cX3_take 9 = .ok (.aload_n 1, 1) := by decide +kernel
theorem dX3_take_10 : decode cX3_take 10 = .ok (.getfield 38, 3) := by decide +kernel
theorem dX3_take_13 : decode cX3_take 13 = .ok (.putfield 15, 3) := by decide +kernel
theorem dX3_take_16 : decode cX3_take 16 = .ok (.aload_n 0, 1) := by decide +kernel
theorem dX3_take_17 : decode cX3_take 17 = .ok (.aload_n 1, 1) := by decide +kernel
theorem dX3_take_18 : decode cX3_take 18 = .ok (.getfield 39, 3) := by decide +kernel
theorem dX3_take_21 : decode cX3_take 21 = .ok (.putfield 18, 3) := by decide +kernel
theorem dX3_take_24 : decode cX3_take 24 = .ok (.aload_n 0, 1) := by decide +kernel
theorem dX3_take_25 : decode cX3_take 25 = .ok (.aload_n 1, 1) := by decide +kernel
theorem dX3_take_26 : decode cX3_take 26 = .ok (.getfield 40, 3) := by decide +kernel
theorem dX3_take_29 : decode cX3_take 29 = .ok (.putfield 21, 3) := by decide +kernel
theorem dX3_take_32 : decode cX3_take 32 = .ok (.aload_n 1, 1) := by decide +kernel
theorem dX3_take_33 : decode cX3_take 33 = .ok (.getfield 41, 3) := by decide +kernel
theorem dX3_take_36 : decode cX3_take 36 = .ok (.iconst 0, 1) := by decide +kernel
theorem dX3_take_37 : decode cX3_take 37 = .ok (.aload_n 0, 1) := by decide +kernel
theorem dX3_take_38 : decode cX3_take 38 = .ok (.getfield 24, 3) := by decide +kernel
theorem dX3_take_41 : decode cX3_take 41 = .ok (.iconst 0, 1) := by decide +kernel
theorem dX3_take_42 : decode cX3_take 42 = .ok (.iconst 5, 1) := by decide +kernel
theorem dX3_take_43 : decode cX3_take 43 = .ok (.invokestatic 42, 3) := by decide +kernel
theorem dX3_take_46 : decode cX3_take 46 = .ok (.aload_n 0, 1) := by decide +kernel
theorem dX3_take_47 : decode cX3_take 47 = .ok (.getfield 31, 3) := by decide +kernel
theorem dX3_take_50 : decode cX3_take 50 = .ok (.aload_n 0, 1) := by decide +kernel
theorem dX3_take_51 : decode cX3_take 51 = .ok (.getfield 15, 3) := by decide +kernel
theorem dX3_take_54 : decode cX3_take 54 = .ok (.invokevirtual 48, 3) := by decide +kernel
theorem dX3_take_57 : decode cX3_take 57 = .ok (.iconst 0, 1) := by decide +kernel
theorem dX3_take_58 : decode cX3_take 58 = .ok (.istore_n 2, 1) := by decide +kernel
theorem dX3_take_59 : decode cX3_take 59 = .ok (.iload_n 2, 1) := by decide +kernel
theorem dX3_take_60 : decode cX3_take 60 = .ok (.aload_n 1, 1) := by decide +kernel
theorem dX3_take_61 : decode cX3_take 61 = .ok (.getfield 52, 3) := by decide +kernel
theorem dX3_take_64 : decode cX3_take 64 = .ok (.if_icmp .ge 23, 3) := by decide +kernel
theorem dX3_take_67 : decode cX3_take 67 = .ok (.aload_n 0, 1) := by decide +kernel
theorem dX3_take_68 : decode cX3_take 68 = .ok (.getfield 31, 3) := by decide +kernel
theorem dX3_take_71 : decode cX3_take 71 = .ok (.aload_n 1, 1) := by decide +kernel
theorem dX3_take_72 : decode cX3_take 72 = .ok (.getfield 55, 3) := by decide +kernel
theorem dX3_take_75 : decode cX3_take 75 = .ok (.iload_n 2, 1) := by decide +kernel
theorem dX3_take_76 : decode cX3_take 76 = .ok (.iconst 5, 1) := by decide +kernel
theorem dX3_take_77 : decode cX3_take 77 = .ok (.imul, 1) := by decide +kernel
theorem dX3_take_78 : decode cX3_take 78 = .ok (.invokevirtual 57, 3) := by decide +kernel
theorem dX3_take_81 : decode cX3_take 81 = .ok (.iinc 2 1, 3) := by decide +kernel
theorem dX3_take_84 : decode cX3_take 84 = .ok (.goto (-25), 3) := by decide +kernel
theorem dX3_take_87 : decode cX3_take 87 = .ok (.return_, 1) := by decide +kernel
theorem dX3_has_0 : decode cX3_has 0 = .ok (.iload_n 1, 1) := by decide +kernel
theorem dX3_has_1 : decode cX3_has 1 = .ok (.ifCond .lt 27, 3) := by decide +kernel
theorem dX3_has_4 : decode cX3_has 4 = .ok (.iload_n 1, 1) := by decide +kernel
theorem dX3_has_5 : decode cX3_has 5 = .ok (.aload_n 0, 1) := by decide +kernel
theorem dX3_has_6 : decode cX3_has 6 = .ok (.getfield 9, 3) := by decide +kernel
theorem dX3_has_9 : decode cX3_has 9 = .ok (.if_icmp .ge 19, 3) := by decide +kernel
theorem dX3_has_12 : decode cX3_has 12 = .ok (.iload_n 2, 1) := by decide +kernel
theorem dX3_has_13 : decode cX3_has 13 = .ok (.ifCond .lt 15, 3) := by decide +kernel
theorem dX3_has_16 : decode cX3_has 16 = .ok (.iload_n 2, 1) := by decide +kernel
theorem dX3_has_17 : decode cX3_has 17 = .ok (.aload_n 0, 1) := by decide +kernel
theorem dX3_has_18 : decode cX3_has 18 = .ok (.getfield 15, 3) := by decide +kernel
theorem dX3_has_21 : decode cX3_has 21 = .ok (.if_icmp .ge 7, 3) := by decide +kernel
theorem dX3_has_24 : decode cX3_has 24 = .ok (.iconst 1, 1) := by decide +kernel
theorem dX3_has_25 : decode cX3_has 25 = .ok (.goto 4, 3) := by decide +kernel
theorem dX3_has_28 : decode cX3_has 28 = .ok (.iconst 0, 1) := by decide +kernel
theorem dX3_has_29 : decode cX3_has 29 = .ok (.ireturn, 1) := by decide +kernel
theorem dX4_init_0 : decode cX4_init 0 = .ok (.aload_n 0, 1) := by decide +kernel
theorem dX4_init_1 : decode cX4_init 1 = .ok (.invokespecial 3, 3) := by decide +kernel
theorem dX4_init_4 : decode cX4_init 4 = .ok (.aload_n 0, 1) := by decide +kernel
theorem dX4_init_5 : decode cX4_init 5 = .ok (.bipush 50, 2) := by decide +kernel
theorem dX4_init_7 : decode cX4_init 7 = .ok (.newarray .int, 2) := by decide +kernel
theorem dX4_init_9 : decode cX4_init 9 = .ok (.putfield 11, 3) := by decide +kernel
theorem dX4_init_12 : decode cX4_init 12 = .ok (.aload_n 0, 1) := by decide +kernel
theorem dX4_init_13 : decode cX4_init 13 = .ok (.sipush 4096, 3) := by decide +kernel
theorem dX4_init_16 : decode cX4_init 16 = .ok (.newarray .int, 2) := by decide +kernel
theorem dX4_init_18 : decode cX4_init 18 = .ok (.putfield 15, 3) := by decide +kernel
theorem dX4_init_21 : decode cX4_init 21 = .ok (.aload_n 0, 1) := by decide +kernel
theorem dX4_init_22 : decode cX4_init 22 = .ok (.iconst 4, 1) := by decide +kernel
theorem dX4_init_23 : decode cX4_init 23 = .ok (.putfield 18, 3) := by decide +kernel
theorem dX4_init_26 : decode cX4_init 26 = .ok (.return_, 1) := by decide +kernel
theorem dX4_clear_0 : decode cX4_clear 0 = .ok (.aload_n 0, 1) := by decide +kernel
theorem dX4_clear_1 : decode cX4_clear 1 = .ok (.iconst 0, 1) := by decide +kernel
theorem dX4_clear_2 : decode cX4_clear 2 = .ok (.putfield 22, 3) := by decide +kernel
theorem dX4_clear_5 : decode cX4_clear 5 = .ok (.aload_n 0, 1) := by decide +kernel
theorem dX4_clear_6 : decode cX4_clear 6 = .ok (.iconst 1, 1) := by decide +kernel
theorem dX4_clear_7 : decode cX4_clear 7 = .ok (.iconst 2, 1) := by decide +kernel
theorem dX4_clear_8 : decode cX4_clear 8 = .ok (.iload_n 1, 1) := by decide +kernel
theorem dX4_clear_9 : decode cX4_clear 9 = .ok (.imul, 1) := by decide +kernel
theorem dX4_clear_10 : decode cX4_clear 10 = .ok (.ishl, 1) := by decide +kernel
theorem dX4_clear_11 : decode cX4_clear 11 = .ok (.sipush 4096, 3) := by decide +kernel
theorem dX4_clear_14 : decode cX4_clear 14 = .ok (.invokestatic 25, 3) := by decide +kernel
theorem dX4_clear_17 : decode cX4_clear 17 = .ok (.putfield 18, 3) := by decide +kernel
theorem dX4_clear_20 : decode cX4_clear 20 = .ok (.aload_n 0, 1) := by decide +kernel
theorem dX4_clear_21 : decode cX4_clear 21 = .ok (.getfield 15, 3) := by decide +kernel
theorem dX4_clear_24 : decode cX4_clear 24 = .ok (.iconst 0, 1) := by decide +kernel
theorem dX4_clear_25 : decode cX4_clear 25 = .ok (.invokestatic 31, 3) := by decide +kernel
theorem dX4_clear_28 : decode cX4_clear 28 = .ok (.return_, 1) := by decide +kernel
theorem dX4_add_0 : decode cX4_add 0 = .ok (.aload_n 0, 1) := by decide +kernel
theorem dX4_add_1 : decode cX4_add 1 = .ok (.getfield 22, 3) := by decide +kernel
theorem dX4_add_4 : decode cX4_add 4 = .ok (.bipush 10, 2) := by decide +kernel
theorem dX4_add_6 : decode cX4_add 6 = .ok (.if_icmp .ge 15, 3) := by decide +kernel
theorem dX4_add_9 : decode cX4_add 9 = .ok (.iload_n 2, 1) := by decide +kernel
theorem dX4_add_10 : decode cX4_add 10 = .ok (.ifCond .lt 11, 3) := by decide +kernel
theorem dX4_add_13 : decode cX4_add 13 = .ok (.iload_n 2, 1) := by decide +kernel
theorem dX4_add_14 : decode cX4_add 14 = .ok (.iconst 5, 1) := by decide +kernel
theorem dX4_add_15 : decode cX4_add 15 = .ok (.iadd, 1) := by decide +kernel
theorem dX4_add_16 : decode cX4_add 16 = .ok (.aload_n 1, 1) := by decide +kernel
theorem dX4_add_17 : decode cX4_add 17 = .ok (.arraylength, 1) := by decide +kernel
theorem dX4_add_18 : decode cX4_add 18 = .ok (.if_icmp .le 4, 3) := by decide +kernel
theorem dX4_add_21 : decode cX4_add 21 = .ok (.return_, 1) := by decide +kernel
theorem dX4_add_22 : decode cX4_add 22 = .ok (.aload_n 1, 1) := by decide +kernel
theorem dX4_add_23 : decode cX4_add 23 = .ok (.iload_n 2, 1) := by decide +kernel
theorem dX4_add_24 : decode cX4_add 24 = .ok (.aload_n 0, 1) := by decide +kernel
theorem dX4_add_25 : decode cX4_add 25 = .ok (.getfield 11, 3) := by decide +kernel
theorem dX4_add_28 : decode cX4_add 28 = .ok (.aload_n 0, 1) := by decide +kernel
theorem dX4_add_29 : decode cX4_add 29 = .ok (.getfield 22, 3) := by decide +kernel
theorem dX4_add_32 : decode cX4_add 32 = .ok (.iconst 5, 1) := by decide +kernel
theorem dX4_add_33 : decode cX4_add 33 = .ok (.imul, 1) := by decide +kernel
theorem dX4_add_34 : decode cX4_add 34 = .ok (.iconst 5, 1) := by decide +kernel
theorem dX4_add_35 : decode cX4_add 35 = .ok (.invokestatic 37, 3) := by decide +kernel
theorem dX4_add_38 : decode cX4_add 38 = .ok (.aload_n 0, 1) := by decide +kernel
theorem dX4_add_39 : decode cX4_add 39 = .ok (.getfield 22, 3) := by decide +kernel
theorem dX4_add_42 : decode cX4_add 42 = .ok (.istore_n 3, 1) := by decide +kernel
theorem dX4_add_43 : decode cX4_add 43 = .ok (.aload_n 0, 1) := by decide +kernel
theorem dX4_add_44 : decode cX4_add 44 = .ok (.dup, 1) := by decide +kernel
theorem dX4_add_45 : decode cX4_add 45 = .ok (.getfield 22, 3) := by decide +kernel
theorem dX4_add_48 : decode cX4_add 48 = .ok (.iconst 1, 1) := by decide +kernel
theorem dX4_add_49 : decode cX4_add 49 = .ok (.iadd, 1) := by decide +kernel
theorem dX4_add_50 : decode cX4_add 50 = .ok (.putfield 22, 3) := by decide +kernel
theorem dX4_add_53 : decode cX4_add 53 = .ok (.iconst 0, 1) := by decide +kernel
theorem dX4_add_54 : decode cX4_add 54 = .ok (.istore 4, 2) := by decide +kernel
theorem dX4_add_56 : decode cX4_add 56 = .ok (.iload 4, 2) := by decide +kernel
theorem dX4_add_58 : decode cX4_add 58 = .ok (.aload_n 0, 1) := by decide +kernel
theorem dX4_add_59 : decode cX4_add 59 = .ok (.getfield 18, 3) := by decide +kernel
theorem dX4_add_62 : decode cX4_add 62 = .ok (.if_icmp .ge 32, 3) := by decide +kernel
theorem dX4_add_65 : decode cX4_add 65 = .ok (.aload_n 0, 1) := by decide +kernel
theorem dX4_add_66 : decode cX4_add 66 = .ok (.iload_n 3, 1) := by decide +kernel
theorem dX4_add_67 : decode cX4_add 67 = .ok (.iload 4, 2) := by decide +kernel
theorem dX4_add_69 : decode cX4_add 69 = .ok (.invokevirtual 43, 3) := by decide +kernel
theorem dX4_add_72 : decode cX4_add 72 = .ok (.ifCond .eq 16, 3) := by decide +kernel
theorem dX4_add_75 : decode cX4_add 75 = .ok (.aload_n 0, 1) := by decide +kernel
theorem dX4_add_76 : decode cX4_add 76 = .ok (.getfield 15, 3) := by decide +kernel
theorem dX4_add_79 : decode cX4_add 79 = .ok (.iload 4, 2) := by decide +kernel
theorem dX4_add_81 : decode cX4_add 81 = .ok (.dup2, 1) := by decide +kernel
theorem dX4_add_82 : decode cX4_add 82 = .ok (.iaload, 1) := by decide +kernel
theorem dX4_add_83 : decode cX4_add 83 = .ok (.iconst 1, 1) := by decide +kernel
theorem dX4_add_84 : decode cX4_add 84 = .ok (.iload_n 3, 1) := by decide +kernel
theorem dX4_add_85 : decode cX4_add 85 = .ok (.ishl, 1) := by decide +kernel
theorem dX4_add_86 : decode cX4_add 86 = .ok (.ior, 1) := by decide +kernel
theorem dX4_add_87 : decode cX4_add 87 = .ok (.iastore, 1) := by decide +kernel
theorem dX4_add_88 : decode cX4_add 88 = .ok (.iinc 4 1, 3) := by decide +kernel
theorem dX4_add_91 : decode cX4_add 91 = .ok (.goto (-35), 3) := by decide +kernel
theorem dX4_add_94 : decode cX4_add 94 = .ok (.return_, 1) := by decide +kernel
theorem dX4_part_0 : decode cX4_part 0 = .ok (.aload_n 0, 1) := by decide +kernel
theorem dX4_part_1 : decode cX4_part 1 = .ok (.getfield 11, 3) := by decide +kernel
theorem dX4_part_4 : decode cX4_part 4 = .ok (.iload_n 1, 1) := by decide +kernel
theorem dX4_part_5 : decode cX4_part 5 = .ok (.iconst 5, 1) := by decide +kernel
theorem dX4_part_6 : decode cX4_part 6 = .ok (.imul, 1) := by decide +kernel
theorem dX4_part_7 : decode cX4_part 7 = .ok (.iload_n 2, 1) := by decide +kernel
theorem dX4_part_8 : decode cX4_part 8 = .ok (.iadd, 1) := by decide +kernel
theorem dX4_part_9 : decode cX4_part 9 = .ok (.iaload, 1) := by decide +kernel
theorem dX4_part_10 : decode cX4_part 10 = .ok (.ireturn, 1) := by decide +kernel
theorem dX4_isBroken_0 : decode cX4_isBroken 0 = .ok (.iload_n 1, 1) := by decide +kernel
theorem dX4_isBroken_1 : decode cX4_isBroken 1 = .ok (.iconst 5, 1) := by decide +kernel
theorem dX4_isBroken_2 : decode cX4_isBroken 2 = .ok (.imul, 1) := by decide +kernel
theorem dX4_isBroken_3 : decode cX4_isBroken 3 = .ok (.istore_n 3, 1) := by decide +kernel
theorem dX4_isBroken_4 : decode cX4_isBroken 4 = .ok (.iload_n 2, 1) := by decide +kernel
theorem dX4_isBroken_5 : decode cX4_isBroken 5 = .ok (.aload_n 0, 1) := by decide +kernel
theorem dX4_isBroken_6 : decode cX4_isBroken 6 = .ok (.getfield 11, 3) := by decide +kernel
theorem dX4_isBroken_9 : decode cX4_isBroken 9 = .ok (.iload_n 3, 1) := by decide +kernel
theorem dX4_isBroken_10 : decode cX4_isBroken 10 = .ok (.iconst 1, 1) := by decide +kernel
theorem dX4_isBroken_11 : decode cX4_isBroken 11 = .ok (.iadd, 1) := by decide +kernel
theorem dX4_isBroken_12 : decode cX4_isBroken 12 = .ok (.iaload, 1) := by decide +kernel
theorem dX4_isBroken_13 : decode cX4_isBroken 13 = .ok (.invokestatic 47, 3) := by decide +kernel
theorem dX4_isBroken_16 : decode cX4_isBroken 16 = .ok (.aload_n 0, 1) := by decide +kernel
theorem dX4_isBroken_17 : decode cX4_isBroken 17 = .ok (.getfield 11, 3) := by decide +kernel
theorem dX4_isBroken_20 : decode cX4_isBroken 20 = .ok (.iload_n 3, 1) := by decide +kernel
theorem dX4_isBroken_21 : decode cX4_isBroken 21 = .ok (.iconst 2, 1) := by decide +kernel
theorem dX4_isBroken_22 : decode cX4_isBroken 22 = .ok (.iadd, 1) := by decide +kernel
theorem dX4_isBroken_23 : decode cX4_isBroken 23 = .ok (.iaload, 1) := by decide +kernel
theorem dX4_isBroken_24 : decode cX4_isBroken 24 = .ok (.if_icmp .ge 5, 3) := by decide +kernel
theorem dX4_isBroken_27 : decode cX4_isBroken 27 = .ok (.iconst 0, 1) := by decide +kernel
theorem dX4_isBroken_28 : decode cX4_isBroken 28 = .ok (.ireturn, 1) := by decide +kernel
theorem dX4_isBroken_29 : decode cX4_isBroken 29 = .ok (.iload_n 2, 1) := by decide +kernel
theorem dX4_isBroken_30 : decode cX4_isBroken 30 = .ok (.aload_n 0, 1) := by decide +kernel
theorem dX4_isBroken_31 : decode cX4_isBroken 31 = .ok (.getfield 11, 3) := by decide +kernel
theorem dX4_isBroken_34 : decode cX4_isBroken 34 = .ok (.iload_n 3, 1) := by decide +kernel
theorem dX4_isBroken_35 : decode cX4_isBroken 35 = .ok (.iconst 3, 1) := by decide +kernel
theorem dX4_isBroken_36 : decode cX4_isBroken 36 = .ok (.iadd, 1) := by decide +kernel
theorem dX4_isBroken_37 : decode cX4_isBroken 37 = .ok (.iaload, 1) := by decide +kernel
theorem dX4_isBroken_38 : decode cX4_isBroken 38 = .ok (.invokestatic 47, 3) := by decide +kernel
theorem dX4_isBroken_41 : decode cX4_isBroken 41 = .ok (.aload_n 0, 1) := by decide +kernel
theorem dX4_isBroken_42 : decode cX4_isBroken 42 = .ok (.getfield 11, 3) := by decide +kernel
theorem dX4_isBroken_45 : decode cX4_isBroken 45 = .ok (.iload_n 3, 1) := by decide +kernel
theorem dX4_isBroken_46 : decode cX4_isBroken 46 = .ok (.iconst 4, 1) := by decide +kernel
theorem dX4_isBroken_47 : decode cX4_isBroken 47 = .ok (.iadd, 1) := by decide +kernel
theorem dX4_isBroken_48 : decode cX4_isBroken 48 = .ok (.iaload, 1) := by decide +kernel
theorem dX4_isBroken_49 : decode cX4_isBroken 49 = .ok (.if_icmp .lt 7, 3) := by decide +kernel
theorem dX4_isBroken_52 : decode cX4_isBroken 52 = .ok (.iconst 1, 1) := by decide +kernel
theorem dX4_isBroken_53 : decode cX4_isBroken 53 = .ok (.goto 4, 3) := by decide +kernel
theorem dX4_isBroken_56 : decode cX4_isBroken 56 = .ok (.iconst 0, 1) := by decide +kernel
theorem dX4_isBroken_57 : decode cX4_isBroken 57 = .ok (.istore 4, 2) := by decide +kernel
theorem dX4_isBroken_59 : decode cX4_isBroken 59 = .ok (.iload 4, 2) := by decide +kernel
theorem dX4_isBroken_61 : decode cX4_isBroken 61 = .ok (.aload_n 0, 1) := by decide +kernel
theorem dX4_isBroken_62 : decode cX4_isBroken 62 = .ok (.getfield 11, 3) := by decide +kernel
theorem dX4_isBroken_65 : decode cX4_isBroken 65 = .ok (.iload_n 3, 1) := by decide +kernel
theorem dX4_isBroken_66 : decode cX4_isBroken 66 = .ok (.iaload, 1) := by decide +kernel
theorem dX4_isBroken_67 : decode cX4_isBroken 67 = .ok (.iconst 1, 1) := by decide +kernel
theorem dX4_isBroken_68 : decode cX4_isBroken 68 = .ok (.if_icmp .ne 7, 3) := by decide +kernel
theorem dX4_isBroken_71 : decode cX4_isBroken 71 = .ok (.iconst 1, 1) := by decide +kernel
theorem dX4_isBroken_72 : decode cX4_isBroken 72 = .ok (.goto 4, 3) := by decide +kernel
theorem dX4_isBroken_75 : decode cX4_isBroken 75 = .ok (.iconst 0, 1) := by decide +kernel
theorem dX4_isBroken_76 : decode cX4_isBroken 76 = .ok (.if_icmp .ne 7, 3) := by decide +kernel
theorem dX4_isBroken_79 : decode cX4_isBroken 79 = .ok (.iconst 1, 1) := by decide +kernel
theorem dX4_isBroken_80 : decode cX4_isBroken 80 = .ok (.goto 4, 3) := by decide +kernel
theorem dX4_isBroken_83 : decode cX4_isBroken 83 = .ok (.iconst 0, 1) := by decide +kernel
theorem dX4_isBroken_84 : decode cX4_isBroken 84 = .ok (.ireturn, 1) := by decide +kernel
theorem dX4_brokenOn_0 : decode cX4_brokenOn 0 = .ok (.aload_n 0, 1) := by decide +kernel
theorem dX4_brokenOn_1 : decode cX4_brokenOn 1 = .ok (.getfield 15, 3) := by decide +kernel
theorem dX4_brokenOn_4 : decode cX4_brokenOn 4 = .ok (.iload_n 1, 1) := by decide +kernel
theorem dX4_brokenOn_5 : decode cX4_brokenOn 5 = .ok (.sipush 4095, 3) := by decide +kernel
theorem dX4_brokenOn_8 : decode cX4_brokenOn 8 = .ok (.iand, 1) := by decide +kernel
theorem dX4_brokenOn_9 : decode cX4_brokenOn 9 = .ok (.iaload, 1) := by decide +kernel
theorem dX4_brokenOn_10 : decode cX4_brokenOn 10 = .ok (.ireturn, 1) := by decide +kernel
theorem dX4_newlyBroken_0 : decode cX4_newlyBroken 0 = .ok (.aload_n 0, 1) := by decide +kernel
theorem dX4_newlyBroken_1 : decode cX4_newlyBroken 1 = .ok (.getfield 15, 3) := by decide +kernel
theorem dX4_newlyBroken_4 : decode cX4_newlyBroken 4 = .ok (.iload_n 2, 1) := by decide +kernel
theorem dX4_newlyBroken_5 : decode cX4_newlyBroken 5 = .ok (.sipush 4095, 3) := by decide +kernel
theorem dX4_newlyBroken_8 : decode cX4_newlyBroken 8 = .ok (.iand, 1) := by decide +kernel
theorem dX4_newlyBroken_9 : decode cX4_newlyBroken 9 = .ok (.iaload, 1) := by decide +kernel
theorem dX4_newlyBroken_10 : decode cX4_newlyBroken 10 = .ok (.aload_n 0, 1) := by decide +kernel
theorem dX4_newlyBroken_11 : decode cX4_newlyBroken 11 = .ok (.getfield 15, 3) := by decide +kernel
theorem dX4_newlyBroken_14 : decode cX4_newlyBroken 14 = .ok (.iload_n 1, 1) := by decide +kernel
theorem dX4_newlyBroken_15 : decode cX4_newlyBroken 15 = .ok (.sipush 4095, 3) := by decide +kernel
theorem dX4_newlyBroken_18 : decode cX4_newlyBroken 18 = .ok (.iand, 1) := by decide +kernel
theorem dX4_newlyBroken_19 : decode cX4_newlyBroken 19 = .ok (.iaload, 1) := by decide +kernel
theorem dX4_newlyBroken_20 : decode cX4_newlyBroken 20 = .ok (.iconst (-1), 1) := by decide +kernel
theorem dX4_newlyBroken_21 : decode cX4_newlyBroken 21 = .ok (.ixor, 1) := by decide +kernel
theorem dX4_newlyBroken_22 : decode cX4_newlyBroken 22 = .ok (.iand, 1) := by decide +kernel
theorem dX4_newlyBroken_23 : decode cX4_newlyBroken 23 = .ok (.ireturn, 1) := by decide +kernel
theorem dX4_leastWithNeeds_0 : decode cX4_leastWithNeeds 0 = .ok (.iload_n 1, 1) := by decide +kernel
theorem dX4_leastWithNeeds_1 : decode cX4_leastWithNeeds 1 = .ok (.istore_n 2, 1) := by decide +kernel
theorem dX4_leastWithNeeds_2 : decode cX4_leastWithNeeds 2 = .ok (.iconst 0, 1) := by decide +kernel
theorem dX4_leastWithNeeds_3 : decode cX4_leastWithNeeds 3 = .ok (.istore_n 3, 1) := by decide +kernel
theorem dX4_leastWithNeeds_4 : decode cX4_leastWithNeeds 4 = .ok (.iload_n 3, 1) := by decide +kernel
theorem dX4_leastWithNeeds_5 : decode cX4_leastWithNeeds 5 = .ok (.bipush 18, 2) := by decide +kernel
theorem dX4_leastWithNeeds_7 : decode cX4_leastWithNeeds 7 = .ok (.if_icmp .gt 27, 3) := by decide +kernel
theorem dX4_leastWithNeeds_10 : decode cX4_leastWithNeeds 10 = .ok (.aload_n 0, 1) := by decide +kernel
theorem dX4_leastWithNeeds_11 : decode cX4_leastWithNeeds 11 = .ok (.iload_n 2, 1) := by decide +kernel
theorem dX4_leastWithNeeds_12 : decode cX4_leastWithNeeds 12 = .ok (.invokevirtual 52, 3) := by decide +kernel
theorem dX4_leastWithNeeds_15 : decode cX4_leastWithNeeds 15 = .ok (.istore 4, 2) := by decide +kernel
theorem dX4_leastWithNeeds_17 : decode cX4_leastWithNeeds 17 = .ok (.iload 4, 2) := by decide +kernel
theorem dX4_leastWithNeeds_19 : decode cX4_leastWithNeeds 19 = .ok (.iload_n 2, 1) := by decide +kernel
theorem dX4_leastWithNeeds_20 : decode cX4_leastWithNeeds 20 = .ok (.if_icmp .ne 5, 3) := by decide +kernel
theorem dX4_leastWithNeeds_23 : decode cX4_leastWithNeeds 23 = .ok (.iload_n 2, 1) := by decide +kernel
theorem dX4_leastWithNeeds_24 : decode cX4_leastWithNeeds 24 = .ok (.ireturn, 1) := by decide +kernel
theorem dX4_leastWithNeeds_25 : decode cX4_leastWithNeeds 25 = .ok (.iload 4, 2) := by decide +kernel
theorem dX4_leastWithNeeds_27 : decode cX4_leastWithNeeds 27 = .ok (.istore_n 2, 1) := by decide +kernel
theorem dX4_leastWithNeeds_28 : decode cX4_leastWithNeeds 28 = .ok (.iinc 3 1, 3) := by decide +kernel
theorem dX4_leastWithNeeds_31 : decode cX4_leastWithNeeds 31 = .ok (.goto (-27), 3) := by decide +kernel
theorem dX4_leastWithNeeds_34 : decode cX4_leastWithNeeds 34 = .ok (.iload_n 2, 1) := by decide +kernel
theorem dX4_leastWithNeeds_35 : decode cX4_leastWithNeeds 35 = .ok (.ireturn, 1) := by decide +kernel
theorem dX4_raisedByNeeds_0 : decode cX4_raisedByNeeds 0 = .ok (.iload_n 1, 1) := by decide +kernel
theorem dX4_raisedByNeeds_1 : decode cX4_raisedByNeeds 1 = .ok (.istore_n 2, 1) := by decide +kernel
theorem dX4_raisedByNeeds_2 : decode cX4_raisedByNeeds 2 = .ok (.iconst 0, 1) := by decide +kernel
theorem dX4_raisedByNeeds_3 : decode cX4_raisedByNeeds 3 = .ok (.istore_n 3, 1) := by decide +kernel
theorem dX4_raisedByNeeds_4 : decode cX4_raisedByNeeds 4 = .ok (.iload_n 3, 1) := by decide +kernel
theorem dX4_raisedByNeeds_5 : decode cX4_raisedByNeeds 5 = .ok (.aload_n 0, 1) := by decide +kernel
theorem dX4_raisedByNeeds_6 : decode cX4_raisedByNeeds 6 = .ok (.getfield 22, 3) := by decide +kernel
theorem dX4_raisedByNeeds_9 : decode cX4_raisedByNeeds 9 = .ok (.if_icmp .ge 44, 3) := by decide +kernel
theorem dX4_raisedByNeeds_12 : decode cX4_raisedByNeeds 12 = .ok (.aload_n 0, 1) := by decide +kernel
theorem dX4_raisedByNeeds_13 : decode cX4_raisedByNeeds 13 = .ok (.iload_n 3, 1) := by decide +kernel
theorem dX4_raisedByNeeds_14 : decode cX4_raisedByNeeds 14 = .ok (.iconst 0, 1) := by decide +kernel
theorem dX4_raisedByNeeds_15 : decode cX4_raisedByNeeds 15 = .ok (.invokevirtual 56, 3) := by decide +kernel
theorem dX4_raisedByNeeds_18 : decode cX4_raisedByNeeds 18 = .ok (.ifCond .ne 29, 3) := by decide +kernel
theorem dX4_raisedByNeeds_21 : decode cX4_raisedByNeeds 21 = .ok (.aload_n 0, 1) := by decide +kernel
theorem dX4_raisedByNeeds_22 : decode cX4_raisedByNeeds 22 = .ok (.iload_n 3, 1) := by decide +kernel
theorem dX4_raisedByNeeds_23 : decode cX4_raisedByNeeds 23 = .ok (.iload_n 2, 1) := by decide +kernel
theorem dX4_raisedByNeeds_24 : decode cX4_raisedByNeeds 24 = .ok (.invokevirtual 43, 3) := by decide +kernel
theorem dX4_raisedByNeeds_27 : decode cX4_raisedByNeeds 27 = .ok (.ifCond .eq 20, 3) := by decide +kernel
theorem dX4_raisedByNeeds_30 : decode cX4_raisedByNeeds 30 = .ok (.iload_n 2, 1) := by decide +kernel
theorem dX4_raisedByNeeds_31 : decode cX4_raisedByNeeds 31 = .ok (.aload_n 0, 1) := by decide +kernel
theorem dX4_raisedByNeeds_32 : decode cX4_raisedByNeeds 32 = .ok (.iload_n 3, 1) := by decide +kernel
theorem dX4_raisedByNeeds_33 : decode cX4_raisedByNeeds 33 = .ok (.iconst 3, 1) := by decide +kernel
theorem dX4_raisedByNeeds_34 : decode cX4_raisedByNeeds 34 = .ok (.invokevirtual 56, 3) := by decide +kernel
theorem dX4_raisedByNeeds_37 : decode cX4_raisedByNeeds 37 = .ok (.aload_n 0, 1) := by decide +kernel
theorem dX4_raisedByNeeds_38 : decode cX4_raisedByNeeds 38 = .ok (.iload_n 3, 1) := by decide +kernel
theorem dX4_raisedByNeeds_39 : decode cX4_raisedByNeeds 39 = .ok (.iconst 4, 1) := by decide +kernel
theorem dX4_raisedByNeeds_40 : decode cX4_raisedByNeeds 40 = .ok (.invokevirtual 56, 3) := by decide +kernel
theorem dX4_raisedByNeeds_43 : decode cX4_raisedByNeeds 43 = .ok (.invokestatic 59, 3) := by decide +kernel
theorem dX4_raisedByNeeds_46 : decode cX4_raisedByNeeds 46 = .ok (.istore_n 2, 1) := by decide +kernel
theorem dX4_raisedByNeeds_47 : decode cX4_raisedByNeeds 47 = .ok (.iinc 3 1, 3) := by decide +kernel
theorem dX4_raisedByNeeds_50 : decode cX4_raisedByNeeds 50 = .ok (.goto (-46), 3) := by decide +kernel
theorem dX4_raisedByNeeds_53 : decode cX4_raisedByNeeds 53 = .ok (.iload_n 2, 1) := by decide +kernel
theorem dX4_raisedByNeeds_54 : decode cX4_raisedByNeeds 54 = .ok (.ireturn, 1) := by decide +kernel
theorem dX4_allow_0 : decode cX4_allow 0 = .ok (.iconst 0, 1) := by decide +kernel
theorem dX4_allow_1 : decode cX4_allow 1 = .ok (.istore_n 3, 1) := by decide +kernel
theorem dX4_allow_2 : decode cX4_allow 2 = .ok (.iload_n 3, 1) := by decide +kernel
theorem dX4_allow_3 : decode cX4_allow 3 = .ok (.aload_n 0, 1) := by decide +kernel
theorem dX4_allow_4 : decode cX4_allow 4 = .ok (.getfield 18, 3) := by decide +kernel
theorem dX4_allow_7 : decode cX4_allow 7 = .ok (.if_icmp .ge 29, 3) := by decide +kernel
theorem dX4_allow_10 : decode cX4_allow 10 = .ok (.aload_n 0, 1) := by decide +kernel
theorem dX4_allow_11 : decode cX4_allow 11 = .ok (.getfield 15, 3) := by decide +kernel
theorem dX4_allow_14 : decode cX4_allow 14 = .ok (.iload_n 3, 1) := by decide +kernel
theorem dX4_allow_15 : decode cX4_allow 15 = .ok (.iaload, 1) := by decide +kernel
theorem dX4_allow_16 : decode cX4_allow 16 = .ok (.ifCond .ne 14, 3) := by decide +kernel
theorem dX4_allow_19 : decode cX4_allow 19 = .ok (.iload_n 3, 1) := by decide +kernel
theorem dX4_allow_20 : decode cX4_allow 20 = .ok (.iload_n 1, 1) := by decide +kernel
theorem dX4_allow_21 : decode cX4_allow 21 = .ok (.invokestatic 47, 3) := by decide +kernel
theorem dX4_allow_24 : decode cX4_allow 24 = .ok (.iload_n 2, 1) := by decide +kernel
theorem dX4_allow_25 : decode cX4_allow 25 = .ok (.if_icmp .lt 5, 3) := by decide +kernel
theorem dX4_allow_28 : decode cX4_allow 28 = .ok (.iconst 1, 1) := by decide +kernel
theorem dX4_allow_29 : decode cX4_allow 29 = .ok (.ireturn, 1) := by decide +kernel
theorem dX4_allow_30 : decode cX4_allow 30 = .ok (.iinc 3 1, 3) := by decide +kernel
theorem dX4_allow_33 : decode cX4_allow 33 = .ok (.goto (-31), 3) := by decide +kernel
theorem dX4_allow_36 : decode cX4_allow 36 = .ok (.iconst 0, 1) := by decide +kernel
theorem dX4_allow_37 : decode cX4_allow 37 = .ok (.ireturn, 1) := by decide +kernel
theorem dX5_init_0 : decode cX5_init 0 = .ok (.aload_n 0, 1) := by decide +kernel
theorem dX5_init_1 : decode cX5_init 1 = .ok (.invokespecial 3, 3) := by decide +kernel
theorem dX5_init_4 : decode cX5_init 4 = .ok (.aload_n 0, 1) := by decide +kernel
theorem dX5_init_5 : decode cX5_init 5 = .ok (.iconst 5, 1) := by decide +kernel
theorem dX5_init_6 : decode cX5_init 6 = .ok (.newarray .int, 2) := by decide +kernel
theorem dX5_init_8 : decode cX5_init 8 = .ok (.putfield 9, 3) := by decide +kernel
theorem dX5_init_11 : decode cX5_init 11 = .ok (.aload_n 0, 1) := by decide +kernel
theorem dX5_init_12 : decode cX5_init 12 = .ok (.iconst 5, 1) := by decide +kernel
theorem dX5_init_13 : decode cX5_init 13 = .ok (.newarray .int, 2) := by decide +kernel
theorem dX5_init_15 : decode cX5_init 15 = .ok (.putfield 15, 3) := by decide +kernel
theorem dX5_init_18 : decode cX5_init 18 = .ok (.aload_n 0, 1) := by decide +kernel
theorem dX5_init_19 : decode cX5_init 19 = .ok (.iconst 5, 1) := by decide +kernel
theorem dX5_init_20 : decode cX5_init 20 = .ok (.newarray .int, 2) := by decide +kernel
theorem dX5_init_22 : decode cX5_init 22 = .ok (.putfield 18, 3) := by decide +kernel
theorem dX5_init_25 : decode cX5_init 25 = .ok (.aload_n 0, 1) := by decide +kernel
theorem dX5_init_26 : decode cX5_init 26 = .ok (.iconst 5, 1) := by decide +kernel
theorem dX5_init_27 : decode cX5_init 27 = .ok (.newarray .int, 2) := by decide +kernel
theorem dX5_init_29 : decode cX5_init 29 = .ok (.putfield 21, 3) := by decide +kernel
theorem dX5_init_32 : decode cX5_init 32 = .ok (.aload_n 0, 1) := by decide +kernel
theorem dX5_init_33 : decode cX5_init 33 = .ok (.iconst 5, 1) := by decide +kernel
theorem dX5_init_34 : decode cX5_init 34 = .ok (.newarray .int, 2) := by decide +kernel
theorem dX5_init_36 : decode cX5_init 36 = .ok (.putfield 24, 3) := by decide +kernel
theorem dX5_init_39 : decode cX5_init 39 = .ok (.aload_n 0, 1) := by decide +kernel
theorem dX5_init_40 : decode cX5_init 40 = .ok (.bipush 6, 2) := by decide +kernel
theorem dX5_init_42 : decode cX5_init 42 = .ok (.newarray .int, 2) := by decide +kernel
theorem dX5_init_44 : decode cX5_init 44 = .ok (.putfield 27, 3) := by decide +kernel
theorem dX5_init_47 : decode cX5_init 47 = .ok (.aload_n 0, 1) := by decide +kernel
theorem dX5_init_48 : decode cX5_init 48 = .ok (.bipush 24, 2) := by decide +kernel
theorem dX5_init_50 : decode cX5_init 50 = .ok (.newarray .int, 2) := by decide +kernel
theorem dX5_init_52 : decode cX5_init 52 = .ok (.putfield 30, 3) := by decide +kernel
theorem dX5_init_55 : decode cX5_init 55 = .ok (.aload_n 0, 1) := by decide +kernel
theorem dX5_init_56 : decode cX5_init 56 = .ok (.aload_n 1, 1) := by decide +kernel
theorem dX5_init_57 : decode cX5_init 57 = .ok (.putfield 33, 3) := by decide +kernel
theorem dX5_init_60 : decode cX5_init 60 = .ok (.return_, 1) := by decide +kernel
theorem dX5_copy_0 : decode cX5_copy 0 = .ok (.aload_n 1, 1) := by decide +kernel
theorem dX5_copy_1 : decode cX5_copy 1 = .ok (.getfield 9, 3) := by decide +kernel
theorem dX5_copy_4 : decode cX5_copy 4 = .ok (.iconst 0, 1) := by decide +kernel
theorem dX5_copy_5 : decode cX5_copy 5 = .ok (.aload_n 0, 1) := by decide +kernel
theorem dX5_copy_6 : decode cX5_copy 6 = .ok (.getfield 9, 3) := by decide +kernel
theorem dX5_copy_9 : decode cX5_copy 9 = .ok (.iconst 0, 1) := by decide +kernel
theorem dX5_copy_10 : decode cX5_copy 10 = .ok (.iconst 5, 1) := by decide +kernel
theorem dX5_copy_11 : decode cX5_copy 11 = .ok (.invokestatic 37, 3) := by decide +kernel
theorem dX5_copy_14 : decode cX5_copy 14 = .ok (.aload_n 1, 1) := by decide +kernel
theorem dX5_copy_15 : decode cX5_copy 15 = .ok (.getfield 15, 3) := by decide +kernel
theorem dX5_copy_18 : decode cX5_copy 18 = .ok (.iconst 0, 1) := by decide +kernel
theorem dX5_copy_19 : decode cX5_copy 19 = .ok (.aload_n 0, 1) := by decide +kernel
theorem dX5_copy_20 : decode cX5_copy 20 = .ok (.getfield 15, 3) := by decide +kernel
theorem dX5_copy_23 : decode cX5_copy 23 = .ok (.iconst 0, 1) := by decide +kernel
theorem dX5_copy_24 : decode cX5_copy 24 = .ok (.iconst 5, 1) := by decide +kernel
theorem dX5_copy_25 : decode cX5_copy 25 = .ok (.invokestatic 37, 3) := by decide +kernel
theorem dX5_copy_28 : decode cX5_copy 28 = .ok (.aload_n 1, 1) := by decide +kernel
theorem dX5_copy_29 : decode cX5_copy 29 = .ok (.getfield 18, 3) := by decide +kernel
theorem dX5_copy_32 : decode cX5_copy 32 = .ok (.iconst 0, 1) := by decide +kernel
theorem dX5_copy_33 : decode cX5_copy 33 = .ok (.aload_n 0, 1) := by decide +kernel
theorem dX5_copy_34 : decode cX5_copy 34 = .ok (.getfield 18, 3) := by decide +kernel
theorem dX5_copy_37 : decode cX5_copy 37 = .ok (.iconst 0, 1) := by decide +kernel
theorem dX5_copy_38 : decode cX5_copy 38 = .ok (.iconst 5, 1) := by decide +kernel
theorem dX5_copy_39 : decode cX5_copy 39 = .ok (.invokestatic 37, 3) := by decide +kernel
theorem dX5_copy_42 : decode cX5_copy 42 = .ok (.aload_n 1, 1) := by decide +kernel
theorem dX5_copy_43 : decode cX5_copy 43 = .ok (.getfield 21, 3) := by decide +kernel
theorem dX5_copy_46 : decode cX5_copy 46 = .ok (.iconst 0, 1) := by decide +kernel
theorem dX5_copy_47 : decode cX5_copy 47 = .ok (.aload_n 0, 1) := by decide +kernel
theorem dX5_copy_48 : decode cX5_copy 48 = .ok (.getfield 21, 3) := by decide +kernel
theorem dX5_copy_51 : decode cX5_copy 51 = .ok (.iconst 0, 1) := by decide +kernel
theorem dX5_copy_52 : decode cX5_copy 52 = .ok (.iconst 5, 1) := by decide +kernel
theorem dX5_copy_53 : decode cX5_copy 53 = .ok (.invokestatic 37, 3) := by decide +kernel
theorem dX5_copy_56 : decode cX5_copy 56 = .ok (.aload_n 1, 1) := by decide +kernel
theorem dX5_copy_57 : decode cX5_copy 57 = .ok (.getfield 24, 3) := by decide +kernel
theorem dX5_copy_60 : decode cX5_copy 60 = .ok (.iconst 0, 1) := by decide +kernel
theorem dX5_copy_61 : decode cX5_copy 61 = .ok (.aload_n 0, 1) := by decide +kernel
theorem dX5_copy_62 : decode cX5_copy 62 = .ok (.getfield 24, 3) := by decide +kernel
theorem dX5_copy_65 : decode cX5_copy 65 = .ok (.iconst 0, 1) := by decide +kernel
theorem dX5_copy_66 : decode cX5_copy 66 = .ok (.iconst 5, 1) := by decide +kernel
theorem dX5_copy_67 : decode cX5_copy 67 = .ok (.invokestatic 37, 3) := by decide +kernel
theorem dX5_copy_70 : decode cX5_copy 70 = .ok (.aload_n 1, 1) := by decide +kernel
theorem dX5_copy_71 : decode cX5_copy 71 = .ok (.getfield 27, 3) := by decide +kernel
theorem dX5_copy_74 : decode cX5_copy 74 = .ok (.iconst 0, 1) := by decide +kernel
theorem dX5_copy_75 : decode cX5_copy 75 = .ok (.aload_n 0, 1) := by decide +kernel
theorem dX5_copy_76 : decode cX5_copy 76 = .ok (.getfield 27, 3) := by decide +kernel
theorem dX5_copy_79 : decode cX5_copy 79 = .ok (.iconst 0, 1) := by decide +kernel
theorem dX5_copy_80 : decode cX5_copy 80 = .ok (.bipush 6, 2) := by decide +kernel
theorem dX5_copy_82 : decode cX5_copy 82 = .ok (.invokestatic 37, 3) := by decide +kernel
theorem dX5_copy_85 : decode cX5_copy 85 = .ok (.aload_n 1, 1) := by decide +kernel
theorem dX5_copy_86 : decode cX5_copy 86 = .ok (.getfield 30, 3) := by decide +kernel
theorem dX5_copy_89 : decode cX5_copy 89 = .ok (.iconst 0, 1) := by decide +kernel
theorem dX5_copy_90 : decode cX5_copy 90 = .ok (.aload_n 0, 1) := by decide +kernel
theorem dX5_copy_91 : decode cX5_copy 91 = .ok (.getfield 30, 3) := by decide +kernel
theorem dX5_copy_94 : decode cX5_copy 94 = .ok (.iconst 0, 1) := by decide +kernel
theorem dX5_copy_95 : decode cX5_copy 95 = .ok (.bipush 24, 2) := by decide +kernel
theorem dX5_copy_97 : decode cX5_copy 97 = .ok (.invokestatic 37, 3) := by decide +kernel
theorem dX5_copy_100 : decode cX5_copy 100 = .ok (.aload_n 0, 1) := by decide +kernel
theorem dX5_copy_101 : decode cX5_copy 101 = .ok (.aload_n 1, 1) := by decide +kernel
theorem dX5_copy_102 : decode cX5_copy 102 = .ok (.getfield 43, 3) := by decide +kernel
theorem dX5_copy_105 : decode cX5_copy 105 = .ok (.putfield 43, 3) := by decide +kernel
theorem dX5_copy_108 : decode cX5_copy 108 = .ok (.aload_n 0, 1) := by decide +kernel
theorem dX5_copy_109 : decode cX5_copy 109 = .ok (.aload_n 1, 1) := by decide +kernel
theorem dX5_copy_110 : decode cX5_copy 110 = .ok (.getfield 47, 3) := by decide +kernel
theorem dX5_copy_113 : decode cX5_copy 113 = .ok (.putfield 47, 3) := by decide +kernel
theorem dX5_copy_116 : decode cX5_copy 116 = .ok (.return_, 1) := by decide +kernel
theorem dX5_take_0 : decode cX5_take 0 = .ok (.aload_n 1, 1) := by decide +kernel
theorem dX5_take_1 : decode cX5_take 1 = .ok (.getfield 50, 3) := by decide +kernel
theorem dX5_take_4 : decode cX5_take 4 = .ok (.iconst 0, 1) := by decide +kernel
theorem dX5_take_5 : decode cX5_take 5 = .ok (.aload_n 0, 1) := by decide +kernel
theorem dX5_take_6 : decode cX5_take 6 = .ok (.getfield 9, 3) := by decide +kernel
theorem dX5_take_9 : decode cX5_take 9 = .ok (.iconst 0, 1) := by decide +kernel
theorem dX5_take_10 : decode cX5_take 10 = .ok (.iconst 5, 1) := by decide +kernel
theorem dX5_take_11 : decode cX5_take 11 = .ok (.invokestatic 37, 3) := by decide +kernel
theorem dX5_take_14 : decode cX5_take 14 = .ok (.aload_n 1, 1) := by decide +kernel
theorem dX5_take_15 : decode cX5_take 15 = .ok (.getfield 53, 3) := by decide +kernel
theorem dX5_take_18 : decode cX5_take 18 = .ok (.iconst 0, 1) := by decide +kernel
theorem dX5_take_19 : decode cX5_take 19 = .ok (.aload_n 0, 1) := by decide +kernel
theorem dX5_take_20 : decode cX5_take 20 = .ok (.getfield 15, 3) := by decide +kernel
theorem dX5_take_23 : decode cX5_take 23 = .ok (.iconst 0, 1) := by decide +kernel
theorem dX5_take_24 : decode cX5_take 24 = .ok (.iconst 5, 1) := by decide +kernel
theorem dX5_take_25 : decode cX5_take 25 = .ok (.invokestatic 37, 3) := by decide +kernel
theorem dX5_take_28 : decode cX5_take 28 = .ok (.aload_n 1, 1) := by decide +kernel
theorem dX5_take_29 : decode cX5_take 29 = .ok (.getfield 54, 3) := by decide +kernel
theorem dX5_take_32 : decode cX5_take 32 = .ok (.iconst 0, 1) := by decide +kernel
theorem dX5_take_33 : decode cX5_take 33 = .ok (.aload_n 0, 1) := by decide +kernel
theorem dX5_take_34 : decode cX5_take 34 = .ok (.getfield 27, 3) := by decide +kernel
theorem dX5_take_37 : decode cX5_take 37 = .ok (.iconst 0, 1) := by decide +kernel
theorem dX5_take_38 : decode cX5_take 38 = .ok (.bipush 6, 2) := by decide +kernel
theorem dX5_take_40 : decode cX5_take 40 = .ok (.invokestatic 37, 3) := by decide +kernel
theorem dX5_take_43 : decode cX5_take 43 = .ok (.aload_n 0, 1) := by decide +kernel
theorem dX5_take_44 : decode cX5_take 44 = .ok (.getfield 18, 3) := by decide +kernel
theorem dX5_take_47 : decode cX5_take 47 = .ok (.iconst 0, 1) := by decide +kernel
theorem dX5_take_48 : decode cX5_take 48 = .ok (.invokestatic 55, 3) := by decide +kernel
theorem dX5_take_51 : decode cX5_take 51 = .ok (.aload_n 0, 1) := by decide +kernel
theorem dX5_take_52 : decode cX5_take 52 = .ok (.getfield 21, 3) := by decide +kernel
theorem dX5_take_55 : decode cX5_take 55 = .ok (.iconst 0, 1) := by decide +kernel
theorem dX5_take_56 : decode cX5_take 56 = .ok (.invokestatic 55, 3) := by decide +kernel
theorem dX5_take_59 : decode cX5_take 59 = .ok (.aload_n 0, 1) := by decide +kernel
theorem dX5_take_60 : decode cX5_take 60 = .ok (.getfield 24, 3) := by decide +kernel
theorem dX5_take_63 : decode cX5_take 63 = .ok (.iconst 0, 1) := by decide +kernel
theorem dX5_take_64 : decode cX5_take 64 = .ok (.invokestatic 55, 3) := by decide +kernel
theorem dX5_take_67 : decode cX5_take 67 = .ok (.aload_n 0, 1) := by decide +kernel
theorem dX5_take_68 : decode cX5_take 68 = .ok (.getfield 30, 3) := by decide +kernel
theorem dX5_take_71 : decode cX5_take 71 = .ok (.iconst 0, 1) := by decide +kernel
theorem dX5_take_72 : decode cX5_take 72 = .ok (.invokestatic 55, 3) := by decide +kernel
theorem dX5_take_75 : decode cX5_take 75 = .ok (.aload_n 0, 1) := by decide +kernel
theorem dX5_take_76 : decode cX5_take 76 = .ok (.iconst 0, 1) := by decide +kernel
theorem dX5_take_77 : decode cX5_take 77 = .ok (.putfield 43, 3) := by decide +kernel
theorem dX5_take_80 : decode cX5_take 80 = .ok (.aload_n 0, 1) := by decide +kernel
theorem dX5_take_81 : decode cX5_take 81 = .ok (.iconst 0, 1) := by decide +kernel
theorem dX5_take_82 : decode cX5_take 82 = .ok (.putfield 47, 3) := by decide +kernel
theorem dX5_take_85 : decode cX5_take 85 = .ok (.return_, 1) := by decide +kernel
theorem dX5_isQuarantined_0 : decode cX5_isQuarantined 0 = .ok (.aload_n 0, 1) := by decide +kernel
theorem dX5_isQuarantined_1 : decode cX5_isQuarantined 1 = .ok (.getfield 24, 3) := by decide +kernel
theorem dX5_isQuarantined_4 : decode cX5_isQuarantined 4 = .ok (.iload_n 1, 1) := by decide +kernel
theorem dX5_isQuarantined_5 : decode cX5_isQuarantined 5 = .ok (.iaload, 1) := by decide +kernel
theorem dX5_isQuarantined_6 : decode cX5_isQuarantined 6 = .ok (.aload_n 0, 1) := by decide +kernel
theorem dX5_isQuarantined_7 : decode cX5_isQuarantined 7 = .ok (.getfield 43, 3) := by decide +kernel
theorem dX5_isQuarantined_10 : decode cX5_isQuarantined 10 = .ok (.if_icmp .le 7, 3) := by decide +kernel
theorem dX5_isQuarantined_13 : decode cX5_isQuarantined 13 = .ok (.iconst 1, 1) := by decide +kernel
theorem dX5_isQuarantined_14 : decode cX5_isQuarantined 14 = .ok (.goto 4, 3) := by decide +kernel
theorem dX5_isQuarantined_17 : decode cX5_isQuarantined 17 = .ok (.iconst 0, 1) := by decide +kernel
theorem dX5_isQuarantined_18 : decode cX5_isQuarantined 18 = .ok (.ireturn, 1) := by decide +kernel
theorem dX5_isDrifted_0 : decode cX5_isDrifted 0 = .ok (.aload_n 0, 1) := by decide +kernel
theorem dX5_isDrifted_1 : decode cX5_isDrifted 1 = .ok (.getfield 9, 3) := by decide +kernel
theorem dX5_isDrifted_4 : decode cX5_isDrifted 4 = .ok (.iload_n 1, 1) := by decide +kernel
theorem dX5_isDrifted_5 : decode cX5_isDrifted 5 = .ok (.iaload, 1) := by decide +kernel
theorem dX5_isDrifted_6 : decode cX5_isDrifted 6 = .ok (.aload_n 0, 1) := by decide +kernel
theorem dX5_isDrifted_7 : decode cX5_isDrifted 7 = .ok (.getfield 15, 3) := by decide +kernel
theorem dX5_isDrifted_10 : decode cX5_isDrifted 10 = .ok (.iload_n 1, 1) := by decide +kernel
theorem dX5_isDrifted_11 : decode cX5_isDrifted 11 = .ok (.iaload, 1) := by decide +kernel
theorem dX5_isDrifted_12 : decode cX5_isDrifted 12 = .ok (.ixor, 1) := by decide +kernel
theorem dX5_isDrifted_13 : decode cX5_isDrifted 13 = .ok (.iconst 2, 1) := by decide +kernel
theorem dX5_isDrifted_14 : decode cX5_isDrifted 14 = .ok (.iload_n 2, 1) := by decide +kernel
theorem dX5_isDrifted_15 : decode cX5_isDrifted 15 = .ok (.imul, 1) := by decide +kernel
theorem dX5_isDrifted_16 : decode cX5_isDrifted 16 = .ok (.ishr, 1) := by decide +kernel
theorem dX5_isDrifted_17 : decode cX5_isDrifted 17 = .ok (.iconst 3, 1) := by decide +kernel
theorem dX5_isDrifted_18 : decode cX5_isDrifted 18 = .ok (.iand, 1) := by decide +kernel
theorem dX5_isDrifted_19 : decode cX5_isDrifted 19 = .ok (.ifCond .eq 7, 3) := by decide +kernel
theorem dX5_isDrifted_22 : decode cX5_isDrifted 22 = .ok (.iconst 1, 1) := by decide +kernel
theorem dX5_isDrifted_23 : decode cX5_isDrifted 23 = .ok (.goto 4, 3) := by decide +kernel
theorem dX5_isDrifted_26 : decode cX5_isDrifted 26 = .ok (.iconst 0, 1) := by decide +kernel
theorem dX5_isDrifted_27 : decode cX5_isDrifted 27 = .ok (.ireturn, 1) := by decide +kernel
theorem dX5_driftedOn_0 : decode cX5_driftedOn 0 = .ok (.iconst 0, 1) := by decide +kernel
theorem dX5_driftedOn_1 : decode cX5_driftedOn 1 = .ok (.istore_n 2, 1) := by decide +kernel
theorem dX5_driftedOn_2 : decode cX5_driftedOn 2 = .ok (.iconst 0, 1) := by decide +kernel
theorem dX5_driftedOn_3 : decode cX5_driftedOn 3 = .ok (.istore_n 3, 1) := by decide +kernel
theorem dX5_driftedOn_4 : decode cX5_driftedOn 4 = .ok (.iload_n 3, 1) := by decide +kernel
theorem dX5_driftedOn_5 : decode cX5_driftedOn 5 = .ok (.aload_n 0, 1) := by decide +kernel
theorem dX5_driftedOn_6 : decode cX5_driftedOn 6 = .ok (.getfield 33, 3) := by decide +kernel
theorem dX5_driftedOn_9 : decode cX5_driftedOn 9 = .ok (.getfield 61, 3) := by decide +kernel
theorem dX5_driftedOn_12 : decode cX5_driftedOn 12 = .ok (.if_icmp .ge 24, 3) := by decide +kernel
theorem dX5_driftedOn_15 : decode cX5_driftedOn 15 = .ok (.aload_n 0, 1) := by decide +kernel
theorem dX5_driftedOn_16 : decode cX5_driftedOn 16 = .ok (.iload_n 1, 1) := by decide +kernel
theorem dX5_driftedOn_17 : decode cX5_driftedOn 17 = .ok (.iload_n 3, 1) := by decide +kernel
theorem dX5_driftedOn_18 : decode cX5_driftedOn 18 = .ok (.invokevirtual 66, 3) := by decide +kernel
theorem dX5_driftedOn_21 : decode cX5_driftedOn 21 = .ok (.ifCond .eq 9, 3) := by decide +kernel
theorem dX5_driftedOn_24 : decode cX5_driftedOn 24 = .ok (.iload_n 2, 1) := by decide +kernel
theorem dX5_driftedOn_25 : decode cX5_driftedOn 25 = .ok (.iconst 1, 1) := by decide +kernel
theorem dX5_driftedOn_26 : decode cX5_driftedOn 26 = .ok (.iload_n 3, 1) := by decide +kernel
theorem dX5_driftedOn_27 : decode cX5_driftedOn 27 = .ok (.ishl, 1) := by decide +kernel
theorem dX5_driftedOn_28 : decode cX5_driftedOn 28 = .ok (.ior, 1) := by decide +kernel
theorem dX5_driftedOn_29 : decode cX5_driftedOn 29 = .ok (.istore_n 2, 1) := by decide +kernel
theorem dX5_driftedOn_30 : decode cX5_driftedOn 30 = .ok (.iinc 3 1, 3) := by decide +kernel
theorem dX5_driftedOn_33 : decode cX5_driftedOn 33 = .ok (.goto (-29), 3) := by decide +kernel
theorem dX5_driftedOn_36 : decode cX5_driftedOn 36 = .ok (.iload_n 2, 1) := by decide +kernel
theorem dX5_driftedOn_37 : decode cX5_driftedOn 37 = .ok (.ireturn, 1) := by decide +kernel
theorem dX5_driftedNodes_0 : decode cX5_driftedNodes 0 = .ok (.iconst 0, 1) := by decide +kernel
theorem dX5_driftedNodes_1 : decode cX5_driftedNodes 1 = .ok (.istore_n 1, 1) := by decide +kernel
theorem dX5_driftedNodes_2 : decode cX5_driftedNodes 2 = .ok (.iconst 0, 1) := by decide +kernel
theorem dX5_driftedNodes_3 : decode cX5_driftedNodes 3 = .ok (.istore_n 2, 1) := by decide +kernel
theorem dX5_driftedNodes_4 : decode cX5_driftedNodes 4 = .ok (.iload_n 2, 1) := by decide +kernel
theorem dX5_driftedNodes_5 : decode cX5_driftedNodes 5 = .ok (.aload_n 0, 1) := by decide +kernel
theorem dX5_driftedNodes_6 : decode cX5_driftedNodes 6 = .ok (.getfield 33, 3) := by decide +kernel
theorem dX5_driftedNodes_9 : decode cX5_driftedNodes 9 = .ok (.getfield 70, 3) := by decide +kernel
theorem dX5_driftedNodes_12 : decode cX5_driftedNodes 12 = .ok (.if_icmp .ge 30, 3) := by decide +kernel
theorem dX5_driftedNodes_15 : decode cX5_driftedNodes 15 = .ok (.aload_n 0, 1) := by decide +kernel
theorem dX5_driftedNodes_16 : decode cX5_driftedNodes 16 = .ok (.getfield 9, 3) := by decide +kernel
theorem dX5_driftedNodes_19 : decode cX5_driftedNodes 19 = .ok (.iload_n 2, 1) := by decide +kernel
theorem dX5_driftedNodes_20 : decode cX5_driftedNodes 20 = .ok (.iaload, 1) := by decide +kernel
theorem dX5_driftedNodes_21 : decode cX5_driftedNodes 21 = .ok (.aload_n 0, 1) := by decide +kernel
theorem dX5_driftedNodes_22 : decode cX5_driftedNodes 22 = .ok (.getfield 15, 3) := by decide +kernel
theorem dX5_driftedNodes_25 : decode cX5_driftedNodes 25 = .ok (.iload_n 2, 1) := by decide +kernel
theorem dX5_driftedNodes_26 : decode cX5_driftedNodes 26 = .ok (.iaload, 1) := by decide +kernel
theorem dX5_driftedNodes_27 : decode cX5_driftedNodes 27 = .ok (.if_icmp .eq 9, 3) := by decide +kernel
theorem dX5_driftedNodes_30 : decode cX5_driftedNodes 30 = .ok (.iload_n 1, 1) := by decide +kernel
theorem dX5_driftedNodes_31 : decode cX5_driftedNodes 31 = .ok (.iconst 1, 1) := by decide +kernel
theorem dX5_driftedNodes_32 : decode cX5_driftedNodes 32 = .ok (.iload_n 2, 1) := by decide +kernel
theorem dX5_driftedNodes_33 : decode cX5_driftedNodes 33 = .ok (.ishl, 1) := by decide +kernel
theorem dX5_driftedNodes_34 : decode cX5_driftedNodes 34 = .ok (.ior, 1) := by decide +kernel
theorem dX5_driftedNodes_35 : decode cX5_driftedNodes 35 = .ok (.istore_n 1, 1) := by decide +kernel
theorem dX5_driftedNodes_36 : decode cX5_driftedNodes 36 = .ok (.iinc 2 1, 3) := by decide +kernel
theorem dX5_driftedNodes_39 : decode cX5_driftedNodes 39 = .ok (.goto (-35), 3) := by decide +kernel
theorem dX5_driftedNodes_42 : decode cX5_driftedNodes 42 = .ok (.iload_n 1, 1) := by decide +kernel
theorem dX5_driftedNodes_43 : decode cX5_driftedNodes 43 = .ok (.ireturn, 1) := by decide +kernel
theorem dX5_calmNodes_0 : decode cX5_calmNodes 0 = .ok (.iconst 1, 1) := by decide +kernel
theorem dX5_calmNodes_1 : decode cX5_calmNodes 1 = .ok (.aload_n 0, 1) := by decide +kernel
theorem dX5_calmNodes_2 : decode cX5_calmNodes 2 = .ok (.getfield 33, 3) := by decide +kernel
theorem dX5_calmNodes_5 : decode cX5_calmNodes 5 = .ok (.getfield 70, 3) := by decide +kernel
theorem dX5_calmNodes_8 : decode cX5_calmNodes 8 = .ok (.ishl, 1) := by decide +kernel
theorem dX5_calmNodes_9 : decode cX5_calmNodes 9 = .ok (.iconst 1, 1) := by decide +kernel
theorem dX5_calmNodes_10 : decode cX5_calmNodes 10 = .ok (.isub, 1) := by decide +kernel
theorem dX5_calmNodes_11 : decode cX5_calmNodes 11 = .ok (.aload_n 0, 1) := by decide +kernel
theorem dX5_calmNodes_12 : decode cX5_calmNodes 12 = .ok (.invokevirtual 73, 3) := by decide +kernel
theorem dX5_calmNodes_15 : decode cX5_calmNodes 15 = .ok (.iconst (-1), 1) := by decide +kernel
theorem dX5_calmNodes_16 : decode cX5_calmNodes 16 = .ok (.ixor, 1) := by decide +kernel
theorem dX5_calmNodes_17 : decode cX5_calmNodes 17 = .ok (.iand, 1) := by decide +kernel
theorem dX5_calmNodes_18 : decode cX5_calmNodes 18 = .ok (.ireturn, 1) := by decide +kernel
theorem dX5_digestOf_0 : decode cX5_digestOf 0 = .ok (.iconst 0, 1) := by decide +kernel
theorem dX5_digestOf_1 : decode cX5_digestOf 1 = .ok (.istore_n 2, 1) := by decide +kernel
theorem dX5_digestOf_2 : decode cX5_digestOf 2 = .ok (.iconst 0, 1) := by decide +kernel
theorem dX5_digestOf_3 : decode cX5_digestOf 3 = .ok (.istore_n 3, 1) := by decide +kernel
theorem dX5_digestOf_4 : decode cX5_digestOf 4 = .ok (.iload_n 3, 1) := by decide +kernel
theorem dX5_digestOf_5 : decode cX5_digestOf 5 = .ok (.aload_n 0, 1) := by decide +kernel
theorem dX5_digestOf_6 : decode cX5_digestOf 6 = .ok (.getfield 33, 3) := by decide +kernel
theorem dX5_digestOf_9 : decode cX5_digestOf 9 = .ok (.getfield 61, 3) := by decide +kernel
theorem dX5_digestOf_12 : decode cX5_digestOf 12 = .ok (.if_icmp .ge 26, 3) := by decide +kernel
theorem dX5_digestOf_15 : decode cX5_digestOf 15 = .ok (.iload_n 2, 1) := by decide +kernel
theorem dX5_digestOf_16 : decode cX5_digestOf 16 = .ok (.iload_n 3, 1) := by decide +kernel
theorem dX5_digestOf_17 : decode cX5_digestOf 17 = .ok (.iconst 1, 1) := by decide +kernel
theorem dX5_digestOf_18 : decode cX5_digestOf 18 = .ok (.iadd, 1) := by decide +kernel
theorem dX5_digestOf_19 : decode cX5_digestOf 19 = .ok (.aload_n 0, 1) := by decide +kernel
theorem dX5_digestOf_20 : decode cX5_digestOf 20 = .ok (.getfield 9, 3) := by decide +kernel
theorem dX5_digestOf_23 : decode cX5_digestOf 23 = .ok (.iload_n 1, 1) := by decide +kernel
theorem dX5_digestOf_24 : decode cX5_digestOf 24 = .ok (.iaload, 1) := by decide +kernel
theorem dX5_digestOf_25 : decode cX5_digestOf 25 = .ok (.iload_n 3, 1) := by decide +kernel
theorem dX5_digestOf_26 : decode cX5_digestOf 26 = .ok (.invokestatic 77, 3) := by decide +kernel
theorem dX5_digestOf_29 : decode cX5_digestOf 29 = .ok (.imul, 1) := by decide +kernel
theorem dX5_digestOf_30 : decode cX5_digestOf 30 = .ok (.iadd, 1) := by decide +kernel
theorem dX5_digestOf_31 : decode cX5_digestOf 31 = .ok (.istore_n 2, 1) := by decide +kernel
theorem dX5_digestOf_32 : decode cX5_digestOf 32 = .ok (.iinc 3 1, 3) := by decide +kernel
theorem dX5_digestOf_35 : decode cX5_digestOf 35 = .ok (.goto (-31), 3) := by decide +kernel
theorem dX5_digestOf_38 : decode cX5_digestOf 38 = .ok (.iload_n 2, 1) := by decide +kernel
theorem dX5_digestOf_39 : decode cX5_digestOf 39 = .ok (.ireturn, 1) := by decide +kernel
theorem dX5_numberOf_0 : decode cX5_numberOf 0 = .ok (.iload_n 2, 1) := by decide +kernel
theorem dX5_numberOf_1 : decode cX5_numberOf 1 = .ok (.tableswitch 106 0 5 #[39, 49, 56, 63, 83, 89], 39) := by decide +kernel
theorem dX5_numberOf_40 : decode cX5_numberOf 40 = .ok (.aload_n 0, 1) := by decide +kernel
theorem dX5_numberOf_41 : decode cX5_numberOf 41 = .ok (.getfield 33, 3) := by decide +kernel
theorem dX5_numberOf_44 : decode cX5_numberOf 44 = .ok (.getfield 83, 3) := by decide +kernel
theorem dX5_numberOf_47 : decode cX5_numberOf 47 = .ok (.iload_n 1, 1) := by decide +kernel
theorem dX5_numberOf_48 : decode cX5_numberOf 48 = .ok (.iaload, 1) := by decide +kernel
theorem dX5_numberOf_49 : decode cX5_numberOf 49 = .ok (.ireturn, 1) := by decide +kernel
theorem dX5_numberOf_50 : decode cX5_numberOf 50 = .ok (.aload_n 0, 1) := by decide +kernel
theorem dX5_numberOf_51 : decode cX5_numberOf 51 = .ok (.getfield 18, 3) := by decide +kernel
theorem dX5_numberOf_54 : decode cX5_numberOf 54 = .ok (.iload_n 1, 1) := by decide +kernel
theorem dX5_numberOf_55 : decode cX5_numberOf 55 = .ok (.iaload, 1) := by decide +kernel
theorem dX5_numberOf_56 : decode cX5_numberOf 56 = .ok (.ireturn, 1) := by decide +kernel
theorem dX5_numberOf_57 : decode cX5_numberOf 57 = .ok (.aload_n 0, 1) := by decide +kernel
theorem dX5_numberOf_58 : decode cX5_numberOf 58 = .ok (.getfield 21, 3) := by decide +kernel
theorem dX5_numberOf_61 : decode cX5_numberOf 61 = .ok (.iload_n 1, 1) := by decide +kernel
theorem dX5_numberOf_62 : decode cX5_numberOf 62 = .ok (.iaload, 1) := by decide +kernel
theorem dX5_numberOf_63 : decode cX5_numberOf 63 = .ok (.ireturn, 1) := by decide +kernel
theorem dX5_numberOf_64 : decode cX5_numberOf 64 = .ok (.aload_n 0, 1) := by decide +kernel
theorem dX5_numberOf_65 : decode cX5_numberOf 65 = .ok (.iload_n 1, 1) := by decide +kernel
theorem dX5_numberOf_66 : decode cX5_numberOf 66 = .ok (.invokevirtual 86, 3) := by decide +kernel
theorem dX5_numberOf_69 : decode cX5_numberOf 69 = .ok (.ifCond .eq 12, 3) := by decide +kernel
theorem dX5_numberOf_72 : decode cX5_numberOf 72 = .ok (.aload_n 0, 1) := by decide +kernel
theorem dX5_numberOf_73 : decode cX5_numberOf 73 = .ok (.getfield 24, 3) := by decide +kernel
theorem dX5_numberOf_76 : decode cX5_numberOf 76 = .ok (.iload_n 1, 1) := by decide +kernel
theorem dX5_numberOf_77 : decode cX5_numberOf 77 = .ok (.iaload, 1) := by decide +kernel
theorem dX5_numberOf_78 : decode cX5_numberOf 78 = .ok (.goto 5, 3) := by decide +kernel
theorem dX5_numberOf_81 : decode cX5_numberOf 81 = .ok (.bipush (-9), 2) := by decide +kernel
theorem dX5_numberOf_83 : decode cX5_numberOf 83 = .ok (.ireturn, 1) := by decide +kernel
theorem dX5_numberOf_84 : decode cX5_numberOf 84 = .ok (.aload_n 0, 1) := by decide +kernel
theorem dX5_numberOf_85 : decode cX5_numberOf 85 = .ok (.iload_n 1, 1) := by decide +kernel
theorem dX5_numberOf_86 : decode cX5_numberOf 86 = .ok (.invokevirtual 90, 3) := by decide +kernel
theorem dX5_numberOf_89 : decode cX5_numberOf 89 = .ok (.ireturn, 1) := by decide +kernel
theorem dX5_numberOf_90 : decode cX5_numberOf 90 = .ok (.aload_n 0, 1) := by decide +kernel
theorem dX5_numberOf_91 : decode cX5_numberOf 91 = .ok (.getfield 33, 3) := by decide +kernel
theorem dX5_numberOf_94 : decode cX5_numberOf 94 = .ok (.getfield 94, 3) := by decide +kernel
theorem dX5_numberOf_97 : decode cX5_numberOf 97 = .ok (.aload_n 0, 1) := by decide +kernel
theorem dX5_numberOf_98 : decode cX5_numberOf 98 = .ok (.getfield 9, 3) := by decide +kernel
theorem dX5_numberOf_101 : decode cX5_numberOf 101 = .ok (.iload_n 1, 1) := by decide +kernel
theorem dX5_numberOf_102 : decode cX5_numberOf 102 = .ok (.iaload, 1) := by decide +kernel
theorem dX5_numberOf_103 : decode cX5_numberOf 103 = .ok (.invokevirtual 98, 3) := by decide +kernel
theorem dX5_numberOf_106 : decode cX5_numberOf 106 = .ok (.ireturn, 1) := by decide +kernel
theorem dX5_numberOf_107 : decode cX5_numberOf 107 = .ok (.aload_n 0, 1) := by decide +kernel
theorem dX5_numberOf_108 : decode cX5_numberOf 108 = .ok (.iload_n 1, 1) := by decide +kernel
theorem dX5_numberOf_109 : decode cX5_numberOf 109 = .ok (.invokevirtual 103, 3) := by decide +kernel
theorem dX5_numberOf_112 : decode cX5_numberOf 112 = .ok (.ireturn, 1) := by decide +kernel
theorem dX5_stateOf_0 : decode cX5_stateOf 0 = .ok (.aload_n 0, 1) := by decide +kernel
theorem dX5_stateOf_1 : decode cX5_stateOf 1 = .ok (.iload_n 1, 1) := by decide +kernel
theorem dX5_stateOf_2 : decode cX5_stateOf 2 = .ok (.iload_n 2, 1) := by decide +kernel
theorem dX5_stateOf_3 : decode cX5_stateOf 3 = .ok (.invokevirtual 66, 3) := by decide +kernel
theorem dX5_stateOf_6 : decode cX5_stateOf 6 = .ok (.ifCond .ne 5, 3) := by decide +kernel
theorem dX5_stateOf_9 : decode cX5_stateOf 9 = .ok (.iconst 1, 1) := by decide +kernel
theorem dX5_stateOf_10 : decode cX5_stateOf 10 = .ok (.ireturn, 1) := by decide +kernel
theorem dX5_stateOf_11 : decode cX5_stateOf 11 = .ok (.aload_n 0, 1) := by decide +kernel
theorem dX5_stateOf_12 : decode cX5_stateOf 12 = .ok (.iload_n 1, 1) := by decide +kernel
theorem dX5_stateOf_13 : decode cX5_stateOf 13 = .ok (.invokevirtual 86, 3) := by decide +kernel
theorem dX5_stateOf_16 : decode cX5_stateOf 16 = .ok (.ifCond .eq 5, 3) := by decide +kernel
theorem dX5_stateOf_19 : decode cX5_stateOf 19 = .ok (.iconst 2, 1) := by decide +kernel
theorem dX5_stateOf_20 : decode cX5_stateOf 20 = .ok (.ireturn, 1) := by decide +kernel
theorem dX5_stateOf_21 : decode cX5_stateOf 21 = .ok (.aload_n 0, 1) := by decide +kernel
theorem dX5_stateOf_22 : decode cX5_stateOf 22 = .ok (.iload_n 2, 1) := by decide +kernel
theorem dX5_stateOf_23 : decode cX5_stateOf 23 = .ok (.aload_n 0, 1) := by decide +kernel
theorem dX5_stateOf_24 : decode cX5_stateOf 24 = .ok (.getfield 15, 3) := by decide +kernel
theorem dX5_stateOf_27 : decode cX5_stateOf 27 = .ok (.iload_n 1, 1) := by decide +kernel
theorem dX5_stateOf_28 : decode cX5_stateOf 28 = .ok (.iaload, 1) := by decide +kernel
theorem dX5_stateOf_29 : decode cX5_stateOf 29 = .ok (.iload_n 2, 1) := by decide +kernel
theorem dX5_stateOf_30 : decode cX5_stateOf 30 = .ok (.invokestatic 77, 3) := by decide +kernel
theorem dX5_stateOf_33 : decode cX5_stateOf 33 = .ok (.invokevirtual 106, 3) := by decide +kernel
theorem dX5_stateOf_36 : decode cX5_stateOf 36 = .ok (.ifCond .le 5, 3) := by decide +kernel
theorem dX5_stateOf_39 : decode cX5_stateOf 39 = .ok (.iconst 3, 1) := by decide +kernel
theorem dX5_stateOf_40 : decode cX5_stateOf 40 = .ok (.ireturn, 1) := by decide +kernel
theorem dX5_stateOf_41 : decode cX5_stateOf 41 = .ok (.aload_n 0, 1) := by decide +kernel
theorem dX5_stateOf_42 : decode cX5_stateOf 42 = .ok (.aload_n 0, 1) := by decide +kernel
theorem dX5_stateOf_43 : decode cX5_stateOf 43 = .ok (.getfield 33, 3) := by decide +kernel
theorem dX5_stateOf_46 : decode cX5_stateOf 46 = .ok (.getfield 83, 3) := by decide +kernel
theorem dX5_stateOf_49 : decode cX5_stateOf 49 = .ok (.iload_n 1, 1) := by decide +kernel
theorem dX5_stateOf_50 : decode cX5_stateOf 50 = .ok (.iaload, 1) := by decide +kernel
theorem dX5_stateOf_51 : decode cX5_stateOf 51 = .ok (.iload_n 2, 1) := by decide +kernel
theorem dX5_stateOf_52 : decode cX5_stateOf 52 = .ok (.invokevirtual 109, 3) := by decide +kernel
theorem dX5_stateOf_55 : decode cX5_stateOf 55 = .ok (.ifCond .eq 5, 3) := by decide +kernel
theorem dX5_stateOf_58 : decode cX5_stateOf 58 = .ok (.iconst 4, 1) := by decide +kernel
theorem dX5_stateOf_59 : decode cX5_stateOf 59 = .ok (.ireturn, 1) := by decide +kernel
theorem dX5_stateOf_60 : decode cX5_stateOf 60 = .ok (.aload_n 0, 1) := by decide +kernel
theorem dX5_stateOf_61 : decode cX5_stateOf 61 = .ok (.iload_n 1, 1) := by decide +kernel
theorem dX5_stateOf_62 : decode cX5_stateOf 62 = .ok (.iload_n 2, 1) := by decide +kernel
theorem dX5_stateOf_63 : decode cX5_stateOf 63 = .ok (.invokevirtual 112, 3) := by decide +kernel
theorem dX5_stateOf_66 : decode cX5_stateOf 66 = .ok (.ifCond .eq 7, 3) := by decide +kernel
theorem dX5_stateOf_69 : decode cX5_stateOf 69 = .ok (.iconst 5, 1) := by decide +kernel
theorem dX5_stateOf_70 : decode cX5_stateOf 70 = .ok (.goto 4, 3) := by decide +kernel
theorem dX5_stateOf_73 : decode cX5_stateOf 73 = .ok (.iconst 0, 1) := by decide +kernel
theorem dX5_stateOf_74 : decode cX5_stateOf 74 = .ok (.ireturn, 1) := by decide +kernel
theorem dX5_missingTo_0 : decode cX5_missingTo 0 = .ok (.iconst 0, 1) := by decide +kernel
theorem dX5_missingTo_1 : decode cX5_missingTo 1 = .ok (.aload_n 0, 1) := by decide +kernel
theorem dX5_missingTo_2 : decode cX5_missingTo 2 = .ok (.getfield 27, 3) := by decide +kernel
theorem dX5_missingTo_5 : decode cX5_missingTo 5 = .ok (.iload_n 1, 1) := by decide +kernel
theorem dX5_missingTo_6 : decode cX5_missingTo 6 = .ok (.iaload, 1) := by decide +kernel
theorem dX5_missingTo_7 : decode cX5_missingTo 7 = .ok (.aload_n 0, 1) := by decide +kernel
theorem dX5_missingTo_8 : decode cX5_missingTo 8 = .ok (.getfield 30, 3) := by decide +kernel
theorem dX5_missingTo_11 : decode cX5_missingTo 11 = .ok (.iload_n 1, 1) := by decide +kernel
theorem dX5_missingTo_12 : decode cX5_missingTo 12 = .ok (.iload_n 2, 1) := by decide +kernel
theorem dX5_missingTo_13 : decode cX5_missingTo 13 = .ok (.invokestatic 115, 3) := by decide +kernel
theorem dX5_missingTo_16 : decode cX5_missingTo 16 = .ok (.iaload, 1) := by decide +kernel
theorem dX5_missingTo_17 : decode cX5_missingTo 17 = .ok (.invokestatic 118, 3) := by decide +kernel
theorem dX5_missingTo_20 : decode cX5_missingTo 20 = .ok (.isub, 1) := by decide +kernel
theorem dX5_missingTo_21 : decode cX5_missingTo 21 = .ok (.invokestatic 123, 3) := by decide +kernel
theorem dX5_missingTo_24 : decode cX5_missingTo 24 = .ok (.ireturn, 1) := by decide +kernel
theorem dX5_isDriftedBelow_0 : decode cX5_isDriftedBelow 0 = .ok (.iconst 0, 1) := by decide +kernel
theorem dX5_isDriftedBelow_1 : decode cX5_isDriftedBelow 1 = .ok (.istore_n 3, 1) := by decide +kernel
theorem dX5_isDriftedBelow_2 : decode cX5_isDriftedBelow 2 = .ok (.iload_n 3, 1) := by decide +kernel
theorem dX5_isDriftedBelow_3 : decode cX5_isDriftedBelow 3 = .ok (.aload_n 0, 1) := by decide +kernel
theorem dX5_isDriftedBelow_4 : decode cX5_isDriftedBelow 4 = .ok (.getfield 33, 3) := by decide +kernel
theorem dX5_isDriftedBelow_7 : decode cX5_isDriftedBelow 7 = .ok (.getfield 70, 3) := by decide +kernel
theorem dX5_isDriftedBelow_10 : decode cX5_isDriftedBelow 10 = .ok (.if_icmp .ge 41, 3) := by decide +kernel
theorem dX5_isDriftedBelow_13 : decode cX5_isDriftedBelow 13 = .ok (.aload_n 0, 1) := by decide +kernel
theorem dX5_isDriftedBelow_14 : decode cX5_isDriftedBelow 14 = .ok (.getfield 33, 3) := by decide +kernel
theorem dX5_isDriftedBelow_17 : decode cX5_isDriftedBelow 17 = .ok (.getfield 83, 3) := by decide +kernel
theorem dX5_isDriftedBelow_20 : decode cX5_isDriftedBelow 20 = .ok (.iload_n 3, 1) := by decide +kernel
theorem dX5_isDriftedBelow_21 : decode cX5_isDriftedBelow 21 = .ok (.iaload, 1) := by decide +kernel
theorem dX5_isDriftedBelow_22 : decode cX5_isDriftedBelow 22 = .ok (.iload_n 1, 1) := by decide +kernel
theorem dX5_isDriftedBelow_23 : decode cX5_isDriftedBelow 23 = .ok (.if_icmp .ge 22, 3) := by decide +kernel
theorem dX5_isDriftedBelow_26 : decode cX5_isDriftedBelow 26 = .ok (.aload_n 0, 1) := by decide +kernel
theorem dX5_isDriftedBelow_27 : decode cX5_isDriftedBelow 27 = .ok (.iload_n 3, 1) := by decide +kernel
theorem dX5_isDriftedBelow_28 : decode cX5_isDriftedBelow 28 = .ok (.invokevirtual 86, 3) := by decide +kernel
theorem dX5_isDriftedBelow_31 : decode cX5_isDriftedBelow 31 = .ok (.ifCond .ne 14, 3) := by decide +kernel
theorem dX5_isDriftedBelow_34 : decode cX5_isDriftedBelow 34 = .ok (.aload_n 0, 1) := by decide +kernel
theorem dX5_isDriftedBelow_35 : decode cX5_isDriftedBelow 35 = .ok (.iload_n 3, 1) := by decide +kernel
theorem dX5_isDriftedBelow_36 : decode cX5_isDriftedBelow 36 = .ok (.iload_n 2, 1) := by decide +kernel
theorem dX5_isDriftedBelow_37 : decode cX5_isDriftedBelow 37 = .ok (.invokevirtual 66, 3) := by decide +kernel
theorem dX5_isDriftedBelow_40 : decode cX5_isDriftedBelow 40 = .ok (.ifCond .eq 5, 3) := by decide +kernel
theorem dX5_isDriftedBelow_43 : decode cX5_isDriftedBelow 43 = .ok (.iconst 1, 1) := by decide +kernel
theorem dX5_isDriftedBelow_44 : decode cX5_isDriftedBelow 44 = .ok (.ireturn, 1) := by decide +kernel
theorem dX5_isDriftedBelow_45 : decode cX5_isDriftedBelow 45 = .ok (.iinc 3 1, 3) := by decide +kernel
theorem dX5_isDriftedBelow_48 : decode cX5_isDriftedBelow 48 = .ok (.goto (-46), 3) := by decide +kernel
theorem dX5_isDriftedBelow_51 : decode cX5_isDriftedBelow 51 = .ok (.iconst 0, 1) := by decide +kernel
theorem dX5_isDriftedBelow_52 : decode cX5_isDriftedBelow 52 = .ok (.ireturn, 1) := by decide +kernel
theorem dX5_brokenByWish_0 : decode cX5_brokenByWish 0 = .ok (.aload_n 0, 1) := by decide +kernel
theorem dX5_brokenByWish_1 : decode cX5_brokenByWish 1 = .ok (.getfield 33, 3) := by decide +kernel
theorem dX5_brokenByWish_4 : decode cX5_brokenByWish 4 = .ok (.getfield 94, 3) := by decide +kernel
theorem dX5_brokenByWish_7 : decode cX5_brokenByWish 7 = .ok (.aload_n 0, 1) := by decide +kernel
theorem dX5_brokenByWish_8 : decode cX5_brokenByWish 8 = .ok (.getfield 9, 3) := by decide +kernel
theorem dX5_brokenByWish_11 : decode cX5_brokenByWish 11 = .ok (.iload_n 1, 1) := by decide +kernel
theorem dX5_brokenByWish_12 : decode cX5_brokenByWish 12 = .ok (.iaload, 1) := by decide +kernel
theorem dX5_brokenByWish_13 : decode cX5_brokenByWish 13 = .ok (.aload_n 0, 1) := by decide +kernel
theorem dX5_brokenByWish_14 : decode cX5_brokenByWish 14 = .ok (.getfield 9, 3) := by decide +kernel
theorem dX5_brokenByWish_17 : decode cX5_brokenByWish 17 = .ok (.iload_n 1, 1) := by decide +kernel
theorem dX5_brokenByWish_18 : decode cX5_brokenByWish 18 = .ok (.iaload, 1) := by decide +kernel
theorem dX5_brokenByWish_19 : decode cX5_brokenByWish 19 = .ok (.iload_n 2, 1) := by decide +kernel
theorem dX5_brokenByWish_20 : decode cX5_brokenByWish 20 = .ok (.aload_n 0, 1) := by decide +kernel
theorem dX5_brokenByWish_21 : decode cX5_brokenByWish 21 = .ok (.getfield 15, 3) := by decide +kernel
theorem dX5_brokenByWish_24 : decode cX5_brokenByWish 24 = .ok (.iload_n 1, 1) := by decide +kernel
theorem dX5_brokenByWish_25 : decode cX5_brokenByWish 25 = .ok (.iaload, 1) := by decide +kernel
theorem dX5_brokenByWish_26 : decode cX5_brokenByWish 26 = .ok (.iload_n 2, 1) := by decide +kernel
theorem dX5_brokenByWish_27 : decode cX5_brokenByWish 27 = .ok (.invokestatic 77, 3) := by decide +kernel
theorem dX5_brokenByWish_30 : decode cX5_brokenByWish 30 = .ok (.invokestatic 128, 3) := by decide +kernel
theorem dX5_brokenByWish_33 : decode cX5_brokenByWish 33 = .ok (.invokevirtual 132, 3) := by decide +kernel
theorem dX5_brokenByWish_36 : decode cX5_brokenByWish 36 = .ok (.ireturn, 1) := by decide +kernel
theorem dX5_readyOn_0 : decode cX5_readyOn 0 = .ok (.iconst 0, 1) := by decide +kernel
theorem dX5_readyOn_1 : decode cX5_readyOn 1 = .ok (.istore_n 2, 1) := by decide +kernel
theorem dX5_readyOn_2 : decode cX5_readyOn 2 = .ok (.iload_n 2, 1) := by decide +kernel
theorem dX5_readyOn_3 : decode cX5_readyOn 3 = .ok (.aload_n 0, 1) := by decide +kernel
theorem dX5_readyOn_4 : decode cX5_readyOn 4 = .ok (.getfield 33, 3) := by decide +kernel
theorem dX5_readyOn_7 : decode cX5_readyOn 7 = .ok (.getfield 61, 3) := by decide +kernel
theorem dX5_readyOn_10 : decode cX5_readyOn 10 = .ok (.if_icmp .ge 20, 3) := by decide +kernel
theorem dX5_readyOn_13 : decode cX5_readyOn 13 = .ok (.aload_n 0, 1) := by decide +kernel
theorem dX5_readyOn_14 : decode cX5_readyOn 14 = .ok (.iload_n 1, 1) := by decide +kernel
theorem dX5_readyOn_15 : decode cX5_readyOn 15 = .ok (.iload_n 2, 1) := by decide +kernel
theorem dX5_readyOn_16 : decode cX5_readyOn 16 = .ok (.invokevirtual 135, 3) := by decide +kernel
theorem dX5_readyOn_19 : decode cX5_readyOn 19 = .ok (.ifCond .ne 5, 3) := by decide +kernel
theorem dX5_readyOn_22 : decode cX5_readyOn 22 = .ok (.iload_n 2, 1) := by decide +kernel
theorem dX5_readyOn_23 : decode cX5_readyOn 23 = .ok (.ireturn, 1) := by decide +kernel
theorem dX5_readyOn_24 : decode cX5_readyOn 24 = .ok (.iinc 2 1, 3) := by decide +kernel
theorem dX5_readyOn_27 : decode cX5_readyOn 27 = .ok (.goto (-25), 3) := by decide +kernel
theorem dX5_readyOn_30 : decode cX5_readyOn 30 = .ok (.bipush (-9), 2) := by decide +kernel
theorem dX5_readyOn_32 : decode cX5_readyOn 32 = .ok (.ireturn, 1) := by decide +kernel
theorem dX5_passTicks_0 : decode cX5_passTicks 0 = .ok (.iconst 0, 1) := by decide +kernel
theorem dX5_passTicks_1 : decode cX5_passTicks 1 = .ok (.istore_n 2, 1) := by decide +kernel
theorem dX5_passTicks_2 : decode cX5_passTicks 2 = .ok (.iload_n 2, 1) := by decide +kernel
theorem dX5_passTicks_3 : decode cX5_passTicks 3 = .ok (.iload_n 1, 1) := by decide +kernel
theorem dX5_passTicks_4 : decode cX5_passTicks 4 = .ok (.if_icmp .ge 59, 3) := by decide +kernel
theorem dX5_passTicks_7 : decode cX5_passTicks 7 = .ok (.aload_n 0, 1) := by decide +kernel
theorem dX5_passTicks_8 : decode cX5_passTicks 8 = .ok (.dup, 1) := by decide +kernel
theorem dX5_passTicks_9 : decode cX5_passTicks 9 = .ok (.getfield 43, 3) := by decide +kernel
theorem dX5_passTicks_12 : decode cX5_passTicks 12 = .ok (.iconst 1, 1) := by decide +kernel
theorem dX5_passTicks_13 : decode cX5_passTicks 13 = .ok (.iadd, 1) := by decide +kernel
theorem dX5_passTicks_14 : decode cX5_passTicks 14 = .ok (.putfield 43, 3) := by decide +kernel
theorem dX5_passTicks_17 : decode cX5_passTicks 17 = .ok (.iconst 0, 1) := by decide +kernel
theorem dX5_passTicks_18 : decode cX5_passTicks 18 = .ok (.istore_n 3, 1) := by decide +kernel
theorem dX5_passTicks_19 : decode cX5_passTicks 19 = .ok (.iload_n 3, 1) := by decide +kernel
theorem dX5_passTicks_20 : decode cX5_passTicks 20 = .ok (.aload_n 0, 1) := by decide +kernel
theorem dX5_passTicks_21 : decode cX5_passTicks 21 = .ok (.getfield 33, 3) := by decide +kernel
theorem dX5_passTicks_24 : decode cX5_passTicks 24 = .ok (.getfield 70, 3) := by decide +kernel
theorem dX5_passTicks_27 : decode cX5_passTicks 27 = .ok (.if_icmp .ge 30, 3) := by decide +kernel
theorem dX5_passTicks_30 : decode cX5_passTicks 30 = .ok (.aload_n 0, 1) := by decide +kernel
theorem dX5_passTicks_31 : decode cX5_passTicks 31 = .ok (.iload_n 3, 1) := by decide +kernel
theorem dX5_passTicks_32 : decode cX5_passTicks 32 = .ok (.invokevirtual 138, 3) := by decide +kernel
theorem dX5_passTicks_35 : decode cX5_passTicks 35 = .ok (.istore 4, 2) := by decide +kernel
theorem dX5_passTicks_37 : decode cX5_passTicks 37 = .ok (.iload 4, 2) := by decide +kernel
theorem dX5_passTicks_39 : decode cX5_passTicks 39 = .ok (.bipush (-9), 2) := by decide +kernel
theorem dX5_passTicks_41 : decode cX5_passTicks 41 = .ok (.if_icmp .eq 10, 3) := by decide +kernel
theorem dX5_passTicks_44 : decode cX5_passTicks 44 = .ok (.aload_n 0, 1) := by decide +kernel
theorem dX5_passTicks_45 : decode cX5_passTicks 45 = .ok (.iload_n 3, 1) := by decide +kernel
theorem dX5_passTicks_46 : decode cX5_passTicks 46 = .ok (.iload 4, 2) := by decide +kernel
theorem dX5_passTicks_48 : decode cX5_passTicks 48 = .ok (.invokevirtual 141, 3) := by decide +kernel
theorem dX5_passTicks_51 : decode cX5_passTicks 51 = .ok (.iinc 3 1, 3) := by decide +kernel
theorem dX5_passTicks_54 : decode cX5_passTicks 54 = .ok (.goto (-35), 3) := by decide +kernel
theorem dX5_passTicks_57 : decode cX5_passTicks 57 = .ok (.iinc 2 1, 3) := by decide +kernel
theorem dX5_passTicks_60 : decode cX5_passTicks 60 = .ok (.goto (-58), 3) := by decide +kernel
theorem dX5_passTicks_63 : decode cX5_passTicks 63 = .ok (.return_, 1) := by decide +kernel
theorem dX5_attempt_0 : decode cX5_attempt 0 = .ok (.aload_n 0, 1) := by decide +kernel
theorem dX5_attempt_1 : decode cX5_attempt 1 = .ok (.getfield 18, 3) := by decide +kernel
theorem dX5_attempt_4 : decode cX5_attempt 4 = .ok (.iload_n 1, 1) := by decide +kernel
theorem dX5_attempt_5 : decode cX5_attempt 5 = .ok (.iaload, 1) := by decide +kernel
theorem dX5_attempt_6 : decode cX5_attempt 6 = .ok (.ifCond .ne 47, 3) := by decide +kernel
theorem dX5_attempt_9 : decode cX5_attempt 9 = .ok (.aload_n 0, 1) := by decide +kernel
theorem dX5_attempt_10 : decode cX5_attempt 10 = .ok (.getfield 9, 3) := by decide +kernel
theorem dX5_attempt_13 : decode cX5_attempt 13 = .ok (.iload_n 1, 1) := by decide +kernel
theorem dX5_attempt_14 : decode cX5_attempt 14 = .ok (.aload_n 0, 1) := by decide +kernel
theorem dX5_attempt_15 : decode cX5_attempt 15 = .ok (.getfield 9, 3) := by decide +kernel
theorem dX5_attempt_18 : decode cX5_attempt 18 = .ok (.iload_n 1, 1) := by decide +kernel
theorem dX5_attempt_19 : decode cX5_attempt 19 = .ok (.iaload, 1) := by decide +kernel
theorem dX5_attempt_20 : decode cX5_attempt 20 = .ok (.iload_n 2, 1) := by decide +kernel
theorem dX5_attempt_21 : decode cX5_attempt 21 = .ok (.aload_n 0, 1) := by decide +kernel
theorem dX5_attempt_22 : decode cX5_attempt 22 = .ok (.getfield 15, 3) := by decide +kernel
theorem dX5_attempt_25 : decode cX5_attempt 25 = .ok (.iload_n 1, 1) := by decide +kernel
theorem dX5_attempt_26 : decode cX5_attempt 26 = .ok (.iaload, 1) := by decide +kernel
theorem dX5_attempt_27 : decode cX5_attempt 27 = .ok (.iload_n 2, 1) := by decide +kernel
theorem dX5_attempt_28 : decode cX5_attempt 28 = .ok (.invokestatic 77, 3) := by decide +kernel
theorem dX5_attempt_31 : decode cX5_attempt 31 = .ok (.invokestatic 128, 3) := by decide +kernel
theorem dX5_attempt_34 : decode cX5_attempt 34 = .ok (.iastore, 1) := by decide +kernel
theorem dX5_attempt_35 : decode cX5_attempt 35 = .ok (.aload_n 0, 1) := by decide +kernel
theorem dX5_attempt_36 : decode cX5_attempt 36 = .ok (.getfield 21, 3) := by decide +kernel
theorem dX5_attempt_39 : decode cX5_attempt 39 = .ok (.iload_n 1, 1) := by decide +kernel
theorem dX5_attempt_40 : decode cX5_attempt 40 = .ok (.iconst 0, 1) := by decide +kernel
theorem dX5_attempt_41 : decode cX5_attempt 41 = .ok (.iastore, 1) := by decide +kernel
theorem dX5_attempt_42 : decode cX5_attempt 42 = .ok (.aload_n 0, 1) := by decide +kernel
theorem dX5_attempt_43 : decode cX5_attempt 43 = .ok (.dup, 1) := by decide +kernel
theorem dX5_attempt_44 : decode cX5_attempt 44 = .ok (.getfield 47, 3) := by decide +kernel
theorem dX5_attempt_47 : decode cX5_attempt 47 = .ok (.iconst 1, 1) := by decide +kernel
theorem dX5_attempt_48 : decode cX5_attempt 48 = .ok (.iadd, 1) := by decide +kernel
theorem dX5_attempt_49 : decode cX5_attempt 49 = .ok (.putfield 47, 3) := by decide +kernel
theorem dX5_attempt_52 : decode cX5_attempt 52 = .ok (.return_, 1) := by decide +kernel
theorem dX5_attempt_53 : decode cX5_attempt 53 = .ok (.aload_n 0, 1) := by decide +kernel
theorem dX5_attempt_54 : decode cX5_attempt 54 = .ok (.getfield 18, 3) := by decide +kernel
theorem dX5_attempt_57 : decode cX5_attempt 57 = .ok (.iload_n 1, 1) := by decide +kernel
theorem dX5_attempt_58 : decode cX5_attempt 58 = .ok (.dup2, 1) := by decide +kernel
theorem dX5_attempt_59 : decode cX5_attempt 59 = .ok (.iaload, 1) := by decide +kernel
theorem dX5_attempt_60 : decode cX5_attempt 60 = .ok (.iconst 1, 1) := by decide +kernel
theorem dX5_attempt_61 : decode cX5_attempt 61 = .ok (.isub, 1) := by decide +kernel
theorem dX5_attempt_62 : decode cX5_attempt 62 = .ok (.iastore, 1) := by decide +kernel
theorem dX5_attempt_63 : decode cX5_attempt 63 = .ok (.aload_n 0, 1) := by decide +kernel
theorem dX5_attempt_64 : decode cX5_attempt 64 = .ok (.getfield 21, 3) := by decide +kernel
theorem dX5_attempt_67 : decode cX5_attempt 67 = .ok (.iload_n 1, 1) := by decide +kernel
theorem dX5_attempt_68 : decode cX5_attempt 68 = .ok (.dup2, 1) := by decide +kernel
theorem dX5_attempt_69 : decode cX5_attempt 69 = .ok (.iaload, 1) := by decide +kernel
theorem dX5_attempt_70 : decode cX5_attempt 70 = .ok (.iconst 1, 1) := by decide +kernel
theorem dX5_attempt_71 : decode cX5_attempt 71 = .ok (.iadd, 1) := by decide +kernel
theorem dX5_attempt_72 : decode cX5_attempt 72 = .ok (.iastore, 1) := by decide +kernel
theorem dX5_attempt_73 : decode cX5_attempt 73 = .ok (.aload_n 0, 1) := by decide +kernel
theorem dX5_attempt_74 : decode cX5_attempt 74 = .ok (.getfield 21, 3) := by decide +kernel
theorem dX5_attempt_77 : decode cX5_attempt 77 = .ok (.iload_n 1, 1) := by decide +kernel
theorem dX5_attempt_78 : decode cX5_attempt 78 = .ok (.iaload, 1) := by decide +kernel
theorem dX5_attempt_79 : decode cX5_attempt 79 = .ok (.aload_n 0, 1) := by decide +kernel
theorem dX5_attempt_80 : decode cX5_attempt 80 = .ok (.getfield 33, 3) := by decide +kernel
theorem dX5_attempt_83 : decode cX5_attempt 83 = .ok (.getfield 145, 3) := by decide +kernel
theorem dX5_attempt_86 : decode cX5_attempt 86 = .ok (.if_icmp .ne 28, 3) := by decide +kernel
theorem dX5_attempt_89 : decode cX5_attempt 89 = .ok (.aload_n 0, 1) := by decide +kernel
theorem dX5_attempt_90 : decode cX5_attempt 90 = .ok (.getfield 21, 3) := by decide +kernel
theorem dX5_attempt_93 : decode cX5_attempt 93 = .ok (.iload_n 1, 1) := by decide +kernel
theorem dX5_attempt_94 : decode cX5_attempt 94 = .ok (.iconst 0, 1) := by decide +kernel
theorem dX5_attempt_95 : decode cX5_attempt 95 = .ok (.iastore, 1) := by decide +kernel
theorem dX5_attempt_96 : decode cX5_attempt 96 = .ok (.aload_n 0, 1) := by decide +kernel
theorem dX5_attempt_97 : decode cX5_attempt 97 = .ok (.getfield 24, 3) := by decide +kernel
theorem dX5_attempt_100 : decode cX5_attempt 100 = .ok (.iload_n 1, 1) := by decide +kernel
theorem dX5_attempt_101 : decode cX5_attempt 101 = .ok (.aload_n 0, 1) := by decide +kernel
theorem dX5_attempt_102 : decode cX5_attempt 102 = .ok (.getfield 43, 3) := by decide +kernel
theorem dX5_attempt_105 : decode cX5_attempt 105 = .ok (.aload_n 0, 1) := by decide +kernel
theorem dX5_attempt_106 : decode cX5_attempt 106 = .ok (.getfield 33, 3) := by decide +kernel
theorem dX5_attempt_109 : decode cX5_attempt 109 = .ok (.getfield 148, 3) := by decide +kernel
theorem dX5_attempt_112 : decode cX5_attempt 112 = .ok (.iadd, 1) := by decide +kernel
theorem dX5_attempt_113 : decode cX5_attempt 113 = .ok (.iastore, 1) := by decide +kernel
theorem dX5_attempt_114 : decode cX5_attempt 114 = .ok (.return_, 1) := by decide +kernel
theorem dX5_pairsHeldUpBy_0 : decode cX5_pairsHeldUpBy 0 = .ok (.iconst 0, 1) := by decide +kernel
theorem dX5_pairsHeldUpBy_1 : decode cX5_pairsHeldUpBy 1 = .ok (.istore_n 2, 1) := by decide +kernel
theorem dX5_pairsHeldUpBy_2 : decode cX5_pairsHeldUpBy 2 = .ok (.iconst 0, 1) := by decide +kernel
theorem dX5_pairsHeldUpBy_3 : decode cX5_pairsHeldUpBy 3 = .ok (.istore_n 3, 1) := by decide +kernel
theorem dX5_pairsHeldUpBy_4 : decode cX5_pairsHeldUpBy 4 = .ok (.iload_n 3, 1) := by decide +kernel
theorem dX5_pairsHeldUpBy_5 : decode cX5_pairsHeldUpBy 5 = .ok (.aload_n 0, 1) := by decide +kernel
theorem dX5_pairsHeldUpBy_6 : decode cX5_pairsHeldUpBy 6 = .ok (.getfield 33, 3) := by decide +kernel
theorem dX5_pairsHeldUpBy_9 : decode cX5_pairsHeldUpBy 9 = .ok (.getfield 70, 3) := by decide +kernel
theorem dX5_pairsHeldUpBy_12 : decode cX5_pairsHeldUpBy 12 = .ok (.if_icmp .ge 57, 3) := by decide +kernel
theorem dX5_pairsHeldUpBy_15 : decode cX5_pairsHeldUpBy 15 = .ok (.iconst 0, 1) := by decide +kernel
theorem dX5_pairsHeldUpBy_16 : decode cX5_pairsHeldUpBy 16 = .ok (.istore 4, 2) := by decide +kernel
theorem dX5_pairsHeldUpBy_18 : decode cX5_pairsHeldUpBy 18 = .ok (.iload 4, 2) := by decide +kernel
theorem dX5_pairsHeldUpBy_20 : decode cX5_pairsHeldUpBy 20 = .ok (.aload_n 0, 1) := by decide +kernel
theorem dX5_pairsHeldUpBy_21 : decode cX5_pairsHeldUpBy 21 = .ok (.getfield 33, 3) := by decide +kernel
theorem dX5_pairsHeldUpBy_24 : decode cX5_pairsHeldUpBy 24 = .ok (.getfield 61, 3) := by decide +kernel
theorem dX5_pairsHeldUpBy_27 : decode cX5_pairsHeldUpBy 27 = .ok (.if_icmp .ge 36, 3) := by decide +kernel
theorem dX5_pairsHeldUpBy_30 : decode cX5_pairsHeldUpBy 30 = .ok (.aload_n 0, 1) := by decide +kernel
theorem dX5_pairsHeldUpBy_31 : decode cX5_pairsHeldUpBy 31 = .ok (.iload_n 3, 1) := by decide +kernel
theorem dX5_pairsHeldUpBy_32 : decode cX5_pairsHeldUpBy 32 = .ok (.iload 4, 2) := by decide +kernel
theorem dX5_pairsHeldUpBy_34 : decode cX5_pairsHeldUpBy 34 = .ok (.invokevirtual 135, 3) := by decide +kernel
theorem dX5_pairsHeldUpBy_37 : decode cX5_pairsHeldUpBy 37 = .ok (.iconst 5, 1) := by decide +kernel
theorem dX5_pairsHeldUpBy_38 : decode cX5_pairsHeldUpBy 38 = .ok (.if_icmp .ne 19, 3) := by decide +kernel
theorem dX5_pairsHeldUpBy_41 : decode cX5_pairsHeldUpBy 41 = .ok (.aload_n 0, 1) := by decide +kernel
theorem dX5_pairsHeldUpBy_42 : decode cX5_pairsHeldUpBy 42 = .ok (.iload_n 3, 1) := by decide +kernel
theorem dX5_pairsHeldUpBy_43 : decode cX5_pairsHeldUpBy 43 = .ok (.iload 4, 2) := by decide +kernel
theorem dX5_pairsHeldUpBy_45 : decode cX5_pairsHeldUpBy 45 = .ok (.invokevirtual 112, 3) := by decide +kernel
theorem dX5_pairsHeldUpBy_48 : decode cX5_pairsHeldUpBy 48 = .ok (.iconst 1, 1) := by decide +kernel
theorem dX5_pairsHeldUpBy_49 : decode cX5_pairsHeldUpBy 49 = .ok (.iload_n 1, 1) := by decide +kernel
theorem dX5_pairsHeldUpBy_50 : decode cX5_pairsHeldUpBy 50 = .ok (.ishl, 1) := by decide +kernel
theorem dX5_pairsHeldUpBy_51 : decode cX5_pairsHeldUpBy 51 = .ok (.if_icmp .ne 6, 3) := by decide +kernel
theorem dX5_pairsHeldUpBy_54 : decode cX5_pairsHeldUpBy 54 = .ok (.iinc 2 1, 3) := by decide +kernel
theorem dX5_pairsHeldUpBy_57 : decode cX5_pairsHeldUpBy 57 = .ok (.iinc 4 1, 3) := by decide +kernel
theorem dX5_pairsHeldUpBy_60 : decode cX5_pairsHeldUpBy 60 = .ok (.goto (-42), 3) := by decide +kernel
theorem dX5_pairsHeldUpBy_63 : decode cX5_pairsHeldUpBy 63 = .ok (.iinc 3 1, 3) := by decide +kernel
theorem dX5_pairsHeldUpBy_66 : decode cX5_pairsHeldUpBy 66 = .ok (.goto (-62), 3) := by decide +kernel
theorem dX5_pairsHeldUpBy_69 : decode cX5_pairsHeldUpBy 69 = .ok (.iload_n 2, 1) := by decide +kernel
theorem dX5_pairsHeldUpBy_70 : decode cX5_pairsHeldUpBy 70 = .ok (.ireturn, 1) := by decide +kernel
theorem dX5_missingApprovals_0 : decode cX5_missingApprovals 0 = .ok (.iconst 0, 1) := by decide +kernel
theorem dX5_missingApprovals_1 : decode cX5_missingApprovals 1 = .ok (.istore_n 2, 1) := by decide +kernel
theorem dX5_missingApprovals_2 : decode cX5_missingApprovals 2 = .ok (.iconst 0, 1) := by decide +kernel
theorem dX5_missingApprovals_3 : decode cX5_missingApprovals 3 = .ok (.istore_n 3, 1) := by decide +kernel
theorem dX5_missingApprovals_4 : decode cX5_missingApprovals 4 = .ok (.iload_n 3, 1) := by decide +kernel
theorem dX5_missingApprovals_5 : decode cX5_missingApprovals 5 = .ok (.iconst 4, 1) := by decide +kernel
theorem dX5_missingApprovals_6 : decode cX5_missingApprovals 6 = .ok (.if_icmp .ge 27, 3) := by decide +kernel
theorem dX5_missingApprovals_9 : decode cX5_missingApprovals 9 = .ok (.aload_n 0, 1) := by decide +kernel
theorem dX5_missingApprovals_10 : decode cX5_missingApprovals 10 = .ok (.iload_n 1, 1) := by decide +kernel
theorem dX5_missingApprovals_11 : decode cX5_missingApprovals 11 = .ok (.iload_n 3, 1) := by decide +kernel
theorem dX5_missingApprovals_12 : decode cX5_missingApprovals 12 = .ok (.invokevirtual 151, 3) := by decide +kernel
theorem dX5_missingApprovals_15 : decode cX5_missingApprovals 15 = .ok (.ifCond .eq 12, 3) := by decide +kernel
theorem dX5_missingApprovals_18 : decode cX5_missingApprovals 18 = .ok (.iload_n 2, 1) := by decide +kernel
theorem dX5_missingApprovals_19 : decode cX5_missingApprovals 19 = .ok (.aload_n 0, 1) := by decide +kernel
theorem dX5_missingApprovals_20 : decode cX5_missingApprovals 20 = .ok (.iload_n 1, 1) := by decide +kernel
theorem dX5_missingApprovals_21 : decode cX5_missingApprovals 21 = .ok (.iload_n 3, 1) := by decide +kernel
theorem dX5_missingApprovals_22 : decode cX5_missingApprovals 22 = .ok (.invokevirtual 106, 3) := by decide +kernel
theorem dX5_missingApprovals_25 : decode cX5_missingApprovals 25 = .ok (.iadd, 1) := by decide +kernel
theorem dX5_missingApprovals_26 : decode cX5_missingApprovals 26 = .ok (.istore_n 2, 1) := by decide +kernel
theorem dX5_missingApprovals_27 : decode cX5_missingApprovals 27 = .ok (.iinc 3 1, 3) := by decide +kernel
theorem dX5_missingApprovals_30 : decode cX5_missingApprovals 30 = .ok (.goto (-26), 3) := by decide +kernel
theorem dX5_missingApprovals_33 : decode cX5_missingApprovals 33 = .ok (.iload_n 2, 1) := by decide +kernel
theorem dX5_missingApprovals_34 : decode cX5_missingApprovals 34 = .ok (.ireturn, 1) := by decide +kernel
theorem dX5_isAwaited_0 : decode cX5_isAwaited 0 = .ok (.iconst 0, 1) := by decide +kernel
theorem dX5_isAwaited_1 : decode cX5_isAwaited 1 = .ok (.istore_n 3, 1) := by decide +kernel
theorem dX5_isAwaited_2 : decode cX5_isAwaited 2 = .ok (.iload_n 3, 1) := by decide +kernel
theorem dX5_isAwaited_3 : decode cX5_isAwaited 3 = .ok (.aload_n 0, 1) := by decide +kernel
theorem dX5_isAwaited_4 : decode cX5_isAwaited 4 = .ok (.getfield 33, 3) := by decide +kernel
theorem dX5_isAwaited_7 : decode cX5_isAwaited 7 = .ok (.getfield 70, 3) := by decide +kernel
theorem dX5_isAwaited_10 : decode cX5_isAwaited 10 = .ok (.if_icmp .ge 34, 3) := by decide +kernel
theorem dX5_isAwaited_13 : decode cX5_isAwaited 13 = .ok (.aload_n 0, 1) := by decide +kernel
theorem dX5_isAwaited_14 : decode cX5_isAwaited 14 = .ok (.iload_n 3, 1) := by decide +kernel
theorem dX5_isAwaited_15 : decode cX5_isAwaited 15 = .ok (.iload_n 1, 1) := by decide +kernel
theorem dX5_isAwaited_16 : decode cX5_isAwaited 16 = .ok (.invokevirtual 66, 3) := by decide +kernel
theorem dX5_isAwaited_19 : decode cX5_isAwaited 19 = .ok (.ifCond .eq 19, 3) := by decide +kernel
theorem dX5_isAwaited_22 : decode cX5_isAwaited 22 = .ok (.aload_n 0, 1) := by decide +kernel
theorem dX5_isAwaited_23 : decode cX5_isAwaited 23 = .ok (.getfield 15, 3) := by decide +kernel
theorem dX5_isAwaited_26 : decode cX5_isAwaited 26 = .ok (.iload_n 3, 1) := by decide +kernel
theorem dX5_isAwaited_27 : decode cX5_isAwaited 27 = .ok (.iaload, 1) := by decide +kernel
theorem dX5_isAwaited_28 : decode cX5_isAwaited 28 = .ok (.iload_n 1, 1) := by decide +kernel
theorem dX5_isAwaited_29 : decode cX5_isAwaited 29 = .ok (.invokestatic 77, 3) := by decide +kernel
theorem dX5_isAwaited_32 : decode cX5_isAwaited 32 = .ok (.iload_n 2, 1) := by decide +kernel
theorem dX5_isAwaited_33 : decode cX5_isAwaited 33 = .ok (.if_icmp .ne 5, 3) := by decide +kernel
theorem dX5_isAwaited_36 : decode cX5_isAwaited 36 = .ok (.iconst 1, 1) := by decide +kernel
theorem dX5_isAwaited_37 : decode cX5_isAwaited 37 = .ok (.ireturn, 1) := by decide +kernel
theorem dX5_isAwaited_38 : decode cX5_isAwaited 38 = .ok (.iinc 3 1, 3) := by decide +kernel
theorem dX5_isAwaited_41 : decode cX5_isAwaited 41 = .ok (.goto (-39), 3) := by decide +kernel
theorem dX5_isAwaited_44 : decode cX5_isAwaited 44 = .ok (.iconst 0, 1) := by decide +kernel
theorem dX5_isAwaited_45 : decode cX5_isAwaited 45 = .ok (.ireturn, 1) := by decide +kernel
theorem dX5_changesTo_0 : decode cX5_changesTo 0 = .ok (.iload_n 2, 1) := by decide +kernel
theorem dX5_changesTo_1 : decode cX5_changesTo 1 = .ok (.aload_n 0, 1) := by decide +kernel
theorem dX5_changesTo_2 : decode cX5_changesTo 2 = .ok (.iload_n 1, 1) := by decide +kernel
theorem dX5_changesTo_3 : decode cX5_changesTo 3 = .ok (.invokevirtual 103, 3) := by decide +kernel
theorem dX5_changesTo_6 : decode cX5_changesTo 6 = .ok (.isub, 1) := by decide +kernel
theorem dX5_changesTo_7 : decode cX5_changesTo 7 = .ok (.istore_n 3, 1) := by decide +kernel
theorem dX5_changesTo_8 : decode cX5_changesTo 8 = .ok (.iconst 0, 1) := by decide +kernel
theorem dX5_changesTo_9 : decode cX5_changesTo 9 = .ok (.istore 4, 2) := by decide +kernel
theorem dX5_changesTo_11 : decode cX5_changesTo 11 = .ok (.iconst 0, 1) := by decide +kernel
theorem dX5_changesTo_12 : decode cX5_changesTo 12 = .ok (.istore 5, 2) := by decide +kernel
theorem dX5_changesTo_14 : decode cX5_changesTo 14 = .ok (.iload 5, 2) := by decide +kernel
theorem dX5_changesTo_16 : decode cX5_changesTo 16 = .ok (.aload_n 0, 1) := by decide +kernel
theorem dX5_changesTo_17 : decode cX5_changesTo 17 = .ok (.getfield 33, 3) := by decide +kernel
theorem dX5_changesTo_20 : decode cX5_changesTo 20 = .ok (.getfield 61, 3) := by decide +kernel
theorem dX5_changesTo_23 : decode cX5_changesTo 23 = .ok (.if_icmp .ge 72, 3) := by decide +kernel
theorem dX5_changesTo_26 : decode cX5_changesTo 26 = .ok (.aload_n 0, 1) := by decide +kernel
theorem dX5_changesTo_27 : decode cX5_changesTo 27 = .ok (.getfield 9, 3) := by decide +kernel
theorem dX5_changesTo_30 : decode cX5_changesTo 30 = .ok (.iload_n 1, 1) := by decide +kernel
theorem dX5_changesTo_31 : decode cX5_changesTo 31 = .ok (.iaload, 1) := by decide +kernel
theorem dX5_changesTo_32 : decode cX5_changesTo 32 = .ok (.iload 5, 2) := by decide +kernel
theorem dX5_changesTo_34 : decode cX5_changesTo 34 = .ok (.invokestatic 77, 3) := by decide +kernel
theorem dX5_changesTo_37 : decode cX5_changesTo 37 = .ok (.istore 6, 2) := by decide +kernel
theorem dX5_changesTo_39 : decode cX5_changesTo 39 = .ok (.iconst 0, 1) := by decide +kernel
theorem dX5_changesTo_40 : decode cX5_changesTo 40 = .ok (.istore 7, 2) := by decide +kernel
theorem dX5_changesTo_42 : decode cX5_changesTo 42 = .ok (.iload 7, 2) := by decide +kernel
theorem dX5_changesTo_44 : decode cX5_changesTo 44 = .ok (.iconst 4, 1) := by decide +kernel
theorem dX5_changesTo_45 : decode cX5_changesTo 45 = .ok (.if_icmp .ge 44, 3) := by decide +kernel
theorem dX5_changesTo_48 : decode cX5_changesTo 48 = .ok (.iload 7, 2) := by decide +kernel
theorem dX5_changesTo_50 : decode cX5_changesTo 50 = .ok (.iload 6, 2) := by decide +kernel
theorem dX5_changesTo_52 : decode cX5_changesTo 52 = .ok (.if_icmp .eq 31, 3) := by decide +kernel
theorem dX5_changesTo_55 : decode cX5_changesTo 55 = .ok (.iload 5, 2) := by decide +kernel
theorem dX5_changesTo_57 : decode cX5_changesTo 57 = .ok (.iconst 1, 1) := by decide +kernel
theorem dX5_changesTo_58 : decode cX5_changesTo 58 = .ok (.iadd, 1) := by decide +kernel
theorem dX5_changesTo_59 : decode cX5_changesTo 59 = .ok (.iload 7, 2) := by decide +kernel
theorem dX5_changesTo_61 : decode cX5_changesTo 61 = .ok (.iload 6, 2) := by decide +kernel
theorem dX5_changesTo_63 : decode cX5_changesTo 63 = .ok (.isub, 1) := by decide +kernel
theorem dX5_changesTo_64 : decode cX5_changesTo 64 = .ok (.imul, 1) := by decide +kernel
theorem dX5_changesTo_65 : decode cX5_changesTo 65 = .ok (.iload_n 3, 1) := by decide +kernel
theorem dX5_changesTo_66 : decode cX5_changesTo 66 = .ok (.if_icmp .ne 17, 3) := by decide +kernel
theorem dX5_changesTo_69 : decode cX5_changesTo 69 = .ok (.iload 4, 2) := by decide +kernel
theorem dX5_changesTo_71 : decode cX5_changesTo 71 = .ok (.iconst 1, 1) := by decide +kernel
theorem dX5_changesTo_72 : decode cX5_changesTo 72 = .ok (.iload 5, 2) := by decide +kernel
theorem dX5_changesTo_74 : decode cX5_changesTo 74 = .ok (.iload 7, 2) := by decide +kernel
theorem dX5_changesTo_76 : decode cX5_changesTo 76 = .ok (.invokestatic 115, 3) := by decide +kernel
theorem dX5_changesTo_79 : decode cX5_changesTo 79 = .ok (.ishl, 1) := by decide +kernel
theorem dX5_changesTo_80 : decode cX5_changesTo 80 = .ok (.ior, 1) := by decide +kernel
theorem dX5_changesTo_81 : decode cX5_changesTo 81 = .ok (.istore 4, 2) := by decide +kernel
theorem dX5_changesTo_83 : decode cX5_changesTo 83 = .ok (.iinc 7 1, 3) := by decide +kernel
theorem dX5_changesTo_86 : decode cX5_changesTo 86 = .ok (.goto (-44), 3) := by decide +kernel
theorem dX5_changesTo_89 : decode cX5_changesTo 89 = .ok (.iinc 5 1, 3) := by decide +kernel
theorem dX5_changesTo_92 : decode cX5_changesTo 92 = .ok (.goto (-78), 3) := by decide +kernel
theorem dX5_changesTo_95 : decode cX5_changesTo 95 = .ok (.iload 4, 2) := by decide +kernel
theorem dX5_changesTo_97 : decode cX5_changesTo 97 = .ok (.ireturn, 1) := by decide +kernel
theorem dX5_rankOf_0 : decode cX5_rankOf 0 = .ok (.iconst 0, 1) := by decide +kernel
theorem dX5_rankOf_1 : decode cX5_rankOf 1 = .ok (.istore_n 2, 1) := by decide +kernel
theorem dX5_rankOf_2 : decode cX5_rankOf 2 = .ok (.iconst 0, 1) := by decide +kernel
theorem dX5_rankOf_3 : decode cX5_rankOf 3 = .ok (.istore_n 3, 1) := by decide +kernel
theorem dX5_rankOf_4 : decode cX5_rankOf 4 = .ok (.iload_n 3, 1) := by decide +kernel
theorem dX5_rankOf_5 : decode cX5_rankOf 5 = .ok (.aload_n 0, 1) := by decide +kernel
theorem dX5_rankOf_6 : decode cX5_rankOf 6 = .ok (.getfield 33, 3) := by decide +kernel
theorem dX5_rankOf_9 : decode cX5_rankOf 9 = .ok (.getfield 70, 3) := by decide +kernel
theorem dX5_rankOf_12 : decode cX5_rankOf 12 = .ok (.if_icmp .ge 21, 3) := by decide +kernel
theorem dX5_rankOf_15 : decode cX5_rankOf 15 = .ok (.aload_n 0, 1) := by decide +kernel
theorem dX5_rankOf_16 : decode cX5_rankOf 16 = .ok (.iload_n 3, 1) := by decide +kernel
theorem dX5_rankOf_17 : decode cX5_rankOf 17 = .ok (.iload_n 1, 1) := by decide +kernel
theorem dX5_rankOf_18 : decode cX5_rankOf 18 = .ok (.invokevirtual 154, 3) := by decide +kernel
theorem dX5_rankOf_21 : decode cX5_rankOf 21 = .ok (.ifCond .eq 6, 3) := by decide +kernel
theorem dX5_rankOf_24 : decode cX5_rankOf 24 = .ok (.iinc 2 1, 3) := by decide +kernel
theorem dX5_rankOf_27 : decode cX5_rankOf 27 = .ok (.iinc 3 1, 3) := by decide +kernel
theorem dX5_rankOf_30 : decode cX5_rankOf 30 = .ok (.goto (-26), 3) := by decide +kernel
theorem dX5_rankOf_33 : decode cX5_rankOf 33 = .ok (.iload_n 2, 1) := by decide +kernel
theorem dX5_rankOf_34 : decode cX5_rankOf 34 = .ok (.ireturn, 1) := by decide +kernel
theorem dX5_isFarther_0 : decode cX5_isFarther 0 = .ok (.aload_n 0, 1) := by decide +kernel
theorem dX5_isFarther_1 : decode cX5_isFarther 1 = .ok (.iload_n 1, 1) := by decide +kernel
theorem dX5_isFarther_2 : decode cX5_isFarther 2 = .ok (.invokevirtual 90, 3) := by decide +kernel
theorem dX5_isFarther_5 : decode cX5_isFarther 5 = .ok (.invokestatic 118, 3) := by decide +kernel
theorem dX5_isFarther_8 : decode cX5_isFarther 8 = .ok (.aload_n 0, 1) := by decide +kernel
theorem dX5_isFarther_9 : decode cX5_isFarther 9 = .ok (.iload_n 2, 1) := by decide +kernel
theorem dX5_isFarther_10 : decode cX5_isFarther 10 = .ok (.invokevirtual 90, 3) := by decide +kernel
theorem dX5_isFarther_13 : decode cX5_isFarther 13 = .ok (.invokestatic 118, 3) := by decide +kernel
theorem dX5_isFarther_16 : decode cX5_isFarther 16 = .ok (.isub, 1) := by decide +kernel
theorem dX5_isFarther_17 : decode cX5_isFarther 17 = .ok (.istore_n 3, 1) := by decide +kernel
theorem dX5_isFarther_18 : decode cX5_isFarther 18 = .ok (.iload_n 3, 1) := by decide +kernel
theorem dX5_isFarther_19 : decode cX5_isFarther 19 = .ok (.ifCond .eq 13, 3) := by decide +kernel
theorem dX5_isFarther_22 : decode cX5_isFarther 22 = .ok (.iload_n 3, 1) := by decide +kernel
theorem dX5_isFarther_23 : decode cX5_isFarther 23 = .ok (.ifCond .le 7, 3) := by decide +kernel
theorem dX5_isFarther_26 : decode cX5_isFarther 26 = .ok (.iconst 1, 1) := by decide +kernel
theorem dX5_isFarther_27 : decode cX5_isFarther 27 = .ok (.goto 4, 3) := by decide +kernel
theorem dX5_isFarther_30 : decode cX5_isFarther 30 = .ok (.iconst 0, 1) := by decide +kernel
theorem dX5_isFarther_31 : decode cX5_isFarther 31 = .ok (.ireturn, 1) := by decide +kernel
theorem dX5_isFarther_32 : decode cX5_isFarther 32 = .ok (.aload_n 0, 1) := by decide +kernel
theorem dX5_isFarther_33 : decode cX5_isFarther 33 = .ok (.getfield 33, 3) := by decide +kernel
theorem dX5_isFarther_36 : decode cX5_isFarther 36 = .ok (.getfield 94, 3) := by decide +kernel
theorem dX5_isFarther_39 : decode cX5_isFarther 39 = .ok (.aload_n 0, 1) := by decide +kernel
theorem dX5_isFarther_40 : decode cX5_isFarther 40 = .ok (.getfield 9, 3) := by decide +kernel
theorem dX5_isFarther_43 : decode cX5_isFarther 43 = .ok (.iload_n 1, 1) := by decide +kernel
theorem dX5_isFarther_44 : decode cX5_isFarther 44 = .ok (.iaload, 1) := by decide +kernel
theorem dX5_isFarther_45 : decode cX5_isFarther 45 = .ok (.invokevirtual 98, 3) := by decide +kernel
theorem dX5_isFarther_48 : decode cX5_isFarther 48 = .ok (.invokestatic 118, 3) := by decide +kernel
theorem dX5_isFarther_51 : decode cX5_isFarther 51 = .ok (.aload_n 0, 1) := by decide +kernel
theorem dX5_isFarther_52 : decode cX5_isFarther 52 = .ok (.getfield 33, 3) := by decide +kernel
theorem dX5_isFarther_55 : decode cX5_isFarther 55 = .ok (.getfield 94, 3) := by decide +kernel
theorem dX5_isFarther_58 : decode cX5_isFarther 58 = .ok (.aload_n 0, 1) := by decide +kernel
theorem dX5_isFarther_59 : decode cX5_isFarther 59 = .ok (.getfield 9, 3) := by decide +kernel
theorem dX5_isFarther_62 : decode cX5_isFarther 62 = .ok (.iload_n 2, 1) := by decide +kernel
theorem dX5_isFarther_63 : decode cX5_isFarther 63 = .ok (.iaload, 1) := by decide +kernel
theorem dX5_isFarther_64 : decode cX5_isFarther 64 = .ok (.invokevirtual 98, 3) := by decide +kernel
theorem dX5_isFarther_67 : decode cX5_isFarther 67 = .ok (.invokestatic 118, 3) := by decide +kernel
theorem dX5_isFarther_70 : decode cX5_isFarther 70 = .ok (.isub, 1) := by decide +kernel
theorem dX5_isFarther_71 : decode cX5_isFarther 71 = .ok (.istore 4, 2) := by decide +kernel
theorem dX5_isFarther_73 : decode cX5_isFarther 73 = .ok (.iload 4, 2) := by decide +kernel
theorem dX5_isFarther_75 : decode cX5_isFarther 75 = .ok (.ifCond .eq 16, 3) := by decide +kernel
theorem dX5_isFarther_78 : decode cX5_isFarther 78 = .ok (.iload 4, 2) := by decide +kernel
theorem dX5_isFarther_80 : decode cX5_isFarther 80 = .ok (.ifCond .le 7, 3) := by decide +kernel
theorem dX5_isFarther_83 : decode cX5_isFarther 83 = .ok (.iconst 1, 1) := by decide +kernel
theorem dX5_isFarther_84 : decode cX5_isFarther 84 = .ok (.goto 17, 3) := by decide +kernel
theorem dX5_isFarther_87 : decode cX5_isFarther 87 = .ok (.iconst 0, 1) := by decide +kernel
theorem dX5_isFarther_88 : decode cX5_isFarther 88 = .ok (.goto 13, 3) := by decide +kernel
theorem dX5_isFarther_91 : decode cX5_isFarther 91 = .ok (.iload_n 1, 1) := by decide +kernel
theorem dX5_isFarther_92 : decode cX5_isFarther 92 = .ok (.iload_n 2, 1) := by decide +kernel
theorem dX5_isFarther_93 : decode cX5_isFarther 93 = .ok (.if_icmp .ge 7, 3) := by decide +kernel
theorem dX5_isFarther_96 : decode cX5_isFarther 96 = .ok (.iconst 1, 1) := by decide +kernel
theorem dX5_isFarther_97 : decode cX5_isFarther 97 = .ok (.goto 4, 3) := by decide +kernel
theorem dX5_isFarther_100 : decode cX5_isFarther 100 = .ok (.iconst 0, 1) := by decide +kernel
theorem dX5_isFarther_101 : decode cX5_isFarther 101 = .ok (.ireturn, 1) := by decide +kernel
theorem dX5_disturb_0 : decode cX5_disturb 0 = .ok (.aload_n 0, 1) := by decide +kernel
theorem dX5_disturb_1 : decode cX5_disturb 1 = .ok (.getfield 33, 3) := by decide +kernel
theorem dX5_disturb_4 : decode cX5_disturb 4 = .ok (.getfield 70, 3) := by decide +kernel
theorem dX5_disturb_7 : decode cX5_disturb 7 = .ok (.ifCond .le 13, 3) := by decide +kernel
theorem dX5_disturb_10 : decode cX5_disturb 10 = .ok (.aload_n 0, 1) := by decide +kernel
theorem dX5_disturb_11 : decode cX5_disturb 11 = .ok (.getfield 33, 3) := by decide +kernel
theorem dX5_disturb_14 : decode cX5_disturb 14 = .ok (.getfield 61, 3) := by decide +kernel
theorem dX5_disturb_17 : decode cX5_disturb 17 = .ok (.ifCond .gt 4, 3) := by decide +kernel
theorem dX5_disturb_20 : decode cX5_disturb 20 = .ok (.return_, 1) := by decide +kernel
theorem dX5_disturb_21 : decode cX5_disturb 21 = .ok (.iload_n 1, 1) := by decide +kernel
theorem dX5_disturb_22 : decode cX5_disturb 22 = .ok (.bipush 64, 2) := by decide +kernel
theorem dX5_disturb_24 : decode cX5_disturb 24 = .ok (.idiv, 1) := by decide +kernel
theorem dX5_disturb_25 : decode cX5_disturb 25 = .ok (.aload_n 0, 1) := by decide +kernel
theorem dX5_disturb_26 : decode cX5_disturb 26 = .ok (.getfield 33, 3) := by decide +kernel
theorem dX5_disturb_29 : decode cX5_disturb 29 = .ok (.getfield 70, 3) := by decide +kernel
theorem dX5_disturb_32 : decode cX5_disturb 32 = .ok (.irem, 1) := by decide +kernel
theorem dX5_disturb_33 : decode cX5_disturb 33 = .ok (.istore_n 2, 1) := by decide +kernel
theorem dX5_disturb_34 : decode cX5_disturb 34 = .ok (.iload_n 1, 1) := by decide +kernel
theorem dX5_disturb_35 : decode cX5_disturb 35 = .ok (.iconst 4, 1) := by decide +kernel
theorem dX5_disturb_36 : decode cX5_disturb 36 = .ok (.idiv, 1) := by decide +kernel
theorem dX5_disturb_37 : decode cX5_disturb 37 = .ok (.aload_n 0, 1) := by decide +kernel
theorem dX5_disturb_38 : decode cX5_disturb 38 = .ok (.getfield 33, 3) := by decide +kernel
theorem dX5_disturb_41 : decode cX5_disturb 41 = .ok (.getfield 61, 3) := by decide +kernel
theorem dX5_disturb_44 : decode cX5_disturb 44 = .ok (.irem, 1) := by decide +kernel
theorem dX5_disturb_45 : decode cX5_disturb 45 = .ok (.istore_n 3, 1) := by decide +kernel
theorem dX5_disturb_46 : decode cX5_disturb 46 = .ok (.iload_n 1, 1) := by decide +kernel
theorem dX5_disturb_47 : decode cX5_disturb 47 = .ok (.iconst 3, 1) := by decide +kernel
theorem dX5_disturb_48 : decode cX5_disturb 48 = .ok (.irem, 1) := by decide +kernel
theorem dX5_disturb_49 : decode cX5_disturb 49 = .ok (.ifCond .ne 29, 3) := by decide +kernel
theorem dX5_disturb_52 : decode cX5_disturb 52 = .ok (.aload_n 0, 1) := by decide +kernel
theorem dX5_disturb_53 : decode cX5_disturb 53 = .ok (.getfield 9, 3) := by decide +kernel
theorem dX5_disturb_56 : decode cX5_disturb 56 = .ok (.iload_n 2, 1) := by decide +kernel
theorem dX5_disturb_57 : decode cX5_disturb 57 = .ok (.aload_n 0, 1) := by decide +kernel
theorem dX5_disturb_58 : decode cX5_disturb 58 = .ok (.getfield 9, 3) := by decide +kernel
theorem dX5_disturb_61 : decode cX5_disturb 61 = .ok (.iload_n 2, 1) := by decide +kernel
theorem dX5_disturb_62 : decode cX5_disturb 62 = .ok (.iaload, 1) := by decide +kernel
theorem dX5_disturb_63 : decode cX5_disturb 63 = .ok (.iload_n 3, 1) := by decide +kernel
theorem dX5_disturb_64 : decode cX5_disturb 64 = .ok (.iload_n 1, 1) := by decide +kernel
theorem dX5_disturb_65 : decode cX5_disturb 65 = .ok (.sipush 1024, 3) := by decide +kernel
theorem dX5_disturb_68 : decode cX5_disturb 68 = .ok (.idiv, 1) := by decide +kernel
theorem dX5_disturb_69 : decode cX5_disturb 69 = .ok (.iconst 4, 1) := by decide +kernel
theorem dX5_disturb_70 : decode cX5_disturb 70 = .ok (.irem, 1) := by decide +kernel
theorem dX5_disturb_71 : decode cX5_disturb 71 = .ok (.invokestatic 128, 3) := by decide +kernel
theorem dX5_disturb_74 : decode cX5_disturb 74 = .ok (.iastore, 1) := by decide +kernel
theorem dX5_disturb_75 : decode cX5_disturb 75 = .ok (.goto 23, 3) := by decide +kernel
theorem dX5_disturb_78 : decode cX5_disturb 78 = .ok (.iload_n 1, 1) := by decide +kernel
theorem dX5_disturb_79 : decode cX5_disturb 79 = .ok (.iconst 3, 1) := by decide +kernel
theorem dX5_disturb_80 : decode cX5_disturb 80 = .ok (.irem, 1) := by decide +kernel
theorem dX5_disturb_81 : decode cX5_disturb 81 = .ok (.iconst 1, 1) := by decide +kernel
theorem dX5_disturb_82 : decode cX5_disturb 82 = .ok (.if_icmp .ne 16, 3) := by decide +kernel
theorem dX5_disturb_85 : decode cX5_disturb 85 = .ok (.aload_n 0, 1) := by decide +kernel
theorem dX5_disturb_86 : decode cX5_disturb 86 = .ok (.getfield 18, 3) := by decide +kernel
theorem dX5_disturb_89 : decode cX5_disturb 89 = .ok (.iload_n 2, 1) := by decide +kernel
theorem dX5_disturb_90 : decode cX5_disturb 90 = .ok (.iload_n 1, 1) := by decide +kernel
theorem dX5_disturb_91 : decode cX5_disturb 91 = .ok (.sipush 4096, 3) := by decide +kernel
theorem dX5_disturb_94 : decode cX5_disturb 94 = .ok (.idiv, 1) := by decide +kernel
theorem dX5_disturb_95 : decode cX5_disturb 95 = .ok (.iconst 4, 1) := by decide +kernel
theorem dX5_disturb_96 : decode cX5_disturb 96 = .ok (.irem, 1) := by decide +kernel
theorem dX5_disturb_97 : decode cX5_disturb 97 = .ok (.iastore, 1) := by decide +kernel
theorem dX5_disturb_98 : decode cX5_disturb 98 = .ok (.return_, 1) := by decide +kernel
theorem dJ6_bitCount_0f7a4_0 : decode cJ6_bitCount_0f7a4 0 = .ok (.iload_n 0, 1) := by decide +kernel
theorem dJ6_bitCount_0f7a4_1 : decode cJ6_bitCount_0f7a4 1 = .ok (.iload_n 0, 1) := by decide +kernel
theorem dJ6_bitCount_0f7a4_2 : decode cJ6_bitCount_0f7a4 2 = .ok (.iconst 1, 1) := by decide +kernel
theorem dJ6_bitCount_0f7a4_3 : decode cJ6_bitCount_0f7a4 3 = .ok (.iushr, 1) := by decide +kernel
theorem dJ6_bitCount_0f7a4_4 : decode cJ6_bitCount_0f7a4 4 = .ok (.ldc_w 265, 3) := by decide +kernel
theorem dJ6_bitCount_0f7a4_7 : decode cJ6_bitCount_0f7a4 7 = .ok (.iand, 1) := by decide +kernel
theorem dJ6_bitCount_0f7a4_8 : decode cJ6_bitCount_0f7a4 8 = .ok (.isub, 1) := by decide +kernel
theorem dJ6_bitCount_0f7a4_9 : decode cJ6_bitCount_0f7a4 9 = .ok (.istore_n 0, 1) := by decide +kernel
theorem dJ6_bitCount_0f7a4_10 : decode cJ6_bitCount_0f7a4 10 = .ok (.iload_n 0, 1) := by decide +kernel
theorem dJ6_bitCount_0f7a4_11 : decode cJ6_bitCount_0f7a4 11 = .ok (.ldc_w 266, 3) := by decide +kernel
theorem dJ6_bitCount_0f7a4_14 : decode cJ6_bitCount_0f7a4 14 = .ok (.iand, 1) := by decide +kernel
theorem dJ6_bitCount_0f7a4_15 : decode cJ6_bitCount_0f7a4 15 = .ok (.iload_n 0, 1) := by decide +kernel
theorem dJ6_bitCount_0f7a4_16 : decode cJ6_bitCount_0f7a4 16 = .ok (.iconst 2, 1) := by decide +kernel
theorem dJ6_bitCount_0f7a4_17 : decode cJ6_bitCount_0f7a4 17 = .ok (.iushr, 1) := by decide +kernel
theorem dJ6_bitCount_0f7a4_18 : decode cJ6_bitCount_0f7a4 18 = .ok (.ldc_w 266, 3) := by decide +kernel
theorem dJ6_bitCount_0f7a4_21 : decode cJ6_bitCount_0f7a4 21 = .ok (.iand, 1) := by decide +kernel
theorem dJ6_bitCount_0f7a4_22 : decode cJ6_bitCount_0f7a4 22 = .ok (.iadd, 1) := by decide +kernel
theorem dJ6_bitCount_0f7a4_23 : decode cJ6_bitCount_0f7a4 23 = .ok (.istore_n 0, 1) := by decide +kernel
theorem dJ6_bitCount_0f7a4_24 : decode cJ6_bitCount_0f7a4 24 = .ok (.iload_n 0, 1) := by decide +kernel
theorem dJ6_bitCount_0f7a4_25 : decode cJ6_bitCount_0f7a4 25 = .ok (.iload_n 0, 1) := by decide +kernel
theorem dJ6_bitCount_0f7a4_26 : decode cJ6_bitCount_0f7a4 26 = .ok (.iconst 4, 1) := by decide +kernel
theorem dJ6_bitCount_0f7a4_27 : decode cJ6_bitCount_0f7a4 27 = .ok (.iushr, 1) := by decide +kernel
theorem dJ6_bitCount_0f7a4_28 : decode cJ6_bitCount_0f7a4 28 = .ok (.iadd, 1) := by decide +kernel
theorem dJ6_bitCount_0f7a4_29 : decode cJ6_bitCount_0f7a4 29 = .ok (.ldc_w 267, 3) := by decide +kernel
theorem dJ6_bitCount_0f7a4_32 : decode cJ6_bitCount_0f7a4 32 = .ok (.iand, 1) := by decide +kernel
theorem dJ6_bitCount_0f7a4_33 : decode cJ6_bitCount_0f7a4 33 = .ok (.istore_n 0, 1) := by decide +kernel
theorem dJ6_bitCount_0f7a4_34 : decode cJ6_bitCount_0f7a4 34 = .ok (.iload_n 0, 1) := by decide +kernel
theorem dJ6_bitCount_0f7a4_35 : decode cJ6_bitCount_0f7a4 35 = .ok (.iload_n 0, 1) := by decide +kernel
theorem dJ6_bitCount_0f7a4_36 : decode cJ6_bitCount_0f7a4 36 = .ok (.bipush 8, 2) := by decide +kernel
theorem dJ6_bitCount_0f7a4_38 : decode cJ6_bitCount_0f7a4 38 = .ok (.iushr, 1) := by decide +kernel
theorem dJ6_bitCount_0f7a4_39 : decode cJ6_bitCount_0f7a4 39 = .ok (.iadd, 1) := by decide +kernel
theorem dJ6_bitCount_0f7a4_40 : decode cJ6_bitCount_0f7a4 40 = .ok (.istore_n 0, 1) := by decide +kernel
theorem dJ6_bitCount_0f7a4_41 : decode cJ6_bitCount_0f7a4 41 = .ok (.iload_n 0, 1) := by decide +kernel
theorem dJ6_bitCount_0f7a4_42 : decode cJ6_bitCount_0f7a4 42 = .ok (.iload_n 0, 1) := by decide +kernel
theorem dJ6_bitCount_0f7a4_43 : decode cJ6_bitCount_0f7a4 43 = .ok (.bipush 16, 2) := by decide +kernel
theorem dJ6_bitCount_0f7a4_45 : decode cJ6_bitCount_0f7a4 45 = .ok (.iushr, 1) := by decide +kernel
theorem dJ6_bitCount_0f7a4_46 : decode cJ6_bitCount_0f7a4 46 = .ok (.iadd, 1) := by decide +kernel
theorem dJ6_bitCount_0f7a4_47 : decode cJ6_bitCount_0f7a4 47 = .ok (.istore_n 0, 1) := by decide +kernel
theorem dJ6_bitCount_0f7a4_48 : decode cJ6_bitCount_0f7a4 48 = .ok (.iload_n 0, 1) := by decide +kernel
theorem dJ6_bitCount_0f7a4_49 : decode cJ6_bitCount_0f7a4 49 = .ok (.bipush 63, 2) := by decide +kernel
theorem dJ6_bitCount_0f7a4_51 : decode cJ6_bitCount_0f7a4 51 = .ok (.iand, 1) := by decide +kernel
theorem dJ6_bitCount_0f7a4_52 : decode cJ6_bitCount_0f7a4 52 = .ok (.ireturn, 1) := by decide +kernel
theorem dJ7_fill_53178_0 : decode cJ7_fill_53178 0 = .ok (.iconst 0, 1) := by decide +kernel
theorem dJ7_fill_53178_1 : decode cJ7_fill_53178 1 = .ok (.istore_n 2, 1) := by decide +kernel
theorem dJ7_fill_53178_2 : decode cJ7_fill_53178 2 = .ok (.aload_n 0, 1) := by decide +kernel
theorem dJ7_fill_53178_3 : decode cJ7_fill_53178 3 = .ok (.arraylength, 1) := by decide +kernel
theorem dJ7_fill_53178_4 : decode cJ7_fill_53178 4 = .ok (.istore_n 3, 1) := by decide +kernel
theorem dJ7_fill_53178_5 : decode cJ7_fill_53178 5 = .ok (.iload_n 2, 1) := by decide +kernel
theorem dJ7_fill_53178_6 : decode cJ7_fill_53178 6 = .ok (.iload_n 3, 1) := by decide +kernel
theorem dJ7_fill_53178_7 : decode cJ7_fill_53178 7 = .ok (.if_icmp .ge 13, 3) := by decide +kernel
theorem dJ7_fill_53178_10 : decode cJ7_fill_53178 10 = .ok (.aload_n 0, 1) := by decide +kernel
theorem dJ7_fill_53178_11 : decode cJ7_fill_53178 11 = .ok (.iload_n 2, 1) := by decide +kernel
theorem dJ7_fill_53178_12 : decode cJ7_fill_53178 12 = .ok (.iload_n 1, 1) := by decide +kernel
theorem dJ7_fill_53178_13 : decode cJ7_fill_53178 13 = .ok (.iastore, 1) := by decide +kernel
theorem dJ7_fill_53178_14 : decode cJ7_fill_53178 14 = .ok (.iinc 2 1, 3) := by decide +kernel
theorem dJ7_fill_53178_17 : decode cJ7_fill_53178 17 = .ok (.goto (-12), 3) := by decide +kernel
theorem dJ7_fill_53178_20 : decode cJ7_fill_53178 20 = .ok (.return_, 1) := by decide +kernel
theorem dJ9_max_7cf53_0 : decode cJ9_max_7cf53 0 = .ok (.iload_n 0, 1) := by decide +kernel
theorem dJ9_max_7cf53_1 : decode cJ9_max_7cf53 1 = .ok (.iload_n 1, 1) := by decide +kernel
theorem dJ9_max_7cf53_2 : decode cJ9_max_7cf53 2 = .ok (.if_icmp .lt 7, 3) := by decide +kernel
theorem dJ9_max_7cf53_5 : decode cJ9_max_7cf53 5 = .ok (.iload_n 0, 1) := by decide +kernel
theorem dJ9_max_7cf53_6 : decode cJ9_max_7cf53 6 = .ok (.goto 4, 3) := by decide +kernel
theorem dJ9_max_7cf53_9 : decode cJ9_max_7cf53 9 = .ok (.iload_n 1, 1) := by decide +kernel
theorem dJ9_max_7cf53_10 : decode cJ9_max_7cf53 10 = .ok (.ireturn, 1) := by decide +kernel
theorem dJ9_min_7cf53_0 : decode cJ9_min_7cf53 0 = .ok (.iload_n 0, 1) := by decide +kernel
theorem dJ9_min_7cf53_1 : decode cJ9_min_7cf53 1 = .ok (.iload_n 1, 1) := by decide +kernel
theorem dJ9_min_7cf53_2 : decode cJ9_min_7cf53 2 = .ok (.if_icmp .gt 7, 3) := by decide +kernel
theorem dJ9_min_7cf53_5 : decode cJ9_min_7cf53 5 = .ok (.iload_n 0, 1) := by decide +kernel
theorem dJ9_min_7cf53_6 : decode cJ9_min_7cf53 6 = .ok (.goto 4, 3) := by decide +kernel
theorem dJ9_min_7cf53_9 : decode cJ9_min_7cf53 9 = .ok (.iload_n 1, 1) := by decide +kernel
theorem dJ9_min_7cf53_10 : decode cJ9_min_7cf53 10 = .ok (.ireturn, 1) := by decide +kernel
