theorem dX12_token_173 : decode cX12_token 173 = .ok (.iadd, 1) := by decide +kernel
theorem dX12_token_174 : decode cX12_token 174 = .ok (.bipush 48, 2) := by decide +kernel
theorem dX12_token_176 : decode cX12_token 176 = .ok (.isub, 1) := by decide +kernel
theorem dX12_token_177 : decode cX12_token 177 = .ok (.putfield 172, 3) := by decide +kernel
theorem dX12_token_180 : decode cX12_token 180 = .ok (.iinc 2 1, 3) := by decide +kernel
theorem dX12_token_183 : decode cX12_token 183 = .ok (.goto (-39), 3) := by decide +kernel
theorem dX12_token_186 : decode cX12_token 186 = .ok (.aload_n 0, 1) := by decide +kernel
theorem dX12_token_187 : decode cX12_token 187 = .ok (.iload_n 2, 1) := by decide +kernel
theorem dX12_token_188 : decode cX12_token 188 = .ok (.iconst 4, 1) := by decide +kernel
theorem dX12_token_189 : decode cX12_token 189 = .ok (.if_icmp .gt 14, 3) := by decide +kernel
theorem dX12_token_192 : decode cX12_token 192 = .ok (.aload_n 0, 1) := by decide +kernel
theorem dX12_token_193 : decode cX12_token 193 = .ok (.iload_n 2, 1) := by decide +kernel
theorem dX12_token_194 : decode cX12_token 194 = .ok (.invokevirtual 161, 3) := by decide +kernel
theorem dX12_token_197 : decode cX12_token 197 = .ok (.invokestatic 178, 3) := by decide +kernel
theorem dX12_token_200 : decode cX12_token 200 = .ok (.ifCond .eq 7, 3) := by decide +kernel
theorem dX12_token_203 : decode cX12_token 203 = .ok (.iconst 3, 1) := by decide +kernel
theorem dX12_token_204 : decode cX12_token 204 = .ok (.goto 4, 3) := by decide +kernel
theorem dX12_token_207 : decode cX12_token 207 = .ok (.iconst 2, 1) := by decide +kernel
theorem dX12_token_208 : decode cX12_token 208 = .ok (.putfield 175, 3) := by decide +kernel
theorem dX12_token_211 : decode cX12_token 211 = .ok (.goto 21, 3) := by decide +kernel
theorem dX12_token_214 : decode cX12_token 214 = .ok (.iconst 1, 1) := by decide +kernel
theorem dX12_token_215 : decode cX12_token 215 = .ok (.istore_n 2, 1) := by decide +kernel
theorem dX12_token_216 : decode cX12_token 216 = .ok (.aload_n 0, 1) := by decide +kernel
theorem dX12_token_217 : decode cX12_token 217 = .ok (.iload_n 1, 1) := by decide +kernel
theorem dX12_token_218 : decode cX12_token 218 = .ok (.invokestatic 185, 3) := by decide +kernel
theorem dX12_token_221 : decode cX12_token 221 = .ok (.ifCond .eq 7, 3) := by decide +kernel
theorem dX12_token_224 : decode cX12_token 224 = .ok (.iload_n 1, 1) := by decide +kernel
theorem dX12_token_225 : decode cX12_token 225 = .ok (.goto 4, 3) := by decide +kernel
theorem dX12_token_228 : decode cX12_token 228 = .ok (.iconst 3, 1) := by decide +kernel
theorem dX12_token_229 : decode cX12_token 229 = .ok (.putfield 175, 3) := by decide +kernel
theorem dX12_token_232 : decode cX12_token 232 = .ok (.aload_n 0, 1) := by decide +kernel
theorem dX12_token_233 : decode cX12_token 233 = .ok (.getfield 175, 3) := by decide +kernel
theorem dX12_token_236 : decode cX12_token 236 = .ok (.iconst 3, 1) := by decide +kernel
theorem dX12_token_237 : decode cX12_token 237 = .ok (.if_icmp .eq 13, 3) := by decide +kernel
theorem dX12_token_240 : decode cX12_token 240 = .ok (.aload_n 0, 1) := by decide +kernel
theorem dX12_token_241 : decode cX12_token 241 = .ok (.dup, 1) := by decide +kernel
theorem dX12_token_242 : decode cX12_token 242 = .ok (.getfield 155, 3) := by decide +kernel
theorem dX12_token_245 : decode cX12_token 245 = .ok (.iload_n 2, 1) := by decide +kernel
theorem dX12_token_246 : decode cX12_token 246 = .ok (.iadd, 1) := by decide +kernel
theorem dX12_token_247 : decode cX12_token 247 = .ok (.putfield 155, 3) := by decide +kernel
theorem dX12_token_250 : decode cX12_token 250 = .ok (.return_, 1) := by decide +kernel
theorem dX12_wrong_0 : decode cX12_wrong 0 = .ok (.aload_n 0, 1) := by decide +kernel
theorem dX12_wrong_1 : decode cX12_wrong 1 = .ok (.getfield 188, 3) := by decide +kernel
theorem dX12_wrong_4 : decode cX12_wrong 4 = .ok (.ifCond .le 4, 3) := by decide +kernel
theorem dX12_wrong_7 : decode cX12_wrong 7 = .ok (.return_, 1) := by decide +kernel
theorem dX12_wrong_8 : decode cX12_wrong 8 = .ok (.aload_n 0, 1) := by decide +kernel
theorem dX12_wrong_9 : decode cX12_wrong 9 = .ok (.aload_n 0, 1) := by decide +kernel
theorem dX12_wrong_10 : decode cX12_wrong 10 = .ok (.getfield 175, 3) := by decide +kernel
theorem dX12_wrong_13 : decode cX12_wrong 13 = .ok (.iconst 3, 1) := by decide +kernel
theorem dX12_wrong_14 : decode cX12_wrong 14 = .ok (.if_icmp .ne 7, 3) := by decide +kernel
theorem dX12_wrong_17 : decode cX12_wrong 17 = .ok (.iconst 1, 1) := by decide +kernel
theorem dX12_wrong_18 : decode cX12_wrong 18 = .ok (.goto 4, 3) := by decide +kernel
theorem dX12_wrong_21 : decode cX12_wrong 21 = .ok (.iload_n 1, 1) := by decide +kernel
theorem dX12_wrong_22 : decode cX12_wrong 22 = .ok (.putfield 188, 3) := by decide +kernel
theorem dX12_wrong_25 : decode cX12_wrong 25 = .ok (.aload_n 0, 1) := by decide +kernel
theorem dX12_wrong_26 : decode cX12_wrong 26 = .ok (.aload_n 0, 1) := by decide +kernel
theorem dX12_wrong_27 : decode cX12_wrong 27 = .ok (.getfield 165, 3) := by decide +kernel
theorem dX12_wrong_30 : decode cX12_wrong 30 = .ok (.putfield 13, 3) := by decide +kernel
theorem dX12_wrong_33 : decode cX12_wrong 33 = .ok (.return_, 1) := by decide +kernel
theorem dX12_isWord_0 : decode cX12_isWord 0 = .ok (.aload_n 0, 1) := by decide +kernel
theorem dX12_isWord_1 : decode cX12_isWord 1 = .ok (.getfield 175, 3) := by decide +kernel
theorem dX12_isWord_4 : decode cX12_isWord 4 = .ok (.iconst 1, 1) := by decide +kernel
theorem dX12_isWord_5 : decode cX12_isWord 5 = .ok (.if_icmp .ne 16, 3) := by decide +kernel
theorem dX12_isWord_8 : decode cX12_isWord 8 = .ok (.aload_n 0, 1) := by decide +kernel
theorem dX12_isWord_9 : decode cX12_isWord 9 = .ok (.getfield 168, 3) := by decide +kernel
theorem dX12_isWord_12 : decode cX12_isWord 12 = .ok (.lload_n 1, 1) := by decide +kernel
theorem dX12_isWord_13 : decode cX12_isWord 13 = .ok (.lcmp, 1) := by decide +kernel
theorem dX12_isWord_14 : decode cX12_isWord 14 = .ok (.ifCond .ne 7, 3) := by decide +kernel
theorem dX12_isWord_17 : decode cX12_isWord 17 = .ok (.iconst 1, 1) := by decide +kernel
theorem dX12_isWord_18 : decode cX12_isWord 18 = .ok (.goto 4, 3) := by decide +kernel
theorem dX12_isWord_21 : decode cX12_isWord 21 = .ok (.iconst 0, 1) := by decide +kernel
theorem dX12_isWord_22 : decode cX12_isWord 22 = .ok (.ireturn, 1) := by decide +kernel
theorem dX12_isOwn_0 : decode cX12_isOwn 0 = .ok (.aload_n 0, 1) := by decide +kernel
theorem dX12_isOwn_1 : decode cX12_isOwn 1 = .ok (.getfield 168, 3) := by decide +kernel
theorem dX12_isOwn_4 : decode cX12_isOwn 4 = .ok (.ldc2_w 191, 3) := by decide +kernel
theorem dX12_isOwn_7 : decode cX12_isOwn 7 = .ok (.lcmp, 1) := by decide +kernel
theorem dX12_isOwn_8 : decode cX12_isOwn 8 = .ok (.ifCond .eq 212, 3) := by decide +kernel
theorem dX12_isOwn_11 : decode cX12_isOwn 11 = .ok (.aload_n 0, 1) := by decide +kernel
theorem dX12_isOwn_12 : decode cX12_isOwn 12 = .ok (.getfield 168, 3) := by decide +kernel
theorem dX12_isOwn_15 : decode cX12_isOwn 15 = .ok (.ldc2_w 193, 3) := by decide +kernel
theorem dX12_isOwn_18 : decode cX12_isOwn 18 = .ok (.lcmp, 1) := by decide +kernel
theorem dX12_isOwn_19 : decode cX12_isOwn 19 = .ok (.ifCond .eq 201, 3) := by decide +kernel
theorem dX12_isOwn_22 : decode cX12_isOwn 22 = .ok (.aload_n 0, 1) := by decide +kernel
theorem dX12_isOwn_23 : decode cX12_isOwn 23 = .ok (.getfield 168, 3) := by decide +kernel
theorem dX12_isOwn_26 : decode cX12_isOwn 26 = .ok (.ldc2_w 195, 3) := by decide +kernel
theorem dX12_isOwn_29 : decode cX12_isOwn 29 = .ok (.lcmp, 1) := by decide +kernel
theorem dX12_isOwn_30 : decode cX12_isOwn 30 = .ok (.ifCond .eq 190, 3) := by decide +kernel
theorem dX12_isOwn_33 : decode cX12_isOwn 33 = .ok (.aload_n 0, 1) := by decide +kernel
theorem dX12_isOwn_34 : decode cX12_isOwn 34 = .ok (.getfield 168, 3) := by decide +kernel
theorem dX12_isOwn_37 : decode cX12_isOwn 37 = .ok (.ldc2_w 197, 3) := by decide +kernel
theorem dX12_isOwn_40 : decode cX12_isOwn 40 = .ok (.lcmp, 1) := by decide +kernel
theorem dX12_isOwn_41 : decode cX12_isOwn 41 = .ok (.ifCond .eq 179, 3) := by decide +kernel
theorem dX12_isOwn_44 : decode cX12_isOwn 44 = .ok (.aload_n 0, 1) := by decide +kernel
theorem dX12_isOwn_45 : decode cX12_isOwn 45 = .ok (.getfield 168, 3) := by decide +kernel
theorem dX12_isOwn_48 : decode cX12_isOwn 48 = .ok (.ldc2_w 199, 3) := by decide +kernel
theorem dX12_isOwn_51 : decode cX12_isOwn 51 = .ok (.lcmp, 1) := by decide +kernel
theorem dX12_isOwn_52 : decode cX12_isOwn 52 = .ok (.ifCond .eq 168, 3) := by decide +kernel
theorem dX12_isOwn_55 : decode cX12_isOwn 55 = .ok (.aload_n 0, 1) := by decide +kernel
theorem dX12_isOwn_56 : decode cX12_isOwn 56 = .ok (.getfield 168, 3) := by decide +kernel
theorem dX12_isOwn_59 : decode cX12_isOwn 59 = .ok (.ldc2_w 201, 3) := by decide +kernel
theorem dX12_isOwn_62 : decode cX12_isOwn 62 = .ok (.lcmp, 1) := by decide +kernel
theorem dX12_isOwn_63 : decode cX12_isOwn 63 = .ok (.ifCond .eq 157, 3) := by decide +kernel
theorem dX12_isOwn_66 : decode cX12_isOwn 66 = .ok (.aload_n 0, 1) := by decide +kernel
theorem dX12_isOwn_67 : decode cX12_isOwn 67 = .ok (.getfield 168, 3) := by decide +kernel
theorem dX12_isOwn_70 : decode cX12_isOwn 70 = .ok (.ldc2_w 203, 3) := by decide +kernel
theorem dX12_isOwn_73 : decode cX12_isOwn 73 = .ok (.lcmp, 1) := by decide +kernel
theorem dX12_isOwn_74 : decode cX12_isOwn 74 = .ok (.ifCond .eq 146, 3) := by decide +kernel
theorem dX12_isOwn_77 : decode cX12_isOwn 77 = .ok (.aload_n 0, 1) := by decide +kernel
theorem dX12_isOwn_78 : decode cX12_isOwn 78 = .ok (.getfield 168, 3) := by decide +kernel
theorem dX12_isOwn_81 : decode cX12_isOwn 81 = .ok (.ldc2_w 205, 3) := by decide +kernel
theorem dX12_isOwn_84 : decode cX12_isOwn 84 = .ok (.lcmp, 1) := by decide +kernel
theorem dX12_isOwn_85 : decode cX12_isOwn 85 = .ok (.ifCond .eq 135, 3) := by decide +kernel
theorem dX12_isOwn_88 : decode cX12_isOwn 88 = .ok (.aload_n 0, 1) := by decide +kernel
theorem dX12_isOwn_89 : decode cX12_isOwn 89 = .ok (.getfield 168, 3) := by decide +kernel
theorem dX12_isOwn_92 : decode cX12_isOwn 92 = .ok (.ldc2_w 207, 3) := by decide +kernel
theorem dX12_isOwn_95 : decode cX12_isOwn 95 = .ok (.lcmp, 1) := by decide +kernel
theorem dX12_isOwn_96 : decode cX12_isOwn 96 = .ok (.ifCond .eq 124, 3) := by decide +kernel
theorem dX12_isOwn_99 : decode cX12_isOwn 99 = .ok (.aload_n 0, 1) := by decide +kernel
theorem dX12_isOwn_100 : decode cX12_isOwn 100 = .ok (.getfield 168, 3) := by decide +kernel
theorem dX12_isOwn_103 : decode cX12_isOwn 103 = .ok (.ldc2_w 209, 3) := by decide +kernel
theorem dX12_isOwn_106 : decode cX12_isOwn 106 = .ok (.lcmp, 1) := by decide +kernel
theorem dX12_isOwn_107 : decode cX12_isOwn 107 = .ok (.ifCond .eq 113, 3) := by decide +kernel
theorem dX12_isOwn_110 : decode cX12_isOwn 110 = .ok (.aload_n 0, 1) := by decide +kernel
theorem dX12_isOwn_111 : decode cX12_isOwn 111 = .ok (.getfield 168, 3) := by decide +kernel
theorem dX12_isOwn_114 : decode cX12_isOwn 114 = .ok (.ldc2_w 211, 3) := by decide +kernel
theorem dX12_isOwn_117 : decode cX12_isOwn 117 = .ok (.lcmp, 1) := by decide +kernel
theorem dX12_isOwn_118 : decode cX12_isOwn 118 = .ok (.ifCond .eq 102, 3) := by decide +kernel
theorem dX12_isOwn_121 : decode cX12_isOwn 121 = .ok (.aload_n 0, 1) := by decide +kernel
theorem dX12_isOwn_122 : decode cX12_isOwn 122 = .ok (.getfield 168, 3) := by decide +kernel
theorem dX12_isOwn_125 : decode cX12_isOwn 125 = .ok (.ldc2_w 213, 3) := by decide +kernel
theorem dX12_isOwn_128 : decode cX12_isOwn 128 = .ok (.lcmp, 1) := by decide +kernel
theorem dX12_isOwn_129 : decode cX12_isOwn 129 = .ok (.ifCond .eq 91, 3) := by decide +kernel
theorem dX12_isOwn_132 : decode cX12_isOwn 132 = .ok (.aload_n 0, 1) := by decide +kernel
theorem dX12_isOwn_133 : decode cX12_isOwn 133 = .ok (.getfield 168, 3) := by decide +kernel
theorem dX12_isOwn_136 : decode cX12_isOwn 136 = .ok (.ldc2_w 215, 3) := by decide +kernel
theorem dX12_isOwn_139 : decode cX12_isOwn 139 = .ok (.lcmp, 1) := by decide +kernel
theorem dX12_isOwn_140 : decode cX12_isOwn 140 = .ok (.ifCond .eq 80, 3) := by decide +kernel
theorem dX12_isOwn_143 : decode cX12_isOwn 143 = .ok (.aload_n 0, 1) := by decide +kernel
theorem dX12_isOwn_144 : decode cX12_isOwn 144 = .ok (.getfield 168, 3) := by decide +kernel
theorem dX12_isOwn_147 : decode cX12_isOwn 147 = .ok (.ldc2_w 217, 3) := by decide +kernel
theorem dX12_isOwn_150 : decode cX12_isOwn 150 = .ok (.lcmp, 1) := by decide +kernel
theorem dX12_isOwn_151 : decode cX12_isOwn 151 = .ok (.ifCond .eq 69, 3) := by decide +kernel
theorem dX12_isOwn_154 : decode cX12_isOwn 154 = .ok (.aload_n 0, 1) := by decide +kernel
theorem dX12_isOwn_155 : decode cX12_isOwn 155 = .ok (.getfield 168, 3) := by decide +kernel
theorem dX12_isOwn_158 : decode cX12_isOwn 158 = .ok (.ldc2_w 219, 3) := by decide +kernel
theorem dX12_isOwn_161 : decode cX12_isOwn 161 = .ok (.lcmp, 1) := by decide +kernel
theorem dX12_isOwn_162 : decode cX12_isOwn 162 = .ok (.ifCond .eq 58, 3) := by decide +kernel
theorem dX12_isOwn_165 : decode cX12_isOwn 165 = .ok (.aload_n 0, 1) := by decide +kernel
theorem dX12_isOwn_166 : decode cX12_isOwn 166 = .ok (.getfield 168, 3) := by decide +kernel
theorem dX12_isOwn_169 : decode cX12_isOwn 169 = .ok (.ldc2_w 221, 3) := by decide +kernel
theorem dX12_isOwn_172 : decode cX12_isOwn 172 = .ok (.lcmp, 1) := by decide +kernel
theorem dX12_isOwn_173 : decode cX12_isOwn 173 = .ok (.ifCond .eq 47, 3) := by decide +kernel
theorem dX12_isOwn_176 : decode cX12_isOwn 176 = .ok (.aload_n 0, 1) := by decide +kernel
theorem dX12_isOwn_177 : decode cX12_isOwn 177 = .ok (.getfield 168, 3) := by decide +kernel
theorem dX12_isOwn_180 : decode cX12_isOwn 180 = .ok (.ldc2_w 223, 3) := by decide +kernel
theorem dX12_isOwn_183 : decode cX12_isOwn 183 = .ok (.lcmp, 1) := by decide +kernel
theorem dX12_isOwn_184 : decode cX12_isOwn 184 = .ok (.ifCond .eq 36, 3) := by decide +kernel
theorem dX12_isOwn_187 : decode cX12_isOwn 187 = .ok (.aload_n 0, 1) := by decide +kernel
theorem dX12_isOwn_188 : decode cX12_isOwn 188 = .ok (.getfield 168, 3) := by decide +kernel
theorem dX12_isOwn_191 : decode cX12_isOwn 191 = .ok (.ldc2_w 225, 3) := by decide +kernel
theorem dX12_isOwn_194 : decode cX12_isOwn 194 = .ok (.lcmp, 1) := by decide +kernel
theorem dX12_isOwn_195 : decode cX12_isOwn 195 = .ok (.ifCond .eq 25, 3) := by decide +kernel
theorem dX12_isOwn_198 : decode cX12_isOwn 198 = .ok (.aload_n 0, 1) := by decide +kernel
theorem dX12_isOwn_199 : decode cX12_isOwn 199 = .ok (.getfield 168, 3) := by decide +kernel
theorem dX12_isOwn_202 : decode cX12_isOwn 202 = .ok (.ldc2_w 227, 3) := by decide +kernel
theorem dX12_isOwn_205 : decode cX12_isOwn 205 = .ok (.lcmp, 1) := by decide +kernel
theorem dX12_isOwn_206 : decode cX12_isOwn 206 = .ok (.ifCond .eq 14, 3) := by decide +kernel
theorem dX12_isOwn_209 : decode cX12_isOwn 209 = .ok (.aload_n 0, 1) := by decide +kernel
theorem dX12_isOwn_210 : decode cX12_isOwn 210 = .ok (.getfield 168, 3) := by decide +kernel
theorem dX12_isOwn_213 : decode cX12_isOwn 213 = .ok (.ldc2_w 229, 3) := by decide +kernel
theorem dX12_isOwn_216 : decode cX12_isOwn 216 = .ok (.lcmp, 1) := by decide +kernel
theorem dX12_isOwn_217 : decode cX12_isOwn 217 = .ok (.ifCond .ne 7, 3) := by decide +kernel
theorem dX12_isOwn_220 : decode cX12_isOwn 220 = .ok (.iconst 1, 1) := by decide +kernel
theorem dX12_isOwn_221 : decode cX12_isOwn 221 = .ok (.goto 4, 3) := by decide +kernel
theorem dX12_isOwn_224 : decode cX12_isOwn 224 = .ok (.iconst 0, 1) := by decide +kernel
theorem dX12_isOwn_225 : decode cX12_isOwn 225 = .ok (.ireturn, 1) := by decide +kernel
theorem dX12_isName_0 : decode cX12_isName 0 = .ok (.aload_n 0, 1) := by decide +kernel
theorem dX12_isName_1 : decode cX12_isName 1 = .ok (.getfield 175, 3) := by decide +kernel
theorem dX12_isName_4 : decode cX12_isName 4 = .ok (.iconst 1, 1) := by decide +kernel
theorem dX12_isName_5 : decode cX12_isName 5 = .ok (.if_icmp .ne 14, 3) := by decide +kernel
theorem dX12_isName_8 : decode cX12_isName 8 = .ok (.aload_n 0, 1) := by decide +kernel
theorem dX12_isName_9 : decode cX12_isName 9 = .ok (.invokevirtual 231, 3) := by decide +kernel
theorem dX12_isName_12 : decode cX12_isName 12 = .ok (.ifCond .ne 7, 3) := by decide +kernel
theorem dX12_isName_15 : decode cX12_isName 15 = .ok (.iconst 1, 1) := by decide +kernel
theorem dX12_isName_16 : decode cX12_isName 16 = .ok (.goto 4, 3) := by decide +kernel
theorem dX12_isName_19 : decode cX12_isName 19 = .ok (.iconst 0, 1) := by decide +kernel
theorem dX12_isName_20 : decode cX12_isName 20 = .ok (.ireturn, 1) := by decide +kernel
theorem dX12_want_0 : decode cX12_want 0 = .ok (.aload_n 0, 1) := by decide +kernel
theorem dX12_want_1 : decode cX12_want 1 = .ok (.getfield 188, 3) := by decide +kernel
theorem dX12_want_4 : decode cX12_want 4 = .ok (.ifCond .le 4, 3) := by decide +kernel
theorem dX12_want_7 : decode cX12_want 7 = .ok (.return_, 1) := by decide +kernel
theorem dX12_want_8 : decode cX12_want 8 = .ok (.aload_n 0, 1) := by decide +kernel
theorem dX12_want_9 : decode cX12_want 9 = .ok (.lload_n 1, 1) := by decide +kernel
theorem dX12_want_10 : decode cX12_want 10 = .ok (.invokevirtual 235, 3) := by decide +kernel
theorem dX12_want_13 : decode cX12_want 13 = .ok (.ifCond .ne 11, 3) := by decide +kernel
theorem dX12_want_16 : decode cX12_want 16 = .ok (.aload_n 0, 1) := by decide +kernel
theorem dX12_want_17 : decode cX12_want 17 = .ok (.iconst 2, 1) := by decide +kernel
theorem dX12_want_18 : decode cX12_want 18 = .ok (.invokevirtual 239, 3) := by decide +kernel
theorem dX12_want_21 : decode cX12_want 21 = .ok (.goto 7, 3) := by decide +kernel
theorem dX12_want_24 : decode cX12_want 24 = .ok (.aload_n 0, 1) := by decide +kernel
theorem dX12_want_25 : decode cX12_want 25 = .ok (.invokevirtual 242, 3) := by decide +kernel
theorem dX12_want_28 : decode cX12_want 28 = .ok (.return_, 1) := by decide +kernel
theorem dX12_toldNumber_0 : decode cX12_toldNumber 0 = .ok (.aload_n 0, 1) := by decide +kernel
theorem dX12_toldNumber_1 : decode cX12_toldNumber 1 = .ok (.getfield 188, 3) := by decide +kernel
theorem dX12_toldNumber_4 : decode cX12_toldNumber 4 = .ok (.ifCond .le 5, 3) := by decide +kernel
theorem dX12_toldNumber_7 : decode cX12_toldNumber 7 = .ok (.iconst 0, 1) := by decide +kernel
theorem dX12_toldNumber_8 : decode cX12_toldNumber 8 = .ok (.ireturn, 1) := by decide +kernel
theorem dX12_toldNumber_9 : decode cX12_toldNumber 9 = .ok (.aload_n 0, 1) := by decide +kernel
theorem dX12_toldNumber_10 : decode cX12_toldNumber 10 = .ok (.getfield 175, 3) := by decide +kernel
theorem dX12_toldNumber_13 : decode cX12_toldNumber 13 = .ok (.iconst 2, 1) := by decide +kernel
theorem dX12_toldNumber_14 : decode cX12_toldNumber 14 = .ok (.if_icmp .eq 11, 3) := by decide +kernel
theorem dX12_toldNumber_17 : decode cX12_toldNumber 17 = .ok (.aload_n 0, 1) := by decide +kernel
theorem dX12_toldNumber_18 : decode cX12_toldNumber 18 = .ok (.iconst 2, 1) := by decide +kernel
theorem dX12_toldNumber_19 : decode cX12_toldNumber 19 = .ok (.invokevirtual 239, 3) := by decide +kernel
theorem dX12_toldNumber_22 : decode cX12_toldNumber 22 = .ok (.goto 24, 3) := by decide +kernel
theorem dX12_toldNumber_25 : decode cX12_toldNumber 25 = .ok (.aload_n 0, 1) := by decide +kernel
theorem dX12_toldNumber_26 : decode cX12_toldNumber 26 = .ok (.getfield 172, 3) := by decide +kernel
theorem dX12_toldNumber_29 : decode cX12_toldNumber 29 = .ok (.iload_n 1, 1) := by decide +kernel
theorem dX12_toldNumber_30 : decode cX12_toldNumber 30 = .ok (.if_icmp .lt 11, 3) := by decide +kernel
theorem dX12_toldNumber_33 : decode cX12_toldNumber 33 = .ok (.aload_n 0, 1) := by decide +kernel
theorem dX12_toldNumber_34 : decode cX12_toldNumber 34 = .ok (.getfield 172, 3) := by decide +kernel
theorem dX12_toldNumber_37 : decode cX12_toldNumber 37 = .ok (.iload_n 2, 1) := by decide +kernel
theorem dX12_toldNumber_38 : decode cX12_toldNumber 38 = .ok (.if_icmp .le 8, 3) := by decide +kernel
theorem dX12_toldNumber_41 : decode cX12_toldNumber 41 = .ok (.aload_n 0, 1) := by decide +kernel
theorem dX12_toldNumber_42 : decode cX12_toldNumber 42 = .ok (.iconst 4, 1) := by decide +kernel
theorem dX12_toldNumber_43 : decode cX12_toldNumber 43 = .ok (.invokevirtual 239, 3) := by decide +kernel
theorem dX12_toldNumber_46 : decode cX12_toldNumber 46 = .ok (.aload_n 0, 1) := by decide +kernel
theorem dX12_toldNumber_47 : decode cX12_toldNumber 47 = .ok (.getfield 172, 3) := by decide +kernel
theorem dX12_toldNumber_50 : decode cX12_toldNumber 50 = .ok (.istore_n 3, 1) := by decide +kernel
theorem dX12_toldNumber_51 : decode cX12_toldNumber 51 = .ok (.aload_n 0, 1) := by decide +kernel
theorem dX12_toldNumber_52 : decode cX12_toldNumber 52 = .ok (.getfield 188, 3) := by decide +kernel
theorem dX12_toldNumber_55 : decode cX12_toldNumber 55 = .ok (.ifCond .ne 7, 3) := by decide +kernel
theorem dX12_toldNumber_58 : decode cX12_toldNumber 58 = .ok (.aload_n 0, 1) := by decide +kernel
theorem dX12_toldNumber_59 : decode cX12_toldNumber 59 = .ok (.invokevirtual 242, 3) := by decide +kernel
theorem dX12_toldNumber_62 : decode cX12_toldNumber 62 = .ok (.iload_n 3, 1) := by decide +kernel
theorem dX12_toldNumber_63 : decode cX12_toldNumber 63 = .ok (.ireturn, 1) := by decide +kernel
theorem dX12_told_0 : decode cX12_told 0 = .ok (.aload_n 0, 1) := by decide +kernel
theorem dX12_told_1 : decode cX12_told 1 = .ok (.lload_n 1, 1) := by decide +kernel
theorem dX12_told_2 : decode cX12_told 2 = .ok (.invokevirtual 245, 3) := by decide +kernel
theorem dX12_told_5 : decode cX12_told 5 = .ok (.aload_n 0, 1) := by decide +kernel
theorem dX12_told_6 : decode cX12_told 6 = .ok (.iload_n 3, 1) := by decide +kernel
theorem dX12_told_7 : decode cX12_told 7 = .ok (.iload 4, 2) := by decide +kernel
theorem dX12_told_9 : decode cX12_told 9 = .ok (.invokevirtual 249, 3) := by decide +kernel
theorem dX12_told_12 : decode cX12_told 12 = .ok (.ireturn, 1) := by decide +kernel
theorem dX12_option_0 : decode cX12_option 0 = .ok (.aload_n 0, 1) := by decide +kernel
theorem dX12_option_1 : decode cX12_option 1 = .ok (.getfield 188, 3) := by decide +kernel
theorem dX12_option_4 : decode cX12_option 4 = .ok (.ifCond .ne 21, 3) := by decide +kernel
theorem dX12_option_7 : decode cX12_option 7 = .ok (.aload_n 0, 1) := by decide +kernel
theorem dX12_option_8 : decode cX12_option 8 = .ok (.lload_n 1, 1) := by decide +kernel
theorem dX12_option_9 : decode cX12_option 9 = .ok (.invokevirtual 235, 3) := by decide +kernel
theorem dX12_option_12 : decode cX12_option 12 = .ok (.ifCond .eq 13, 3) := by decide +kernel
theorem dX12_option_15 : decode cX12_option 15 = .ok (.aload_n 0, 1) := by decide +kernel
theorem dX12_option_16 : decode cX12_option 16 = .ok (.lload_n 1, 1) := by decide +kernel
theorem dX12_option_17 : decode cX12_option 17 = .ok (.iconst 0, 1) := by decide +kernel
theorem dX12_option_18 : decode cX12_option 18 = .ok (.iload_n 3, 1) := by decide +kernel
theorem dX12_option_19 : decode cX12_option 19 = .ok (.invokevirtual 253, 3) := by decide +kernel
theorem dX12_option_22 : decode cX12_option 22 = .ok (.goto 5, 3) := by decide +kernel
theorem dX12_option_25 : decode cX12_option 25 = .ok (.iload 4, 2) := by decide +kernel
theorem dX12_option_27 : decode cX12_option 27 = .ok (.ireturn, 1) := by decide +kernel
theorem dX12_takes_0 : decode cX12_takes 0 = .ok (.aload_n 0, 1) := by decide +kernel
theorem dX12_takes_1 : decode cX12_takes 1 = .ok (.getfield 188, 3) := by decide +kernel
theorem dX12_takes_4 : decode cX12_takes 4 = .ok (.ifCond .ne 15, 3) := by decide +kernel
theorem dX12_takes_7 : decode cX12_takes 7 = .ok (.aload_n 0, 1) := by decide +kernel
theorem dX12_takes_8 : decode cX12_takes 8 = .ok (.lload_n 1, 1) := by decide +kernel
theorem dX12_takes_9 : decode cX12_takes 9 = .ok (.invokevirtual 235, 3) := by decide +kernel
theorem dX12_takes_12 : decode cX12_takes 12 = .ok (.ifCond .eq 7, 3) := by decide +kernel
theorem dX12_takes_15 : decode cX12_takes 15 = .ok (.iconst 1, 1) := by decide +kernel
theorem dX12_takes_16 : decode cX12_takes 16 = .ok (.goto 4, 3) := by decide +kernel
theorem dX12_takes_19 : decode cX12_takes 19 = .ok (.iconst 0, 1) := by decide +kernel
theorem dX12_takes_20 : decode cX12_takes 20 = .ok (.istore_n 3, 1) := by decide +kernel
theorem dX12_takes_21 : decode cX12_takes 21 = .ok (.iload_n 3, 1) := by decide +kernel
theorem dX12_takes_22 : decode cX12_takes 22 = .ok (.ifCond .eq 7, 3) := by decide +kernel
theorem dX12_takes_25 : decode cX12_takes 25 = .ok (.aload_n 0, 1) := by decide +kernel
theorem dX12_takes_26 : decode cX12_takes 26 = .ok (.invokevirtual 242, 3) := by decide +kernel
theorem dX12_takes_29 : decode cX12_takes 29 = .ok (.iload_n 3, 1) := by decide +kernel
theorem dX12_takes_30 : decode cX12_takes 30 = .ok (.ireturn, 1) := by decide +kernel
theorem dX12_find_0 : decode cX12_find 0 = .ok (.iconst (-1), 1) := by decide +kernel
theorem dX12_find_1 : decode cX12_find 1 = .ok (.istore_n 1, 1) := by decide +kernel
theorem dX12_find_2 : decode cX12_find 2 = .ok (.iconst 0, 1) := by decide +kernel
theorem dX12_find_3 : decode cX12_find 3 = .ok (.istore_n 2, 1) := by decide +kernel
theorem dX12_find_4 : decode cX12_find 4 = .ok (.iload_n 2, 1) := by decide +kernel
theorem dX12_find_5 : decode cX12_find 5 = .ok (.aload_n 0, 1) := by decide +kernel
theorem dX12_find_6 : decode cX12_find 6 = .ok (.getfield 257, 3) := by decide +kernel
theorem dX12_find_9 : decode cX12_find 9 = .ok (.if_icmp .ge 29, 3) := by decide +kernel
theorem dX12_find_12 : decode cX12_find 12 = .ok (.aload_n 0, 1) := by decide +kernel
theorem dX12_find_13 : decode cX12_find 13 = .ok (.getfield 17, 3) := by decide +kernel
theorem dX12_find_16 : decode cX12_find 16 = .ok (.iload_n 2, 1) := by decide +kernel
theorem dX12_find_17 : decode cX12_find 17 = .ok (.laload, 1) := by decide +kernel
theorem dX12_find_18 : decode cX12_find 18 = .ok (.aload_n 0, 1) := by decide +kernel
theorem dX12_find_19 : decode cX12_find 19 = .ok (.getfield 168, 3) := by decide +kernel
theorem dX12_find_22 : decode cX12_find 22 = .ok (.lcmp, 1) := by decide +kernel
theorem dX12_find_23 : decode cX12_find 23 = .ok (.ifCond .ne 7, 3) := by decide +kernel
theorem dX12_find_26 : decode cX12_find 26 = .ok (.iload_n 2, 1) := by decide +kernel
theorem dX12_find_27 : decode cX12_find 27 = .ok (.goto 4, 3) := by decide +kernel
theorem dX12_find_30 : decode cX12_find 30 = .ok (.iload_n 1, 1) := by decide +kernel
theorem dX12_find_31 : decode cX12_find 31 = .ok (.istore_n 1, 1) := by decide +kernel
theorem dX12_find_32 : decode cX12_find 32 = .ok (.iinc 2 1, 3) := by decide +kernel
theorem dX12_find_35 : decode cX12_find 35 = .ok (.goto (-31), 3) := by decide +kernel
theorem dX12_find_38 : decode cX12_find 38 = .ok (.iload_n 1, 1) := by decide +kernel
theorem dX12_find_39 : decode cX12_find 39 = .ok (.ireturn, 1) := by decide +kernel
theorem dX12_oldOne_0 : decode cX12_oldOne 0 = .ok (.aload_n 0, 1) := by decide +kernel
theorem dX12_oldOne_1 : decode cX12_oldOne 1 = .ok (.getfield 188, 3) := by decide +kernel
theorem dX12_oldOne_4 : decode cX12_oldOne 4 = .ok (.ifCond .le 5, 3) := by decide +kernel
theorem dX12_oldOne_7 : decode cX12_oldOne 7 = .ok (.iconst 0, 1) := by decide +kernel
theorem dX12_oldOne_8 : decode cX12_oldOne 8 = .ok (.ireturn, 1) := by decide +kernel
theorem dX12_oldOne_9 : decode cX12_oldOne 9 = .ok (.aload_n 0, 1) := by decide +kernel
theorem dX12_oldOne_10 : decode cX12_oldOne 10 = .ok (.invokevirtual 260, 3) := by decide +kernel
theorem dX12_oldOne_13 : decode cX12_oldOne 13 = .ok (.ifCond .ne 11, 3) := by decide +kernel
theorem dX12_oldOne_16 : decode cX12_oldOne 16 = .ok (.aload_n 0, 1) := by decide +kernel
theorem dX12_oldOne_17 : decode cX12_oldOne 17 = .ok (.iconst 2, 1) := by decide +kernel
theorem dX12_oldOne_18 : decode cX12_oldOne 18 = .ok (.invokevirtual 239, 3) := by decide +kernel
theorem dX12_oldOne_21 : decode cX12_oldOne 21 = .ok (.goto 15, 3) := by decide +kernel
theorem dX12_oldOne_24 : decode cX12_oldOne 24 = .ok (.aload_n 0, 1) := by decide +kernel
theorem dX12_oldOne_25 : decode cX12_oldOne 25 = .ok (.invokevirtual 263, 3) := by decide +kernel
theorem dX12_oldOne_28 : decode cX12_oldOne 28 = .ok (.ifCond .ge 8, 3) := by decide +kernel
theorem dX12_oldOne_31 : decode cX12_oldOne 31 = .ok (.aload_n 0, 1) := by decide +kernel
theorem dX12_oldOne_32 : decode cX12_oldOne 32 = .ok (.iconst 5, 1) := by decide +kernel
theorem dX12_oldOne_33 : decode cX12_oldOne 33 = .ok (.invokevirtual 239, 3) := by decide +kernel
theorem dX12_oldOne_36 : decode cX12_oldOne 36 = .ok (.aload_n 0, 1) := by decide +kernel
theorem dX12_oldOne_37 : decode cX12_oldOne 37 = .ok (.getfield 188, 3) := by decide +kernel
theorem dX12_oldOne_40 : decode cX12_oldOne 40 = .ok (.ifCond .le 7, 3) := by decide +kernel
theorem dX12_oldOne_43 : decode cX12_oldOne 43 = .ok (.iconst 0, 1) := by decide +kernel
theorem dX12_oldOne_44 : decode cX12_oldOne 44 = .ok (.goto 7, 3) := by decide +kernel
theorem dX12_oldOne_47 : decode cX12_oldOne 47 = .ok (.aload_n 0, 1) := by decide +kernel
theorem dX12_oldOne_48 : decode cX12_oldOne 48 = .ok (.invokevirtual 263, 3) := by decide +kernel
theorem dX12_oldOne_51 : decode cX12_oldOne 51 = .ok (.ireturn, 1) := by decide +kernel
theorem dX12_add_0 : decode cX12_add 0 = .ok (.aload_n 0, 1) := by decide +kernel
theorem dX12_add_1 : decode cX12_add 1 = .ok (.getfield 21, 3) := by decide +kernel
theorem dX12_add_4 : decode cX12_add 4 = .ok (.sipush 320, 3) := by decide +kernel
theorem dX12_add_7 : decode cX12_add 7 = .ok (.aload_n 0, 1) := by decide +kernel
theorem dX12_add_8 : decode cX12_add 8 = .ok (.getfield 267, 3) := by decide +kernel
theorem dX12_add_11 : decode cX12_add 11 = .ok (.imul, 1) := by decide +kernel
theorem dX12_add_12 : decode cX12_add 12 = .ok (.aload_n 0, 1) := by decide +kernel
theorem dX12_add_13 : decode cX12_add 13 = .ok (.getfield 27, 3) := by decide +kernel
theorem dX12_add_16 : decode cX12_add 16 = .ok (.aload_n 0, 1) := by decide +kernel
theorem dX12_add_17 : decode cX12_add 17 = .ok (.getfield 267, 3) := by decide +kernel
theorem dX12_add_20 : decode cX12_add 20 = .ok (.iaload, 1) := by decide +kernel
theorem dX12_add_21 : decode cX12_add 21 = .ok (.iadd, 1) := by decide +kernel
theorem dX12_add_22 : decode cX12_add 22 = .ok (.iload_n 1, 1) := by decide +kernel
theorem dX12_add_23 : decode cX12_add 23 = .ok (.iastore, 1) := by decide +kernel
theorem dX12_add_24 : decode cX12_add 24 = .ok (.aload_n 0, 1) := by decide +kernel
theorem dX12_add_25 : decode cX12_add 25 = .ok (.getfield 24, 3) := by decide +kernel
theorem dX12_add_28 : decode cX12_add 28 = .ok (.sipush 320, 3) := by decide +kernel
theorem dX12_add_31 : decode cX12_add 31 = .ok (.aload_n 0, 1) := by decide +kernel
theorem dX12_add_32 : decode cX12_add 32 = .ok (.getfield 267, 3) := by decide +kernel
theorem dX12_add_35 : decode cX12_add 35 = .ok (.imul, 1) := by decide +kernel
theorem dX12_add_36 : decode cX12_add 36 = .ok (.aload_n 0, 1) := by decide +kernel
theorem dX12_add_37 : decode cX12_add 37 = .ok (.getfield 27, 3) := by decide +kernel
theorem dX12_add_40 : decode cX12_add 40 = .ok (.aload_n 0, 1) := by decide +kernel
theorem dX12_add_41 : decode cX12_add 41 = .ok (.getfield 267, 3) := by decide +kernel
theorem dX12_add_44 : decode cX12_add 44 = .ok (.iaload, 1) := by decide +kernel
theorem dX12_add_45 : decode cX12_add 45 = .ok (.iadd, 1) := by decide +kernel
theorem dX12_add_46 : decode cX12_add 46 = .ok (.iload_n 2, 1) := by decide +kernel
theorem dX12_add_47 : decode cX12_add 47 = .ok (.iastore, 1) := by decide +kernel
theorem dX12_add_48 : decode cX12_add 48 = .ok (.aload_n 0, 1) := by decide +kernel
theorem dX12_add_49 : decode cX12_add 49 = .ok (.getfield 27, 3) := by decide +kernel
theorem dX12_add_52 : decode cX12_add 52 = .ok (.aload_n 0, 1) := by decide +kernel
theorem dX12_add_53 : decode cX12_add 53 = .ok (.getfield 267, 3) := by decide +kernel
theorem dX12_add_56 : decode cX12_add 56 = .ok (.dup2, 1) := by decide +kernel
theorem dX12_add_57 : decode cX12_add 57 = .ok (.iaload, 1) := by decide +kernel
theorem dX12_add_58 : decode cX12_add 58 = .ok (.iconst 1, 1) := by decide +kernel
theorem dX12_add_59 : decode cX12_add 59 = .ok (.iadd, 1) := by decide +kernel
theorem dX12_add_60 : decode cX12_add 60 = .ok (.iastore, 1) := by decide +kernel
theorem dX12_add_61 : decode cX12_add 61 = .ok (.return_, 1) := by decide +kernel
theorem dX12_tight_0 : decode cX12_tight 0 = .ok (.iload_n 0, 1) := by decide +kernel
theorem dX12_tight_1 : decode cX12_tight 1 = .ok (.lookupswitch 85 #[(21, 79), (38, 77), (43, 83), (45, 83), (60, 81), (61, 81), (62, 81), (124, 75)], 75) := by decide +kernel
theorem dX12_tight_76 : decode cX12_tight 76 = .ok (.iconst 1, 1) := by decide +kernel
theorem dX12_tight_77 : decode cX12_tight 77 = .ok (.ireturn, 1) := by decide +kernel
theorem dX12_tight_78 : decode cX12_tight 78 = .ok (.iconst 2, 1) := by decide +kernel
theorem dX12_tight_79 : decode cX12_tight 79 = .ok (.ireturn, 1) := by decide +kernel
theorem dX12_tight_80 : decode cX12_tight 80 = .ok (.iconst 3, 1) := by decide +kernel
theorem dX12_tight_81 : decode cX12_tight 81 = .ok (.ireturn, 1) := by decide +kernel
theorem dX12_tight_82 : decode cX12_tight 82 = .ok (.iconst 4, 1) := by decide +kernel
theorem dX12_tight_83 : decode cX12_tight 83 = .ok (.ireturn, 1) := by decide +kernel
theorem dX12_tight_84 : decode cX12_tight 84 = .ok (.iconst 5, 1) := by decide +kernel
theorem dX12_tight_85 : decode cX12_tight 85 = .ok (.ireturn, 1) := by decide +kernel
theorem dX12_tight_86 : decode cX12_tight 86 = .ok (.bipush 6, 2) := by decide +kernel
theorem dX12_tight_88 : decode cX12_tight 88 = .ok (.ireturn, 1) := by decide +kernel
theorem dX12_close_0 : decode cX12_close 0 = .ok (.aload_n 0, 1) := by decide +kernel
theorem dX12_close_1 : decode cX12_close 1 = .ok (.getfield 270, 3) := by decide +kernel
theorem dX12_close_4 : decode cX12_close 4 = .ok (.ifCond .le 97, 3) := by decide +kernel
theorem dX12_close_7 : decode cX12_close 7 = .ok (.aload_n 0, 1) := by decide +kernel
theorem dX12_close_8 : decode cX12_close 8 = .ok (.getfield 39, 3) := by decide +kernel
theorem dX12_close_11 : decode cX12_close 11 = .ok (.aload_n 0, 1) := by decide +kernel
theorem dX12_close_12 : decode cX12_close 12 = .ok (.getfield 270, 3) := by decide +kernel
theorem dX12_close_15 : decode cX12_close 15 = .ok (.iconst 1, 1) := by decide +kernel
theorem dX12_close_16 : decode cX12_close 16 = .ok (.isub, 1) := by decide +kernel
theorem dX12_close_17 : decode cX12_close 17 = .ok (.iaload, 1) := by decide +kernel
theorem dX12_close_18 : decode cX12_close 18 = .ok (.bipush 20, 2) := by decide +kernel
theorem dX12_close_20 : decode cX12_close 20 = .ok (.if_icmp .eq 81, 3) := by decide +kernel
theorem dX12_close_23 : decode cX12_close 23 = .ok (.aload_n 0, 1) := by decide +kernel
theorem dX12_close_24 : decode cX12_close 24 = .ok (.getfield 39, 3) := by decide +kernel
theorem dX12_close_27 : decode cX12_close 27 = .ok (.aload_n 0, 1) := by decide +kernel
theorem dX12_close_28 : decode cX12_close 28 = .ok (.getfield 270, 3) := by decide +kernel
theorem dX12_close_31 : decode cX12_close 31 = .ok (.iconst 1, 1) := by decide +kernel
theorem dX12_close_32 : decode cX12_close 32 = .ok (.isub, 1) := by decide +kernel
theorem dX12_close_33 : decode cX12_close 33 = .ok (.iaload, 1) := by decide +kernel
theorem dX12_close_34 : decode cX12_close 34 = .ok (.invokestatic 273, 3) := by decide +kernel
theorem dX12_close_37 : decode cX12_close 37 = .ok (.iload_n 1, 1) := by decide +kernel
theorem dX12_close_38 : decode cX12_close 38 = .ok (.if_icmp .lt 63, 3) := by decide +kernel
theorem dX12_close_41 : decode cX12_close 41 = .ok (.aload_n 0, 1) := by decide +kernel
theorem dX12_close_42 : decode cX12_close 42 = .ok (.dup, 1) := by decide +kernel
theorem dX12_close_43 : decode cX12_close 43 = .ok (.getfield 270, 3) := by decide +kernel
theorem dX12_close_46 : decode cX12_close 46 = .ok (.iconst 1, 1) := by decide +kernel
theorem dX12_close_47 : decode cX12_close 47 = .ok (.isub, 1) := by decide +kernel
theorem dX12_close_48 : decode cX12_close 48 = .ok (.putfield 270, 3) := by decide +kernel
theorem dX12_close_51 : decode cX12_close 51 = .ok (.aload_n 0, 1) := by decide +kernel
theorem dX12_close_52 : decode cX12_close 52 = .ok (.getfield 39, 3) := by decide +kernel
theorem dX12_close_55 : decode cX12_close 55 = .ok (.aload_n 0, 1) := by decide +kernel
theorem dX12_close_56 : decode cX12_close 56 = .ok (.getfield 270, 3) := by decide +kernel
theorem dX12_close_59 : decode cX12_close 59 = .ok (.iaload, 1) := by decide +kernel
theorem dX12_close_60 : decode cX12_close 60 = .ok (.bipush 21, 2) := by decide +kernel
theorem dX12_close_62 : decode cX12_close 62 = .ok (.if_icmp .ne 22, 3) := by decide +kernel
theorem dX12_close_65 : decode cX12_close 65 = .ok (.aload_n 0, 1) := by decide +kernel
theorem dX12_close_66 : decode cX12_close 66 = .ok (.iconst 2, 1) := by decide +kernel
theorem dX12_close_67 : decode cX12_close 67 = .ok (.iconst 0, 1) := by decide +kernel
theorem dX12_close_68 : decode cX12_close 68 = .ok (.invokevirtual 276, 3) := by decide +kernel
theorem dX12_close_71 : decode cX12_close 71 = .ok (.aload_n 0, 1) := by decide +kernel
theorem dX12_close_72 : decode cX12_close 72 = .ok (.dup, 1) := by decide +kernel
theorem dX12_close_73 : decode cX12_close 73 = .ok (.getfield 280, 3) := by decide +kernel
theorem dX12_close_76 : decode cX12_close 76 = .ok (.iconst 1, 1) := by decide +kernel
theorem dX12_close_77 : decode cX12_close 77 = .ok (.isub, 1) := by decide +kernel
theorem dX12_close_78 : decode cX12_close 78 = .ok (.putfield 280, 3) := by decide +kernel
theorem dX12_close_81 : decode cX12_close 81 = .ok (.goto (-81), 3) := by decide +kernel
theorem dX12_close_84 : decode cX12_close 84 = .ok (.aload_n 0, 1) := by decide +kernel
theorem dX12_close_85 : decode cX12_close 85 = .ok (.iconst 3, 1) := by decide +kernel
theorem dX12_close_86 : decode cX12_close 86 = .ok (.aload_n 0, 1) := by decide +kernel
theorem dX12_close_87 : decode cX12_close 87 = .ok (.getfield 39, 3) := by decide +kernel
theorem dX12_close_90 : decode cX12_close 90 = .ok (.aload_n 0, 1) := by decide +kernel
theorem dX12_close_91 : decode cX12_close 91 = .ok (.getfield 270, 3) := by decide +kernel
theorem dX12_close_94 : decode cX12_close 94 = .ok (.iaload, 1) := by decide +kernel
theorem dX12_close_95 : decode cX12_close 95 = .ok (.invokevirtual 276, 3) := by decide +kernel
theorem dX12_close_98 : decode cX12_close 98 = .ok (.goto (-98), 3) := by decide +kernel
theorem dX12_close_101 : decode cX12_close 101 = .ok (.return_, 1) := by decide +kernel
theorem dX12_hasRelation_0 : decode cX12_hasRelation 0 = .ok (.aload_n 0, 1) := by decide +kernel
theorem dX12_hasRelation_1 : decode cX12_hasRelation 1 = .ok (.getfield 270, 3) := by decide +kernel
theorem dX12_hasRelation_4 : decode cX12_hasRelation 4 = .ok (.iconst 1, 1) := by decide +kernel
theorem dX12_hasRelation_5 : decode cX12_hasRelation 5 = .ok (.isub, 1) := by decide +kernel
theorem dX12_hasRelation_6 : decode cX12_hasRelation 6 = .ok (.istore_n 1, 1) := by decide +kernel
theorem dX12_hasRelation_7 : decode cX12_hasRelation 7 = .ok (.iload_n 1, 1) := by decide +kernel
theorem dX12_hasRelation_8 : decode cX12_hasRelation 8 = .ok (.ifCond .lt 33, 3) := by decide +kernel
theorem dX12_hasRelation_11 : decode cX12_hasRelation 11 = .ok (.aload_n 0, 1) := by decide +kernel
theorem dX12_hasRelation_12 : decode cX12_hasRelation 12 = .ok (.getfield 39, 3) := by decide +kernel
theorem dX12_hasRelation_15 : decode cX12_hasRelation 15 = .ok (.iload_n 1, 1) := by decide +kernel
theorem dX12_hasRelation_16 : decode cX12_hasRelation 16 = .ok (.iaload, 1) := by decide +kernel
theorem dX12_hasRelation_17 : decode cX12_hasRelation 17 = .ok (.bipush 20, 2) := by decide +kernel
theorem dX12_hasRelation_19 : decode cX12_hasRelation 19 = .ok (.if_icmp .eq 22, 3) := by decide +kernel
theorem dX12_hasRelation_22 : decode cX12_hasRelation 22 = .ok (.aload_n 0, 1) := by decide +kernel
theorem dX12_hasRelation_23 : decode cX12_hasRelation 23 = .ok (.getfield 39, 3) := by decide +kernel
theorem dX12_hasRelation_26 : decode cX12_hasRelation 26 = .ok (.iload_n 1, 1) := by decide +kernel
theorem dX12_hasRelation_27 : decode cX12_hasRelation 27 = .ok (.iaload, 1) := by decide +kernel
theorem dX12_hasRelation_28 : decode cX12_hasRelation 28 = .ok (.invokestatic 273, 3) := by decide +kernel
theorem dX12_hasRelation_31 : decode cX12_hasRelation 31 = .ok (.iconst 4, 1) := by decide +kernel
theorem dX12_hasRelation_32 : decode cX12_hasRelation 32 = .ok (.if_icmp .le 9, 3) := by decide +kernel
theorem dX12_hasRelation_35 : decode cX12_hasRelation 35 = .ok (.iinc 1 (-1), 3) := by decide +kernel
theorem dX12_hasRelation_38 : decode cX12_hasRelation 38 = .ok (.goto (-31), 3) := by decide +kernel
theorem dX12_hasRelation_41 : decode cX12_hasRelation 41 = .ok (.iload_n 1, 1) := by decide +kernel
theorem dX12_hasRelation_42 : decode cX12_hasRelation 42 = .ok (.ifCond .lt 31, 3) := by decide +kernel
theorem dX12_hasRelation_45 : decode cX12_hasRelation 45 = .ok (.aload_n 0, 1) := by decide +kernel
theorem dX12_hasRelation_46 : decode cX12_hasRelation 46 = .ok (.getfield 39, 3) := by decide +kernel
theorem dX12_hasRelation_49 : decode cX12_hasRelation 49 = .ok (.iload_n 1, 1) := by decide +kernel
theorem dX12_hasRelation_50 : decode cX12_hasRelation 50 = .ok (.iaload, 1) := by decide +kernel
theorem dX12_hasRelation_51 : decode cX12_hasRelation 51 = .ok (.bipush 20, 2) := by decide +kernel
theorem dX12_hasRelation_53 : decode cX12_hasRelation 53 = .ok (.if_icmp .eq 20, 3) := by decide +kernel
theorem dX12_hasRelation_56 : decode cX12_hasRelation 56 = .ok (.aload_n 0, 1) := by decide +kernel
theorem dX12_hasRelation_57 : decode cX12_hasRelation 57 = .ok (.getfield 39, 3) := by decide +kernel
theorem dX12_hasRelation_60 : decode cX12_hasRelation 60 = .ok (.iload_n 1, 1) := by decide +kernel
theorem dX12_hasRelation_61 : decode cX12_hasRelation 61 = .ok (.iaload, 1) := by decide +kernel
theorem dX12_hasRelation_62 : decode cX12_hasRelation 62 = .ok (.invokestatic 273, 3) := by decide +kernel
theorem dX12_hasRelation_65 : decode cX12_hasRelation 65 = .ok (.iconst 4, 1) := by decide +kernel
theorem dX12_hasRelation_66 : decode cX12_hasRelation 66 = .ok (.if_icmp .ne 7, 3) := by decide +kernel
theorem dX12_hasRelation_69 : decode cX12_hasRelation 69 = .ok (.iconst 1, 1) := by decide +kernel
theorem dX12_hasRelation_70 : decode cX12_hasRelation 70 = .ok (.goto 4, 3) := by decide +kernel
theorem dX12_hasRelation_73 : decode cX12_hasRelation 73 = .ok (.iconst 0, 1) := by decide +kernel
theorem dX12_hasRelation_74 : decode cX12_hasRelation 74 = .ok (.ireturn, 1) := by decide +kernel
theorem dX12_mayNot_0 : decode cX12_mayNot 0 = .ok (.aload_n 0, 1) := by decide +kernel
theorem dX12_mayNot_1 : decode cX12_mayNot 1 = .ok (.getfield 270, 3) := by decide +kernel
theorem dX12_mayNot_4 : decode cX12_mayNot 4 = .ok (.ifCond .eq 37, 3) := by decide +kernel
theorem dX12_mayNot_7 : decode cX12_mayNot 7 = .ok (.aload_n 0, 1) := by decide +kernel
theorem dX12_mayNot_8 : decode cX12_mayNot 8 = .ok (.getfield 39, 3) := by decide +kernel
theorem dX12_mayNot_11 : decode cX12_mayNot 11 = .ok (.aload_n 0, 1) := by decide +kernel
theorem dX12_mayNot_12 : decode cX12_mayNot 12 = .ok (.getfield 270, 3) := by decide +kernel
theorem dX12_mayNot_15 : decode cX12_mayNot 15 = .ok (.iconst 1, 1) := by decide +kernel
theorem dX12_mayNot_16 : decode cX12_mayNot 16 = .ok (.isub, 1) := by decide +kernel
theorem dX12_mayNot_17 : decode cX12_mayNot 17 = .ok (.iaload, 1) := by decide +kernel
theorem dX12_mayNot_18 : decode cX12_mayNot 18 = .ok (.bipush 20, 2) := by decide +kernel
theorem dX12_mayNot_20 : decode cX12_mayNot 20 = .ok (.if_icmp .eq 21, 3) := by decide +kernel
theorem dX12_mayNot_23 : decode cX12_mayNot 23 = .ok (.aload_n 0, 1) := by decide +kernel
theorem dX12_mayNot_24 : decode cX12_mayNot 24 = .ok (.getfield 39, 3) := by decide +kernel
theorem dX12_mayNot_27 : decode cX12_mayNot 27 = .ok (.aload_n 0, 1) := by decide +kernel
theorem dX12_mayNot_28 : decode cX12_mayNot 28 = .ok (.getfield 270, 3) := by decide +kernel
theorem dX12_mayNot_31 : decode cX12_mayNot 31 = .ok (.iconst 1, 1) := by decide +kernel
theorem dX12_mayNot_32 : decode cX12_mayNot 32 = .ok (.isub, 1) := by decide +kernel
theorem dX12_mayNot_33 : decode cX12_mayNot 33 = .ok (.iaload, 1) := by decide +kernel
theorem dX12_mayNot_34 : decode cX12_mayNot 34 = .ok (.invokestatic 273, 3) := by decide +kernel
theorem dX12_mayNot_37 : decode cX12_mayNot 37 = .ok (.iconst 4, 1) := by decide +kernel
theorem dX12_mayNot_38 : decode cX12_mayNot 38 = .ok (.if_icmp .ge 7, 3) := by decide +kernel
theorem dX12_mayNot_41 : decode cX12_mayNot 41 = .ok (.iconst 1, 1) := by decide +kernel
theorem dX12_mayNot_42 : decode cX12_mayNot 42 = .ok (.goto 4, 3) := by decide +kernel
theorem dX12_mayNot_45 : decode cX12_mayNot 45 = .ok (.iconst 0, 1) := by decide +kernel
theorem dX12_mayNot_46 : decode cX12_mayNot 46 = .ok (.ireturn, 1) := by decide +kernel
theorem dX12_asked_0 : decode cX12_asked 0 = .ok (.aload_n 0, 1) := by decide +kernel
theorem dX12_asked_1 : decode cX12_asked 1 = .ok (.getfield 175, 3) := by decide +kernel
theorem dX12_asked_4 : decode cX12_asked 4 = .ok (.iconst 1, 1) := by decide +kernel
theorem dX12_asked_5 : decode cX12_asked 5 = .ok (.if_icmp .eq 5, 3) := by decide +kernel
theorem dX12_asked_8 : decode cX12_asked 8 = .ok (.iconst (-1), 1) := by decide +kernel
theorem dX12_asked_9 : decode cX12_asked 9 = .ok (.ireturn, 1) := by decide +kernel
theorem dX12_asked_10 : decode cX12_asked 10 = .ok (.aload_n 0, 1) := by decide +kernel
theorem dX12_asked_11 : decode cX12_asked 11 = .ok (.getfield 168, 3) := by decide +kernel
theorem dX12_asked_14 : decode cX12_asked 14 = .ok (.ldc2_w 193, 3) := by decide +kernel
theorem dX12_asked_17 : decode cX12_asked 17 = .ok (.lcmp, 1) := by decide +kernel
theorem dX12_asked_18 : decode cX12_asked 18 = .ok (.ifCond .ne 5, 3) := by decide +kernel
theorem dX12_asked_21 : decode cX12_asked 21 = .ok (.iconst 0, 1) := by decide +kernel
theorem dX12_asked_22 : decode cX12_asked 22 = .ok (.ireturn, 1) := by decide +kernel
theorem dX12_asked_23 : decode cX12_asked 23 = .ok (.aload_n 0, 1) := by decide +kernel
theorem dX12_asked_24 : decode cX12_asked 24 = .ok (.getfield 168, 3) := by decide +kernel
theorem dX12_asked_27 : decode cX12_asked 27 = .ok (.ldc2_w 195, 3) := by decide +kernel
theorem dX12_asked_30 : decode cX12_asked 30 = .ok (.lcmp, 1) := by decide +kernel
theorem dX12_asked_31 : decode cX12_asked 31 = .ok (.ifCond .ne 5, 3) := by decide +kernel
theorem dX12_asked_34 : decode cX12_asked 34 = .ok (.iconst 1, 1) := by decide +kernel
theorem dX12_asked_35 : decode cX12_asked 35 = .ok (.ireturn, 1) := by decide +kernel
theorem dX12_asked_36 : decode cX12_asked 36 = .ok (.aload_n 0, 1) := by decide +kernel
theorem dX12_asked_37 : decode cX12_asked 37 = .ok (.getfield 168, 3) := by decide +kernel
theorem dX12_asked_40 : decode cX12_asked 40 = .ok (.ldc2_w 217, 3) := by decide +kernel
theorem dX12_asked_43 : decode cX12_asked 43 = .ok (.lcmp, 1) := by decide +kernel
theorem dX12_asked_44 : decode cX12_asked 44 = .ok (.ifCond .ne 5, 3) := by decide +kernel
theorem dX12_asked_47 : decode cX12_asked 47 = .ok (.iconst 2, 1) := by decide +kernel
theorem dX12_asked_48 : decode cX12_asked 48 = .ok (.ireturn, 1) := by decide +kernel
theorem dX12_asked_49 : decode cX12_asked 49 = .ok (.aload_n 0, 1) := by decide +kernel
theorem dX12_asked_50 : decode cX12_asked 50 = .ok (.getfield 168, 3) := by decide +kernel
theorem dX12_asked_53 : decode cX12_asked 53 = .ok (.ldc2_w 219, 3) := by decide +kernel
theorem dX12_asked_56 : decode cX12_asked 56 = .ok (.lcmp, 1) := by decide +kernel
theorem dX12_asked_57 : decode cX12_asked 57 = .ok (.ifCond .ne 5, 3) := by decide +kernel
theorem dX12_asked_60 : decode cX12_asked 60 = .ok (.iconst 3, 1) := by decide +kernel
theorem dX12_asked_61 : decode cX12_asked 61 = .ok (.ireturn, 1) := by decide +kernel
theorem dX12_asked_62 : decode cX12_asked 62 = .ok (.aload_n 0, 1) := by decide +kernel
theorem dX12_asked_63 : decode cX12_asked 63 = .ok (.getfield 168, 3) := by decide +kernel
theorem dX12_asked_66 : decode cX12_asked 66 = .ok (.ldc2_w 221, 3) := by decide +kernel
theorem dX12_asked_69 : decode cX12_asked 69 = .ok (.lcmp, 1) := by decide +kernel
theorem dX12_asked_70 : decode cX12_asked 70 = .ok (.ifCond .ne 5, 3) := by decide +kernel
theorem dX12_asked_73 : decode cX12_asked 73 = .ok (.iconst 4, 1) := by decide +kernel
theorem dX12_asked_74 : decode cX12_asked 74 = .ok (.ireturn, 1) := by decide +kernel
theorem dX12_asked_75 : decode cX12_asked 75 = .ok (.aload_n 0, 1) := by decide +kernel
theorem dX12_asked_76 : decode cX12_asked 76 = .ok (.getfield 168, 3) := by decide +kernel
theorem dX12_asked_79 : decode cX12_asked 79 = .ok (.ldc2_w 223, 3) := by decide +kernel
theorem dX12_asked_82 : decode cX12_asked 82 = .ok (.lcmp, 1) := by decide +kernel
theorem dX12_asked_83 : decode cX12_asked 83 = .ok (.ifCond .ne 7, 3) := by decide +kernel
theorem dX12_asked_86 : decode cX12_asked 86 = .ok (.iconst 5, 1) := by decide +kernel
theorem dX12_asked_87 : decode cX12_asked 87 = .ok (.goto 4, 3) := by decide +kernel
theorem dX12_asked_90 : decode cX12_asked 90 = .ok (.iconst (-1), 1) := by decide +kernel
theorem dX12_asked_91 : decode cX12_asked 91 = .ok (.ireturn, 1) := by decide +kernel
theorem dX12_isFull_0 : decode cX12_isFull 0 = .ok (.aload_n 0, 1) := by decide +kernel
theorem dX12_isFull_1 : decode cX12_isFull 1 = .ok (.getfield 283, 3) := by decide +kernel
theorem dX12_isFull_4 : decode cX12_isFull 4 = .ok (.bipush 60, 2) := by decide +kernel
theorem dX12_isFull_6 : decode cX12_isFull 6 = .ok (.if_icmp .eq 12, 3) := by decide +kernel
theorem dX12_isFull_9 : decode cX12_isFull 9 = .ok (.aload_n 0, 1) := by decide +kernel
theorem dX12_isFull_10 : decode cX12_isFull 10 = .ok (.getfield 286, 3) := by decide +kernel
theorem dX12_isFull_13 : decode cX12_isFull 13 = .ok (.bipush 30, 2) := by decide +kernel
theorem dX12_isFull_15 : decode cX12_isFull 15 = .ok (.if_icmp .ne 7, 3) := by decide +kernel
theorem dX12_isFull_18 : decode cX12_isFull 18 = .ok (.iconst 1, 1) := by decide +kernel
theorem dX12_isFull_19 : decode cX12_isFull 19 = .ok (.goto 4, 3) := by decide +kernel
theorem dX12_isFull_22 : decode cX12_isFull 22 = .ok (.iconst 0, 1) := by decide +kernel
theorem dX12_isFull_23 : decode cX12_isFull 23 = .ok (.ireturn, 1) := by decide +kernel
theorem dX12_countUnit_0 : decode cX12_countUnit 0 = .ok (.aload_n 0, 1) := by decide +kernel
theorem dX12_countUnit_1 : decode cX12_countUnit 1 = .ok (.dup, 1) := by decide +kernel
theorem dX12_countUnit_2 : decode cX12_countUnit 2 = .ok (.getfield 283, 3) := by decide +kernel
theorem dX12_countUnit_5 : decode cX12_countUnit 5 = .ok (.iconst 1, 1) := by decide +kernel
theorem dX12_countUnit_6 : decode cX12_countUnit 6 = .ok (.iadd, 1) := by decide +kernel
theorem dX12_countUnit_7 : decode cX12_countUnit 7 = .ok (.putfield 283, 3) := by decide +kernel
theorem dX12_countUnit_10 : decode cX12_countUnit 10 = .ok (.aload_n 0, 1) := by decide +kernel
theorem dX12_countUnit_11 : decode cX12_countUnit 11 = .ok (.dup, 1) := by decide +kernel
theorem dX12_countUnit_12 : decode cX12_countUnit 12 = .ok (.getfield 286, 3) := by decide +kernel
theorem dX12_countUnit_15 : decode cX12_countUnit 15 = .ok (.iconst 1, 1) := by decide +kernel
theorem dX12_countUnit_16 : decode cX12_countUnit 16 = .ok (.iadd, 1) := by decide +kernel
theorem dX12_countUnit_17 : decode cX12_countUnit 17 = .ok (.putfield 286, 3) := by decide +kernel
theorem dX12_countUnit_20 : decode cX12_countUnit 20 = .ok (.return_, 1) := by decide +kernel
theorem dX12_openUp_0 : decode cX12_openUp 0 = .ok (.aload_n 0, 1) := by decide +kernel
theorem dX12_openUp_1 : decode cX12_openUp 1 = .ok (.getfield 39, 3) := by decide +kernel
theorem dX12_openUp_4 : decode cX12_openUp 4 = .ok (.aload_n 0, 1) := by decide +kernel
theorem dX12_openUp_5 : decode cX12_openUp 5 = .ok (.getfield 270, 3) := by decide +kernel
theorem dX12_openUp_8 : decode cX12_openUp 8 = .ok (.iload_n 1, 1) := by decide +kernel
theorem dX12_openUp_9 : decode cX12_openUp 9 = .ok (.iastore, 1) := by decide +kernel
theorem dX12_openUp_10 : decode cX12_openUp 10 = .ok (.aload_n 0, 1) := by decide +kernel
theorem dX12_openUp_11 : decode cX12_openUp 11 = .ok (.dup, 1) := by decide +kernel
theorem dX12_openUp_12 : decode cX12_openUp 12 = .ok (.getfield 270, 3) := by decide +kernel
theorem dX12_openUp_15 : decode cX12_openUp 15 = .ok (.iconst 1, 1) := by decide +kernel
theorem dX12_openUp_16 : decode cX12_openUp 16 = .ok (.iadd, 1) := by decide +kernel
theorem dX12_openUp_17 : decode cX12_openUp 17 = .ok (.putfield 270, 3) := by decide +kernel
theorem dX12_openUp_20 : decode cX12_openUp 20 = .ok (.aload_n 0, 1) := by decide +kernel
theorem dX12_openUp_21 : decode cX12_openUp 21 = .ok (.dup, 1) := by decide +kernel
theorem dX12_openUp_22 : decode cX12_openUp 22 = .ok (.getfield 280, 3) := by decide +kernel
theorem dX12_openUp_25 : decode cX12_openUp 25 = .ok (.iconst 1, 1) := by decide +kernel
theorem dX12_openUp_26 : decode cX12_openUp 26 = .ok (.iadd, 1) := by decide +kernel
theorem dX12_openUp_27 : decode cX12_openUp 27 = .ok (.putfield 280, 3) := by decide +kernel
theorem dX12_openUp_30 : decode cX12_openUp 30 = .ok (.aload_n 0, 1) := by decide +kernel
theorem dX12_openUp_31 : decode cX12_openUp 31 = .ok (.getfield 188, 3) := by decide +kernel
theorem dX12_openUp_34 : decode cX12_openUp 34 = .ok (.ifCond .ne 7, 3) := by decide +kernel
theorem dX12_openUp_37 : decode cX12_openUp 37 = .ok (.aload_n 0, 1) := by decide +kernel
theorem dX12_openUp_38 : decode cX12_openUp 38 = .ok (.invokevirtual 242, 3) := by decide +kernel
theorem dX12_openUp_41 : decode cX12_openUp 41 = .ok (.return_, 1) := by decide +kernel
theorem dX12_unit_0 : decode cX12_unit 0 = .ok (.iconst 1, 1) := by decide +kernel
theorem dX12_unit_1 : decode cX12_unit 1 = .ok (.istore_n 1, 1) := by decide +kernel
theorem dX12_unit_2 : decode cX12_unit 2 = .ok (.iload_n 1, 1) := by decide +kernel
theorem dX12_unit_3 : decode cX12_unit 3 = .ok (.ifCond .eq 98, 3) := by decide +kernel
theorem dX12_unit_6 : decode cX12_unit 6 = .ok (.aload_n 0, 1) := by decide +kernel
theorem dX12_unit_7 : decode cX12_unit 7 = .ok (.getfield 188, 3) := by decide +kernel
theorem dX12_unit_10 : decode cX12_unit 10 = .ok (.ifCond .ne 91, 3) := by decide +kernel
theorem dX12_unit_13 : decode cX12_unit 13 = .ok (.aload_n 0, 1) := by decide +kernel
theorem dX12_unit_14 : decode cX12_unit 14 = .ok (.ldc2_w 229, 3) := by decide +kernel
theorem dX12_unit_17 : decode cX12_unit 17 = .ok (.invokevirtual 235, 3) := by decide +kernel
theorem dX12_unit_20 : decode cX12_unit 20 = .ok (.ifCond .eq 33, 3) := by decide +kernel
theorem dX12_unit_23 : decode cX12_unit 23 = .ok (.aload_n 0, 1) := by decide +kernel
theorem dX12_unit_24 : decode cX12_unit 24 = .ok (.invokevirtual 289, 3) := by decide +kernel
theorem dX12_unit_27 : decode cX12_unit 27 = .ok (.ifCond .eq 26, 3) := by decide +kernel
theorem dX12_unit_30 : decode cX12_unit 30 = .ok (.aload_n 0, 1) := by decide +kernel
theorem dX12_unit_31 : decode cX12_unit 31 = .ok (.getfield 280, 3) := by decide +kernel
theorem dX12_unit_34 : decode cX12_unit 34 = .ok (.bipush 6, 2) := by decide +kernel
theorem dX12_unit_36 : decode cX12_unit 36 = .ok (.if_icmp .le 8, 3) := by decide +kernel
theorem dX12_unit_39 : decode cX12_unit 39 = .ok (.aload_n 0, 1) := by decide +kernel
theorem dX12_unit_40 : decode cX12_unit 40 = .ok (.iconst 2, 1) := by decide +kernel
theorem dX12_unit_41 : decode cX12_unit 41 = .ok (.invokevirtual 239, 3) := by decide +kernel
theorem dX12_unit_44 : decode cX12_unit 44 = .ok (.aload_n 0, 1) := by decide +kernel
theorem dX12_unit_45 : decode cX12_unit 45 = .ok (.bipush 21, 2) := by decide +kernel
theorem dX12_unit_47 : decode cX12_unit 47 = .ok (.invokevirtual 292, 3) := by decide +kernel
theorem dX12_unit_50 : decode cX12_unit 50 = .ok (.goto (-48), 3) := by decide +kernel
theorem dX12_unit_53 : decode cX12_unit 53 = .ok (.aload_n 0, 1) := by decide +kernel
theorem dX12_unit_54 : decode cX12_unit 54 = .ok (.getfield 175, 3) := by decide +kernel
theorem dX12_unit_57 : decode cX12_unit 57 = .ok (.bipush 40, 2) := by decide +kernel
theorem dX12_unit_59 : decode cX12_unit 59 = .ok (.if_icmp .ne 37, 3) := by decide +kernel
theorem dX12_unit_62 : decode cX12_unit 62 = .ok (.aload_n 0, 1) := by decide +kernel
theorem dX12_unit_63 : decode cX12_unit 63 = .ok (.invokevirtual 295, 3) := by decide +kernel
theorem dX12_unit_66 : decode cX12_unit 66 = .ok (.ifCond .ne 12, 3) := by decide +kernel
theorem dX12_unit_69 : decode cX12_unit 69 = .ok (.aload_n 0, 1) := by decide +kernel
theorem dX12_unit_70 : decode cX12_unit 70 = .ok (.getfield 280, 3) := by decide +kernel
theorem dX12_unit_73 : decode cX12_unit 73 = .ok (.bipush 6, 2) := by decide +kernel
theorem dX12_unit_75 : decode cX12_unit 75 = .ok (.if_icmp .le 8, 3) := by decide +kernel
theorem dX12_unit_78 : decode cX12_unit 78 = .ok (.aload_n 0, 1) := by decide +kernel
theorem dX12_unit_79 : decode cX12_unit 79 = .ok (.iconst 2, 1) := by decide +kernel
theorem dX12_unit_80 : decode cX12_unit 80 = .ok (.invokevirtual 239, 3) := by decide +kernel
theorem dX12_unit_83 : decode cX12_unit 83 = .ok (.aload_n 0, 1) := by decide +kernel
theorem dX12_unit_84 : decode cX12_unit 84 = .ok (.invokevirtual 298, 3) := by decide +kernel
theorem dX12_unit_87 : decode cX12_unit 87 = .ok (.aload_n 0, 1) := by decide +kernel
theorem dX12_unit_88 : decode cX12_unit 88 = .ok (.bipush 20, 2) := by decide +kernel
theorem dX12_unit_90 : decode cX12_unit 90 = .ok (.invokevirtual 292, 3) := by decide +kernel
theorem dX12_unit_93 : decode cX12_unit 93 = .ok (.goto (-91), 3) := by decide +kernel
theorem dX12_unit_96 : decode cX12_unit 96 = .ok (.iconst 0, 1) := by decide +kernel
theorem dX12_unit_97 : decode cX12_unit 97 = .ok (.istore_n 1, 1) := by decide +kernel
theorem dX12_unit_98 : decode cX12_unit 98 = .ok (.goto (-96), 3) := by decide +kernel
theorem dX12_unit_101 : decode cX12_unit 101 = .ok (.aload_n 0, 1) := by decide +kernel
theorem dX12_unit_102 : decode cX12_unit 102 = .ok (.getfield 188, 3) := by decide +kernel
theorem dX12_unit_105 : decode cX12_unit 105 = .ok (.ifCond .le 4, 3) := by decide +kernel
theorem dX12_unit_108 : decode cX12_unit 108 = .ok (.return_, 1) := by decide +kernel
theorem dX12_unit_109 : decode cX12_unit 109 = .ok (.aload_n 0, 1) := by decide +kernel
theorem dX12_unit_110 : decode cX12_unit 110 = .ok (.invokevirtual 301, 3) := by decide +kernel
theorem dX12_unit_113 : decode cX12_unit 113 = .ok (.istore_n 2, 1) := by decide +kernel
theorem dX12_unit_114 : decode cX12_unit 114 = .ok (.aload_n 0, 1) := by decide +kernel
theorem dX12_unit_115 : decode cX12_unit 115 = .ok (.getfield 175, 3) := by decide +kernel
theorem dX12_unit_118 : decode cX12_unit 118 = .ok (.iconst 2, 1) := by decide +kernel
theorem dX12_unit_119 : decode cX12_unit 119 = .ok (.if_icmp .eq 7, 3) := by decide +kernel
theorem dX12_unit_122 : decode cX12_unit 122 = .ok (.iload_n 2, 1) := by decide +kernel
theorem dX12_unit_123 : decode cX12_unit 123 = .ok (.ifCond .lt 10, 3) := by decide +kernel
theorem dX12_unit_126 : decode cX12_unit 126 = .ok (.aload_n 0, 1) := by decide +kernel
theorem dX12_unit_127 : decode cX12_unit 127 = .ok (.invokevirtual 295, 3) := by decide +kernel
theorem dX12_unit_130 : decode cX12_unit 130 = .ok (.ifCond .eq 8, 3) := by decide +kernel
theorem dX12_unit_133 : decode cX12_unit 133 = .ok (.aload_n 0, 1) := by decide +kernel
theorem dX12_unit_134 : decode cX12_unit 134 = .ok (.iconst 2, 1) := by decide +kernel
theorem dX12_unit_135 : decode cX12_unit 135 = .ok (.invokevirtual 239, 3) := by decide +kernel
theorem dX12_unit_138 : decode cX12_unit 138 = .ok (.aload_n 0, 1) := by decide +kernel
theorem dX12_unit_139 : decode cX12_unit 139 = .ok (.getfield 188, 3) := by decide +kernel
theorem dX12_unit_142 : decode cX12_unit 142 = .ok (.ifCond .le 4, 3) := by decide +kernel
theorem dX12_unit_145 : decode cX12_unit 145 = .ok (.return_, 1) := by decide +kernel
theorem dX12_unit_146 : decode cX12_unit 146 = .ok (.aload_n 0, 1) := by decide +kernel
theorem dX12_unit_147 : decode cX12_unit 147 = .ok (.invokevirtual 298, 3) := by decide +kernel
theorem dX12_unit_150 : decode cX12_unit 150 = .ok (.aload_n 0, 1) := by decide +kernel
theorem dX12_unit_151 : decode cX12_unit 151 = .ok (.iload_n 2, 1) := by decide +kernel
theorem dX12_unit_152 : decode cX12_unit 152 = .ok (.ifCond .ge 7, 3) := by decide +kernel
theorem dX12_unit_155 : decode cX12_unit 155 = .ok (.iconst 0, 1) := by decide +kernel
theorem dX12_unit_156 : decode cX12_unit 156 = .ok (.goto 4, 3) := by decide +kernel
theorem dX12_unit_159 : decode cX12_unit 159 = .ok (.iconst 1, 1) := by decide +kernel
theorem dX12_unit_160 : decode cX12_unit 160 = .ok (.iload_n 2, 1) := by decide +kernel
theorem dX12_unit_161 : decode cX12_unit 161 = .ok (.ifCond .ge 10, 3) := by decide +kernel
theorem dX12_unit_164 : decode cX12_unit 164 = .ok (.aload_n 0, 1) := by decide +kernel
theorem dX12_unit_165 : decode cX12_unit 165 = .ok (.getfield 172, 3) := by decide +kernel
theorem dX12_unit_168 : decode cX12_unit 168 = .ok (.goto 4, 3) := by decide +kernel
theorem dX12_unit_171 : decode cX12_unit 171 = .ok (.iload_n 2, 1) := by decide +kernel
theorem dX12_unit_172 : decode cX12_unit 172 = .ok (.invokevirtual 276, 3) := by decide +kernel
theorem dX12_unit_175 : decode cX12_unit 175 = .ok (.aload_n 0, 1) := by decide +kernel
theorem dX12_unit_176 : decode cX12_unit 176 = .ok (.invokevirtual 242, 3) := by decide +kernel
theorem dX12_unit_179 : decode cX12_unit 179 = .ok (.return_, 1) := by decide +kernel
theorem dX12_sign_0 : decode cX12_sign 0 = .ok (.aload_n 0, 1) := by decide +kernel
theorem dX12_sign_1 : decode cX12_sign 1 = .ok (.ldc2_w 225, 3) := by decide +kernel
theorem dX12_sign_4 : decode cX12_sign 4 = .ok (.invokevirtual 235, 3) := by decide +kernel
theorem dX12_sign_7 : decode cX12_sign 7 = .ok (.ifCond .eq 6, 3) := by decide +kernel
theorem dX12_sign_10 : decode cX12_sign 10 = .ok (.bipush 38, 2) := by decide +kernel
theorem dX12_sign_12 : decode cX12_sign 12 = .ok (.ireturn, 1) := by decide +kernel
theorem dX12_sign_13 : decode cX12_sign 13 = .ok (.aload_n 0, 1) := by decide +kernel
theorem dX12_sign_14 : decode cX12_sign 14 = .ok (.ldc2_w 227, 3) := by decide +kernel
theorem dX12_sign_17 : decode cX12_sign 17 = .ok (.invokevirtual 235, 3) := by decide +kernel
theorem dX12_sign_20 : decode cX12_sign 20 = .ok (.ifCond .eq 6, 3) := by decide +kernel
theorem dX12_sign_23 : decode cX12_sign 23 = .ok (.bipush 124, 2) := by decide +kernel
theorem dX12_sign_25 : decode cX12_sign 25 = .ok (.ireturn, 1) := by decide +kernel
theorem dX12_sign_26 : decode cX12_sign 26 = .ok (.aload_n 0, 1) := by decide +kernel
theorem dX12_sign_27 : decode cX12_sign 27 = .ok (.getfield 175, 3) := by decide +kernel
theorem dX12_sign_30 : decode cX12_sign 30 = .ok (.bipush 60, 2) := by decide +kernel
theorem dX12_sign_32 : decode cX12_sign 32 = .ok (.if_icmp .eq 66, 3) := by decide +kernel
theorem dX12_sign_35 : decode cX12_sign 35 = .ok (.aload_n 0, 1) := by decide +kernel
theorem dX12_sign_36 : decode cX12_sign 36 = .ok (.getfield 175, 3) := by decide +kernel
theorem dX12_sign_39 : decode cX12_sign 39 = .ok (.bipush 62, 2) := by decide +kernel
theorem dX12_sign_41 : decode cX12_sign 41 = .ok (.if_icmp .eq 57, 3) := by decide +kernel
theorem dX12_sign_44 : decode cX12_sign 44 = .ok (.aload_n 0, 1) := by decide +kernel
theorem dX12_sign_45 : decode cX12_sign 45 = .ok (.getfield 175, 3) := by decide +kernel
theorem dX12_sign_48 : decode cX12_sign 48 = .ok (.bipush 61, 2) := by decide +kernel
theorem dX12_sign_50 : decode cX12_sign 50 = .ok (.if_icmp .eq 48, 3) := by decide +kernel
theorem dX12_sign_53 : decode cX12_sign 53 = .ok (.aload_n 0, 1) := by decide +kernel
theorem dX12_sign_54 : decode cX12_sign 54 = .ok (.getfield 175, 3) := by decide +kernel
theorem dX12_sign_57 : decode cX12_sign 57 = .ok (.bipush 43, 2) := by decide +kernel
theorem dX12_sign_59 : decode cX12_sign 59 = .ok (.if_icmp .eq 39, 3) := by decide +kernel
theorem dX12_sign_62 : decode cX12_sign 62 = .ok (.aload_n 0, 1) := by decide +kernel
theorem dX12_sign_63 : decode cX12_sign 63 = .ok (.getfield 175, 3) := by decide +kernel
theorem dX12_sign_66 : decode cX12_sign 66 = .ok (.bipush 45, 2) := by decide +kernel
theorem dX12_sign_68 : decode cX12_sign 68 = .ok (.if_icmp .eq 30, 3) := by decide +kernel
theorem dX12_sign_71 : decode cX12_sign 71 = .ok (.aload_n 0, 1) := by decide +kernel
theorem dX12_sign_72 : decode cX12_sign 72 = .ok (.getfield 175, 3) := by decide +kernel
theorem dX12_sign_75 : decode cX12_sign 75 = .ok (.bipush 42, 2) := by decide +kernel
theorem dX12_sign_77 : decode cX12_sign 77 = .ok (.if_icmp .eq 21, 3) := by decide +kernel
theorem dX12_sign_80 : decode cX12_sign 80 = .ok (.aload_n 0, 1) := by decide +kernel
theorem dX12_sign_81 : decode cX12_sign 81 = .ok (.getfield 175, 3) := by decide +kernel
theorem dX12_sign_84 : decode cX12_sign 84 = .ok (.bipush 47, 2) := by decide +kernel
theorem dX12_sign_86 : decode cX12_sign 86 = .ok (.if_icmp .eq 12, 3) := by decide +kernel
theorem dX12_sign_89 : decode cX12_sign 89 = .ok (.aload_n 0, 1) := by decide +kernel
theorem dX12_sign_90 : decode cX12_sign 90 = .ok (.getfield 175, 3) := by decide +kernel
theorem dX12_sign_93 : decode cX12_sign 93 = .ok (.bipush 37, 2) := by decide +kernel
theorem dX12_sign_95 : decode cX12_sign 95 = .ok (.if_icmp .ne 10, 3) := by decide +kernel
theorem dX12_sign_98 : decode cX12_sign 98 = .ok (.aload_n 0, 1) := by decide +kernel
theorem dX12_sign_99 : decode cX12_sign 99 = .ok (.getfield 175, 3) := by decide +kernel
theorem dX12_sign_102 : decode cX12_sign 102 = .ok (.goto 4, 3) := by decide +kernel
theorem dX12_sign_105 : decode cX12_sign 105 = .ok (.iconst 0, 1) := by decide +kernel
theorem dX12_sign_106 : decode cX12_sign 106 = .ok (.ireturn, 1) := by decide +kernel
theorem dX12_hasBracket_0 : decode cX12_hasBracket 0 = .ok (.iconst 0, 1) := by decide +kernel
theorem dX12_hasBracket_1 : decode cX12_hasBracket 1 = .ok (.istore_n 1, 1) := by decide +kernel
theorem dX12_hasBracket_2 : decode cX12_hasBracket 2 = .ok (.iconst 0, 1) := by decide +kernel
theorem dX12_hasBracket_3 : decode cX12_hasBracket 3 = .ok (.istore_n 2, 1) := by decide +kernel
theorem dX12_hasBracket_4 : decode cX12_hasBracket 4 = .ok (.iload_n 2, 1) := by decide +kernel
theorem dX12_hasBracket_5 : decode cX12_hasBracket 5 = .ok (.aload_n 0, 1) := by decide +kernel
theorem dX12_hasBracket_6 : decode cX12_hasBracket 6 = .ok (.getfield 270, 3) := by decide +kernel
theorem dX12_hasBracket_9 : decode cX12_hasBracket 9 = .ok (.if_icmp .ge 30, 3) := by decide +kernel
theorem dX12_hasBracket_12 : decode cX12_hasBracket 12 = .ok (.iload_n 1, 1) := by decide +kernel
theorem dX12_hasBracket_13 : decode cX12_hasBracket 13 = .ok (.ifCond .ne 14, 3) := by decide +kernel
theorem dX12_hasBracket_16 : decode cX12_hasBracket 16 = .ok (.aload_n 0, 1) := by decide +kernel
theorem dX12_hasBracket_17 : decode cX12_hasBracket 17 = .ok (.getfield 39, 3) := by decide +kernel
theorem dX12_hasBracket_20 : decode cX12_hasBracket 20 = .ok (.iload_n 2, 1) := by decide +kernel
theorem dX12_hasBracket_21 : decode cX12_hasBracket 21 = .ok (.iaload, 1) := by decide +kernel
theorem dX12_hasBracket_22 : decode cX12_hasBracket 22 = .ok (.bipush 20, 2) := by decide +kernel
theorem dX12_hasBracket_24 : decode cX12_hasBracket 24 = .ok (.if_icmp .ne 7, 3) := by decide +kernel
theorem dX12_hasBracket_27 : decode cX12_hasBracket 27 = .ok (.iconst 1, 1) := by decide +kernel
theorem dX12_hasBracket_28 : decode cX12_hasBracket 28 = .ok (.goto 4, 3) := by decide +kernel
theorem dX12_hasBracket_31 : decode cX12_hasBracket 31 = .ok (.iconst 0, 1) := by decide +kernel
theorem dX12_hasBracket_32 : decode cX12_hasBracket 32 = .ok (.istore_n 1, 1) := by decide +kernel
theorem dX12_hasBracket_33 : decode cX12_hasBracket 33 = .ok (.iinc 2 1, 3) := by decide +kernel
theorem dX12_hasBracket_36 : decode cX12_hasBracket 36 = .ok (.goto (-32), 3) := by decide +kernel
theorem dX12_hasBracket_39 : decode cX12_hasBracket 39 = .ok (.iload_n 1, 1) := by decide +kernel
theorem dX12_hasBracket_40 : decode cX12_hasBracket 40 = .ok (.ireturn, 1) := by decide +kernel
theorem dX12_formula_0 : decode cX12_formula 0 = .ok (.aload_n 0, 1) := by decide +kernel
theorem dX12_formula_1 : decode cX12_formula 1 = .ok (.invokevirtual 242, 3) := by decide +kernel
theorem dX12_formula_4 : decode cX12_formula 4 = .ok (.aload_n 0, 1) := by decide +kernel
theorem dX12_formula_5 : decode cX12_formula 5 = .ok (.iload_n 1, 1) := by decide +kernel
theorem dX12_formula_6 : decode cX12_formula 6 = .ok (.putfield 267, 3) := by decide +kernel
theorem dX12_formula_9 : decode cX12_formula 9 = .ok (.aload_n 0, 1) := by decide +kernel
theorem dX12_formula_10 : decode cX12_formula 10 = .ok (.getfield 45, 3) := by decide +kernel
theorem dX12_formula_13 : decode cX12_formula 13 = .ok (.aload_n 0, 1) := by decide +kernel
theorem dX12_formula_14 : decode cX12_formula 14 = .ok (.getfield 267, 3) := by decide +kernel
theorem dX12_formula_17 : decode cX12_formula 17 = .ok (.iconst 1, 1) := by decide +kernel
theorem dX12_formula_18 : decode cX12_formula 18 = .ok (.bastore, 1) := by decide +kernel
theorem dX12_formula_19 : decode cX12_formula 19 = .ok (.aload_n 0, 1) := by decide +kernel
theorem dX12_formula_20 : decode cX12_formula 20 = .ok (.getfield 27, 3) := by decide +kernel
theorem dX12_formula_23 : decode cX12_formula 23 = .ok (.aload_n 0, 1) := by decide +kernel
theorem dX12_formula_24 : decode cX12_formula 24 = .ok (.getfield 267, 3) := by decide +kernel
theorem dX12_formula_27 : decode cX12_formula 27 = .ok (.iconst 0, 1) := by decide +kernel
theorem dX12_formula_28 : decode cX12_formula 28 = .ok (.iastore, 1) := by decide +kernel
theorem dX12_formula_29 : decode cX12_formula 29 = .ok (.aload_n 0, 1) := by decide +kernel
theorem dX12_formula_30 : decode cX12_formula 30 = .ok (.iconst 0, 1) := by decide +kernel
theorem dX12_formula_31 : decode cX12_formula 31 = .ok (.putfield 270, 3) := by decide +kernel
theorem dX12_formula_34 : decode cX12_formula 34 = .ok (.aload_n 0, 1) := by decide +kernel
theorem dX12_formula_35 : decode cX12_formula 35 = .ok (.iconst 0, 1) := by decide +kernel
theorem dX12_formula_36 : decode cX12_formula 36 = .ok (.putfield 280, 3) := by decide +kernel
theorem dX12_formula_39 : decode cX12_formula 39 = .ok (.aload_n 0, 1) := by decide +kernel
theorem dX12_formula_40 : decode cX12_formula 40 = .ok (.iconst 0, 1) := by decide +kernel
theorem dX12_formula_41 : decode cX12_formula 41 = .ok (.putfield 286, 3) := by decide +kernel
theorem dX12_formula_44 : decode cX12_formula 44 = .ok (.aload_n 0, 1) := by decide +kernel
theorem dX12_formula_45 : decode cX12_formula 45 = .ok (.invokevirtual 304, 3) := by decide +kernel
theorem dX12_formula_48 : decode cX12_formula 48 = .ok (.iconst 1, 1) := by decide +kernel
theorem dX12_formula_49 : decode cX12_formula 49 = .ok (.istore_n 2, 1) := by decide +kernel
theorem dX12_formula_50 : decode cX12_formula 50 = .ok (.iload_n 2, 1) := by decide +kernel
theorem dX12_formula_51 : decode cX12_formula 51 = .ok (.ifCond .eq 126, 3) := by decide +kernel
theorem dX12_formula_54 : decode cX12_formula 54 = .ok (.aload_n 0, 1) := by decide +kernel
theorem dX12_formula_55 : decode cX12_formula 55 = .ok (.getfield 188, 3) := by decide +kernel
theorem dX12_formula_58 : decode cX12_formula 58 = .ok (.ifCond .ne 119, 3) := by decide +kernel
theorem dX12_formula_61 : decode cX12_formula 61 = .ok (.aload_n 0, 1) := by decide +kernel
theorem dX12_formula_62 : decode cX12_formula 62 = .ok (.invokevirtual 307, 3) := by decide +kernel
theorem dX12_formula_65 : decode cX12_formula 65 = .ok (.istore_n 3, 1) := by decide +kernel
theorem dX12_formula_66 : decode cX12_formula 66 = .ok (.aload_n 0, 1) := by decide +kernel
theorem dX12_formula_67 : decode cX12_formula 67 = .ok (.getfield 175, 3) := by decide +kernel
theorem dX12_formula_70 : decode cX12_formula 70 = .ok (.bipush 41, 2) := by decide +kernel
theorem dX12_formula_72 : decode cX12_formula 72 = .ok (.if_icmp .ne 42, 3) := by decide +kernel
theorem dX12_formula_75 : decode cX12_formula 75 = .ok (.aload_n 0, 1) := by decide +kernel
theorem dX12_formula_76 : decode cX12_formula 76 = .ok (.invokevirtual 310, 3) := by decide +kernel
theorem dX12_formula_79 : decode cX12_formula 79 = .ok (.ifCond .eq 35, 3) := by decide +kernel
theorem dX12_formula_82 : decode cX12_formula 82 = .ok (.aload_n 0, 1) := by decide +kernel
theorem dX12_formula_83 : decode cX12_formula 83 = .ok (.iconst 0, 1) := by decide +kernel
theorem dX12_formula_84 : decode cX12_formula 84 = .ok (.invokevirtual 313, 3) := by decide +kernel
theorem dX12_formula_87 : decode cX12_formula 87 = .ok (.aload_n 0, 1) := by decide +kernel
theorem dX12_formula_88 : decode cX12_formula 88 = .ok (.dup, 1) := by decide +kernel
theorem dX12_formula_89 : decode cX12_formula 89 = .ok (.getfield 270, 3) := by decide +kernel
theorem dX12_formula_92 : decode cX12_formula 92 = .ok (.iconst 1, 1) := by decide +kernel
theorem dX12_formula_93 : decode cX12_formula 93 = .ok (.isub, 1) := by decide +kernel
theorem dX12_formula_94 : decode cX12_formula 94 = .ok (.putfield 270, 3) := by decide +kernel
theorem dX12_formula_97 : decode cX12_formula 97 = .ok (.aload_n 0, 1) := by decide +kernel
theorem dX12_formula_98 : decode cX12_formula 98 = .ok (.dup, 1) := by decide +kernel
theorem dX12_formula_99 : decode cX12_formula 99 = .ok (.getfield 280, 3) := by decide +kernel
theorem dX12_formula_102 : decode cX12_formula 102 = .ok (.iconst 1, 1) := by decide +kernel
theorem dX12_formula_103 : decode cX12_formula 103 = .ok (.isub, 1) := by decide +kernel
theorem dX12_formula_104 : decode cX12_formula 104 = .ok (.putfield 280, 3) := by decide +kernel
theorem dX12_formula_107 : decode cX12_formula 107 = .ok (.aload_n 0, 1) := by decide +kernel
theorem dX12_formula_108 : decode cX12_formula 108 = .ok (.invokevirtual 242, 3) := by decide +kernel
theorem dX12_formula_111 : decode cX12_formula 111 = .ok (.goto 63, 3) := by decide +kernel
theorem dX12_formula_114 : decode cX12_formula 114 = .ok (.iload_n 3, 1) := by decide +kernel
theorem dX12_formula_115 : decode cX12_formula 115 = .ok (.ifCond .eq 57, 3) := by decide +kernel
theorem dX12_formula_118 : decode cX12_formula 118 = .ok (.iload_n 3, 1) := by decide +kernel
theorem dX12_formula_119 : decode cX12_formula 119 = .ok (.invokestatic 273, 3) := by decide +kernel
theorem dX12_formula_122 : decode cX12_formula 122 = .ok (.iconst 4, 1) := by decide +kernel
theorem dX12_formula_123 : decode cX12_formula 123 = .ok (.if_icmp .ne 10, 3) := by decide +kernel
theorem dX12_formula_126 : decode cX12_formula 126 = .ok (.aload_n 0, 1) := by decide +kernel
theorem dX12_formula_127 : decode cX12_formula 127 = .ok (.invokevirtual 316, 3) := by decide +kernel
theorem dX12_formula_130 : decode cX12_formula 130 = .ok (.ifCond .ne 42, 3) := by decide +kernel
theorem dX12_formula_133 : decode cX12_formula 133 = .ok (.aload_n 0, 1) := by decide +kernel
theorem dX12_formula_134 : decode cX12_formula 134 = .ok (.iload_n 3, 1) := by decide +kernel
theorem dX12_formula_135 : decode cX12_formula 135 = .ok (.invokestatic 273, 3) := by decide +kernel
theorem dX12_formula_138 : decode cX12_formula 138 = .ok (.invokevirtual 313, 3) := by decide +kernel
theorem dX12_formula_141 : decode cX12_formula 141 = .ok (.aload_n 0, 1) := by decide +kernel
theorem dX12_formula_142 : decode cX12_formula 142 = .ok (.getfield 39, 3) := by decide +kernel
theorem dX12_formula_145 : decode cX12_formula 145 = .ok (.aload_n 0, 1) := by decide +kernel
theorem dX12_formula_146 : decode cX12_formula 146 = .ok (.getfield 270, 3) := by decide +kernel
theorem dX12_formula_149 : decode cX12_formula 149 = .ok (.iload_n 3, 1) := by decide +kernel
theorem dX12_formula_150 : decode cX12_formula 150 = .ok (.iastore, 1) := by decide +kernel
theorem dX12_formula_151 : decode cX12_formula 151 = .ok (.aload_n 0, 1) := by decide +kernel
theorem dX12_formula_152 : decode cX12_formula 152 = .ok (.dup, 1) := by decide +kernel
theorem dX12_formula_153 : decode cX12_formula 153 = .ok (.getfield 270, 3) := by decide +kernel
theorem dX12_formula_156 : decode cX12_formula 156 = .ok (.iconst 1, 1) := by decide +kernel
theorem dX12_formula_157 : decode cX12_formula 157 = .ok (.iadd, 1) := by decide +kernel
theorem dX12_formula_158 : decode cX12_formula 158 = .ok (.putfield 270, 3) := by decide +kernel
theorem dX12_formula_161 : decode cX12_formula 161 = .ok (.aload_n 0, 1) := by decide +kernel
theorem dX12_formula_162 : decode cX12_formula 162 = .ok (.invokevirtual 242, 3) := by decide +kernel
theorem dX12_formula_165 : decode cX12_formula 165 = .ok (.aload_n 0, 1) := by decide +kernel
theorem dX12_formula_166 : decode cX12_formula 166 = .ok (.invokevirtual 304, 3) := by decide +kernel
theorem dX12_formula_169 : decode cX12_formula 169 = .ok (.goto 5, 3) := by decide +kernel
theorem dX12_formula_172 : decode cX12_formula 172 = .ok (.iconst 0, 1) := by decide +kernel
theorem dX12_formula_173 : decode cX12_formula 173 = .ok (.istore_n 2, 1) := by decide +kernel
theorem dX12_formula_174 : decode cX12_formula 174 = .ok (.goto (-124), 3) := by decide +kernel
theorem dX12_formula_177 : decode cX12_formula 177 = .ok (.aload_n 0, 1) := by decide +kernel
theorem dX12_formula_178 : decode cX12_formula 178 = .ok (.getfield 188, 3) := by decide +kernel
theorem dX12_formula_181 : decode cX12_formula 181 = .ok (.ifCond .ne 15, 3) := by decide +kernel
theorem dX12_formula_184 : decode cX12_formula 184 = .ok (.aload_n 0, 1) := by decide +kernel
theorem dX12_formula_185 : decode cX12_formula 185 = .ok (.invokevirtual 310, 3) := by decide +kernel
theorem dX12_formula_188 : decode cX12_formula 188 = .ok (.ifCond .eq 8, 3) := by decide +kernel
theorem dX12_formula_191 : decode cX12_formula 191 = .ok (.aload_n 0, 1) := by decide +kernel
theorem dX12_formula_192 : decode cX12_formula 192 = .ok (.iconst 2, 1) := by decide +kernel
theorem dX12_formula_193 : decode cX12_formula 193 = .ok (.invokevirtual 239, 3) := by decide +kernel
theorem dX12_formula_196 : decode cX12_formula 196 = .ok (.aload_n 0, 1) := by decide +kernel
theorem dX12_formula_197 : decode cX12_formula 197 = .ok (.getfield 188, 3) := by decide +kernel
theorem dX12_formula_200 : decode cX12_formula 200 = .ok (.ifCond .ne 8, 3) := by decide +kernel
theorem dX12_formula_203 : decode cX12_formula 203 = .ok (.aload_n 0, 1) := by decide +kernel
theorem dX12_formula_204 : decode cX12_formula 204 = .ok (.iconst 0, 1) := by decide +kernel
theorem dX12_formula_205 : decode cX12_formula 205 = .ok (.invokevirtual 313, 3) := by decide +kernel
theorem dX12_formula_208 : decode cX12_formula 208 = .ok (.return_, 1) := by decide +kernel
theorem dX12_truth_0 : decode cX12_truth 0 = .ok (.iload_n 0, 1) := by decide +kernel
theorem dX12_truth_1 : decode cX12_truth 1 = .ok (.ifCond .eq 7, 3) := by decide +kernel
theorem dX12_truth_4 : decode cX12_truth 4 = .ok (.iconst 1, 1) := by decide +kernel
theorem dX12_truth_5 : decode cX12_truth 5 = .ok (.goto 4, 3) := by decide +kernel
theorem dX12_truth_8 : decode cX12_truth 8 = .ok (.iconst 0, 1) := by decide +kernel
theorem dX12_truth_9 : decode cX12_truth 9 = .ok (.ireturn, 1) := by decide +kernel
theorem dX12_done_0 : decode cX12_done 0 = .ok (.iload_n 0, 1) := by decide +kernel
theorem dX12_done_1 : decode cX12_done 1 = .ok (.tableswitch 214 37 62 #[143, 197, 214, 214, 214, 127, 119, 214, 123, 214, 131, 214, 214, 214, 214, 214, 214, 214, 214, 214, 214, 214, 214, 155, 183, 169], 119) := by decide +kernel
theorem dX12_done_120 : decode cX12_done 120 = .ok (.iload_n 1, 1) := by decide +kernel
theorem dX12_done_121 : decode cX12_done 121 = .ok (.iload_n 2, 1) := by decide +kernel
theorem dX12_done_122 : decode cX12_done 122 = .ok (.iadd, 1) := by decide +kernel
theorem dX12_done_123 : decode cX12_done 123 = .ok (.ireturn, 1) := by decide +kernel
theorem dX12_done_124 : decode cX12_done 124 = .ok (.iload_n 1, 1) := by decide +kernel
theorem dX12_done_125 : decode cX12_done 125 = .ok (.iload_n 2, 1) := by decide +kernel
theorem dX12_done_126 : decode cX12_done 126 = .ok (.isub, 1) := by decide +kernel
theorem dX12_done_127 : decode cX12_done 127 = .ok (.ireturn, 1) := by decide +kernel
theorem dX12_done_128 : decode cX12_done 128 = .ok (.iload_n 1, 1) := by decide +kernel
theorem dX12_done_129 : decode cX12_done 129 = .ok (.iload_n 2, 1) := by decide +kernel
theorem dX12_done_130 : decode cX12_done 130 = .ok (.imul, 1) := by decide +kernel
theorem dX12_done_131 : decode cX12_done 131 = .ok (.ireturn, 1) := by decide +kernel
theorem dX12_done_132 : decode cX12_done 132 = .ok (.iload_n 2, 1) := by decide +kernel
theorem dX12_done_133 : decode cX12_done 133 = .ok (.ifCond .ne 7, 3) := by decide +kernel
theorem dX12_done_136 : decode cX12_done 136 = .ok (.iconst 0, 1) := by decide +kernel
theorem dX12_done_137 : decode cX12_done 137 = .ok (.goto 6, 3) := by decide +kernel
theorem dX12_done_140 : decode cX12_done 140 = .ok (.iload_n 1, 1) := by decide +kernel
theorem dX12_done_141 : decode cX12_done 141 = .ok (.iload_n 2, 1) := by decide +kernel
theorem dX12_done_142 : decode cX12_done 142 = .ok (.idiv, 1) := by decide +kernel
theorem dX12_done_143 : decode cX12_done 143 = .ok (.ireturn, 1) := by decide +kernel
theorem dX12_done_144 : decode cX12_done 144 = .ok (.iload_n 2, 1) := by decide +kernel
theorem dX12_done_145 : decode cX12_done 145 = .ok (.ifCond .ne 7, 3) := by decide +kernel
theorem dX12_done_148 : decode cX12_done 148 = .ok (.iconst 0, 1) := by decide +kernel
theorem dX12_done_149 : decode cX12_done 149 = .ok (.goto 6, 3) := by decide +kernel
theorem dX12_done_152 : decode cX12_done 152 = .ok (.iload_n 1, 1) := by decide +kernel
theorem dX12_done_153 : decode cX12_done 153 = .ok (.iload_n 2, 1) := by decide +kernel
theorem dX12_done_154 : decode cX12_done 154 = .ok (.irem, 1) := by decide +kernel
theorem dX12_done_155 : decode cX12_done 155 = .ok (.ireturn, 1) := by decide +kernel
theorem dX12_done_156 : decode cX12_done 156 = .ok (.iload_n 1, 1) := by decide +kernel
theorem dX12_done_157 : decode cX12_done 157 = .ok (.iload_n 2, 1) := by decide +kernel
theorem dX12_done_158 : decode cX12_done 158 = .ok (.if_icmp .ge 7, 3) := by decide +kernel
theorem dX12_done_161 : decode cX12_done 161 = .ok (.iconst 1, 1) := by decide +kernel
theorem dX12_done_162 : decode cX12_done 162 = .ok (.goto 4, 3) := by decide +kernel
theorem dX12_done_165 : decode cX12_done 165 = .ok (.iconst 0, 1) := by decide +kernel
theorem dX12_done_166 : decode cX12_done 166 = .ok (.invokestatic 319, 3) := by decide +kernel
theorem dX12_done_169 : decode cX12_done 169 = .ok (.ireturn, 1) := by decide +kernel
theorem dX12_done_170 : decode cX12_done 170 = .ok (.iload_n 1, 1) := by decide +kernel
theorem dX12_done_171 : decode cX12_done 171 = .ok (.iload_n 2, 1) := by decide +kernel
theorem dX12_done_172 : decode cX12_done 172 = .ok (.if_icmp .le 7, 3) := by decide +kernel
theorem dX12_done_175 : decode cX12_done 175 = .ok (.iconst 1, 1) := by decide +kernel
theorem dX12_done_176 : decode cX12_done 176 = .ok (.goto 4, 3) := by decide +kernel
theorem dX12_done_179 : decode cX12_done 179 = .ok (.iconst 0, 1) := by decide +kernel
theorem dX12_done_180 : decode cX12_done 180 = .ok (.invokestatic 319, 3) := by decide +kernel
theorem dX12_done_183 : decode cX12_done 183 = .ok (.ireturn, 1) := by decide +kernel
theorem dX12_done_184 : decode cX12_done 184 = .ok (.iload_n 1, 1) := by decide +kernel
theorem dX12_done_185 : decode cX12_done 185 = .ok (.iload_n 2, 1) := by decide +kernel
theorem dX12_done_186 : decode cX12_done 186 = .ok (.if_icmp .ne 7, 3) := by decide +kernel
theorem dX12_done_189 : decode cX12_done 189 = .ok (.iconst 1, 1) := by decide +kernel
theorem dX12_done_190 : decode cX12_done 190 = .ok (.goto 4, 3) := by decide +kernel
theorem dX12_done_193 : decode cX12_done 193 = .ok (.iconst 0, 1) := by decide +kernel
theorem dX12_done_194 : decode cX12_done 194 = .ok (.invokestatic 319, 3) := by decide +kernel
theorem dX12_done_197 : decode cX12_done 197 = .ok (.ireturn, 1) := by decide +kernel
theorem dX12_done_198 : decode cX12_done 198 = .ok (.iload_n 1, 1) := by decide +kernel
theorem dX12_done_199 : decode cX12_done 199 = .ok (.ifCond .eq 11, 3) := by decide +kernel
theorem dX12_done_202 : decode cX12_done 202 = .ok (.iload_n 2, 1) := by decide +kernel
theorem dX12_done_203 : decode cX12_done 203 = .ok (.ifCond .eq 7, 3) := by decide +kernel
theorem dX12_done_206 : decode cX12_done 206 = .ok (.iconst 1, 1) := by decide +kernel
theorem dX12_done_207 : decode cX12_done 207 = .ok (.goto 4, 3) := by decide +kernel
theorem dX12_done_210 : decode cX12_done 210 = .ok (.iconst 0, 1) := by decide +kernel
theorem dX12_done_211 : decode cX12_done 211 = .ok (.invokestatic 319, 3) := by decide +kernel
theorem dX12_done_214 : decode cX12_done 214 = .ok (.ireturn, 1) := by decide +kernel
theorem dX12_done_215 : decode cX12_done 215 = .ok (.iload_n 1, 1) := by decide +kernel
theorem dX12_done_216 : decode cX12_done 216 = .ok (.ifCond .ne 7, 3) := by decide +kernel
theorem dX12_done_219 : decode cX12_done 219 = .ok (.iload_n 2, 1) := by decide +kernel
theorem dX12_done_220 : decode cX12_done 220 = .ok (.ifCond .eq 7, 3) := by decide +kernel
theorem dX12_done_223 : decode cX12_done 223 = .ok (.iconst 1, 1) := by decide +kernel
theorem dX12_done_224 : decode cX12_done 224 = .ok (.goto 4, 3) := by decide +kernel
theorem dX12_done_227 : decode cX12_done 227 = .ok (.iconst 0, 1) := by decide +kernel
theorem dX12_done_228 : decode cX12_done 228 = .ok (.invokestatic 319, 3) := by decide +kernel
theorem dX12_done_231 : decode cX12_done 231 = .ok (.ireturn, 1) := by decide +kernel
theorem dX12_heardOnes_0 : decode cX12_heardOnes 0 = .ok (.iconst 0, 1) := by decide +kernel
theorem dX12_heardOnes_1 : decode cX12_heardOnes 1 = .ok (.istore_n 1, 1) := by decide +kernel
theorem dX12_heardOnes_2 : decode cX12_heardOnes 2 = .ok (.iconst 0, 1) := by decide +kernel
theorem dX12_heardOnes_3 : decode cX12_heardOnes 3 = .ok (.istore_n 2, 1) := by decide +kernel
theorem dX12_heardOnes_4 : decode cX12_heardOnes 4 = .ok (.iload_n 2, 1) := by decide +kernel
theorem dX12_heardOnes_5 : decode cX12_heardOnes 5 = .ok (.aload_n 0, 1) := by decide +kernel
theorem dX12_heardOnes_6 : decode cX12_heardOnes 6 = .ok (.getfield 323, 3) := by decide +kernel
theorem dX12_heardOnes_9 : decode cX12_heardOnes 9 = .ok (.if_icmp .ge 40, 3) := by decide +kernel
theorem dX12_heardOnes_12 : decode cX12_heardOnes 12 = .ok (.iload_n 1, 1) := by decide +kernel
theorem dX12_heardOnes_13 : decode cX12_heardOnes 13 = .ok (.aload_n 0, 1) := by decide +kernel
theorem dX12_heardOnes_14 : decode cX12_heardOnes 14 = .ok (.getfield 100, 3) := by decide +kernel
theorem dX12_heardOnes_17 : decode cX12_heardOnes 17 = .ok (.iload_n 2, 1) := by decide +kernel
theorem dX12_heardOnes_18 : decode cX12_heardOnes 18 = .ok (.iaload, 1) := by decide +kernel
theorem dX12_heardOnes_19 : decode cX12_heardOnes 19 = .ok (.iconst 1, 1) := by decide +kernel
theorem dX12_heardOnes_20 : decode cX12_heardOnes 20 = .ok (.if_icmp .eq 13, 3) := by decide +kernel
theorem dX12_heardOnes_23 : decode cX12_heardOnes 23 = .ok (.aload_n 0, 1) := by decide +kernel
theorem dX12_heardOnes_24 : decode cX12_heardOnes 24 = .ok (.getfield 100, 3) := by decide +kernel
theorem dX12_heardOnes_27 : decode cX12_heardOnes 27 = .ok (.iload_n 2, 1) := by decide +kernel
theorem dX12_heardOnes_28 : decode cX12_heardOnes 28 = .ok (.iaload, 1) := by decide +kernel
theorem dX12_heardOnes_29 : decode cX12_heardOnes 29 = .ok (.iconst 2, 1) := by decide +kernel
theorem dX12_heardOnes_30 : decode cX12_heardOnes 30 = .ok (.if_icmp .ne 7, 3) := by decide +kernel
theorem dX12_heardOnes_33 : decode cX12_heardOnes 33 = .ok (.iconst 1, 1) := by decide +kernel
theorem dX12_heardOnes_34 : decode cX12_heardOnes 34 = .ok (.goto 4, 3) := by decide +kernel
theorem dX12_heardOnes_37 : decode cX12_heardOnes 37 = .ok (.iconst 0, 1) := by decide +kernel
theorem dX12_heardOnes_38 : decode cX12_heardOnes 38 = .ok (.invokestatic 319, 3) := by decide +kernel
theorem dX12_heardOnes_41 : decode cX12_heardOnes 41 = .ok (.iadd, 1) := by decide +kernel
theorem dX12_heardOnes_42 : decode cX12_heardOnes 42 = .ok (.istore_n 1, 1) := by decide +kernel
theorem dX12_heardOnes_43 : decode cX12_heardOnes 43 = .ok (.iinc 2 1, 3) := by decide +kernel
theorem dX12_heardOnes_46 : decode cX12_heardOnes 46 = .ok (.goto (-42), 3) := by decide +kernel
theorem dX12_heardOnes_49 : decode cX12_heardOnes 49 = .ok (.iload_n 1, 1) := by decide +kernel
theorem dX12_heardOnes_50 : decode cX12_heardOnes 50 = .ok (.ireturn, 1) := by decide +kernel
theorem dX12_worked_0 : decode cX12_worked 0 = .ok (.aload_n 0, 1) := by decide +kernel
theorem dX12_worked_1 : decode cX12_worked 1 = .ok (.getfield 49, 3) := by decide +kernel
theorem dX12_worked_4 : decode cX12_worked 4 = .ok (.iconst 0, 1) := by decide +kernel
theorem dX12_worked_5 : decode cX12_worked 5 = .ok (.iload_n 3, 1) := by decide +kernel
theorem dX12_worked_6 : decode cX12_worked 6 = .ok (.iastore, 1) := by decide +kernel
theorem dX12_worked_7 : decode cX12_worked 7 = .ok (.aload_n 0, 1) := by decide +kernel
theorem dX12_worked_8 : decode cX12_worked 8 = .ok (.getfield 49, 3) := by decide +kernel
theorem dX12_worked_11 : decode cX12_worked 11 = .ok (.iconst 1, 1) := by decide +kernel
theorem dX12_worked_12 : decode cX12_worked 12 = .ok (.aload_n 0, 1) := by decide +kernel
theorem dX12_worked_13 : decode cX12_worked 13 = .ok (.getfield 76, 3) := by decide +kernel
theorem dX12_worked_16 : decode cX12_worked 16 = .ok (.iload_n 2, 1) := by decide +kernel
theorem dX12_worked_17 : decode cX12_worked 17 = .ok (.iaload, 1) := by decide +kernel
theorem dX12_worked_18 : decode cX12_worked 18 = .ok (.iastore, 1) := by decide +kernel
theorem dX12_worked_19 : decode cX12_worked 19 = .ok (.aload_n 0, 1) := by decide +kernel
theorem dX12_worked_20 : decode cX12_worked 20 = .ok (.getfield 49, 3) := by decide +kernel
theorem dX12_worked_23 : decode cX12_worked 23 = .ok (.iconst 2, 1) := by decide +kernel
theorem dX12_worked_24 : decode cX12_worked 24 = .ok (.aload_n 0, 1) := by decide +kernel
theorem dX12_worked_25 : decode cX12_worked 25 = .ok (.getfield 100, 3) := by decide +kernel
theorem dX12_worked_28 : decode cX12_worked 28 = .ok (.bipush 21, 2) := by decide +kernel
theorem dX12_worked_30 : decode cX12_worked 30 = .ok (.iaload, 1) := by decide +kernel
theorem dX12_worked_31 : decode cX12_worked 31 = .ok (.aload_n 0, 1) := by decide +kernel
theorem dX12_worked_32 : decode cX12_worked 32 = .ok (.getfield 100, 3) := by decide +kernel
theorem dX12_worked_35 : decode cX12_worked 35 = .ok (.bipush 7, 2) := by decide +kernel
theorem dX12_worked_37 : decode cX12_worked 37 = .ok (.iload_n 2, 1) := by decide +kernel
theorem dX12_worked_38 : decode cX12_worked 38 = .ok (.iadd, 1) := by decide +kernel
theorem dX12_worked_39 : decode cX12_worked 39 = .ok (.iaload, 1) := by decide +kernel
theorem dX12_worked_40 : decode cX12_worked 40 = .ok (.isub, 1) := by decide +kernel
theorem dX12_worked_41 : decode cX12_worked 41 = .ok (.iastore, 1) := by decide +kernel
theorem dX12_worked_42 : decode cX12_worked 42 = .ok (.aload_n 0, 1) := by decide +kernel
theorem dX12_worked_43 : decode cX12_worked 43 = .ok (.getfield 49, 3) := by decide +kernel
theorem dX12_worked_46 : decode cX12_worked 46 = .ok (.iconst 3, 1) := by decide +kernel
theorem dX12_worked_47 : decode cX12_worked 47 = .ok (.aload_n 0, 1) := by decide +kernel
theorem dX12_worked_48 : decode cX12_worked 48 = .ok (.getfield 100, 3) := by decide +kernel
theorem dX12_worked_51 : decode cX12_worked 51 = .ok (.bipush 14, 2) := by decide +kernel
theorem dX12_worked_53 : decode cX12_worked 53 = .ok (.iload_n 2, 1) := by decide +kernel
theorem dX12_worked_54 : decode cX12_worked 54 = .ok (.iadd, 1) := by decide +kernel
theorem dX12_worked_55 : decode cX12_worked 55 = .ok (.iaload, 1) := by decide +kernel
theorem dX12_worked_56 : decode cX12_worked 56 = .ok (.iastore, 1) := by decide +kernel
theorem dX12_worked_57 : decode cX12_worked 57 = .ok (.aload_n 0, 1) := by decide +kernel
theorem dX12_worked_58 : decode cX12_worked 58 = .ok (.getfield 49, 3) := by decide +kernel
theorem dX12_worked_61 : decode cX12_worked 61 = .ok (.iconst 4, 1) := by decide +kernel
theorem dX12_worked_62 : decode cX12_worked 62 = .ok (.aload_n 0, 1) := by decide +kernel
theorem dX12_worked_63 : decode cX12_worked 63 = .ok (.invokevirtual 326, 3) := by decide +kernel
theorem dX12_worked_66 : decode cX12_worked 66 = .ok (.iastore, 1) := by decide +kernel
theorem dX12_worked_67 : decode cX12_worked 67 = .ok (.aload_n 0, 1) := by decide +kernel
theorem dX12_worked_68 : decode cX12_worked 68 = .ok (.getfield 49, 3) := by decide +kernel
theorem dX12_worked_71 : decode cX12_worked 71 = .ok (.iconst 5, 1) := by decide +kernel
theorem dX12_worked_72 : decode cX12_worked 72 = .ok (.aload_n 0, 1) := by decide +kernel
theorem dX12_worked_73 : decode cX12_worked 73 = .ok (.getfield 100, 3) := by decide +kernel
theorem dX12_worked_76 : decode cX12_worked 76 = .ok (.bipush 21, 2) := by decide +kernel
theorem dX12_worked_78 : decode cX12_worked 78 = .ok (.iaload, 1) := by decide +kernel
theorem dX12_worked_79 : decode cX12_worked 79 = .ok (.iastore, 1) := by decide +kernel
theorem dX12_worked_80 : decode cX12_worked 80 = .ok (.iconst 0, 1) := by decide +kernel
theorem dX12_worked_81 : decode cX12_worked 81 = .ok (.istore 5, 2) := by decide +kernel
theorem dX12_worked_83 : decode cX12_worked 83 = .ok (.aload_n 0, 1) := by decide +kernel
theorem dX12_worked_84 : decode cX12_worked 84 = .ok (.getfield 42, 3) := by decide +kernel
theorem dX12_worked_87 : decode cX12_worked 87 = .ok (.iconst 0, 1) := by decide +kernel
theorem dX12_worked_88 : decode cX12_worked 88 = .ok (.iload 4, 2) := by decide +kernel
theorem dX12_worked_90 : decode cX12_worked 90 = .ok (.iastore, 1) := by decide +kernel
theorem dX12_worked_91 : decode cX12_worked 91 = .ok (.sipush 320, 3) := by decide +kernel
theorem dX12_worked_94 : decode cX12_worked 94 = .ok (.iload_n 1, 1) := by decide +kernel
theorem dX12_worked_95 : decode cX12_worked 95 = .ok (.imul, 1) := by decide +kernel
theorem dX12_worked_96 : decode cX12_worked 96 = .ok (.istore 6, 2) := by decide +kernel
theorem dX12_worked_98 : decode cX12_worked 98 = .ok (.iload 6, 2) := by decide +kernel
theorem dX12_worked_100 : decode cX12_worked 100 = .ok (.sipush 320, 3) := by decide +kernel
theorem dX12_worked_103 : decode cX12_worked 103 = .ok (.iload_n 1, 1) := by decide +kernel
theorem dX12_worked_104 : decode cX12_worked 104 = .ok (.imul, 1) := by decide +kernel
theorem dX12_worked_105 : decode cX12_worked 105 = .ok (.aload_n 0, 1) := by decide +kernel
theorem dX12_worked_106 : decode cX12_worked 106 = .ok (.getfield 36, 3) := by decide +kernel
theorem dX12_worked_109 : decode cX12_worked 109 = .ok (.iload_n 1, 1) := by decide +kernel
theorem dX12_worked_110 : decode cX12_worked 110 = .ok (.iaload, 1) := by decide +kernel
theorem dX12_worked_111 : decode cX12_worked 111 = .ok (.iadd, 1) := by decide +kernel
theorem dX12_worked_112 : decode cX12_worked 112 = .ok (.if_icmp .ge 156, 3) := by decide +kernel
theorem dX12_worked_115 : decode cX12_worked 115 = .ok (.aload_n 0, 1) := by decide +kernel
theorem dX12_worked_116 : decode cX12_worked 116 = .ok (.getfield 30, 3) := by decide +kernel
theorem dX12_worked_119 : decode cX12_worked 119 = .ok (.iload 6, 2) := by decide +kernel
theorem dX12_worked_121 : decode cX12_worked 121 = .ok (.iaload, 1) := by decide +kernel
theorem dX12_worked_122 : decode cX12_worked 122 = .ok (.ifCond .eq 14, 3) := by decide +kernel
theorem dX12_worked_125 : decode cX12_worked 125 = .ok (.aload_n 0, 1) := by decide +kernel
theorem dX12_worked_126 : decode cX12_worked 126 = .ok (.getfield 30, 3) := by decide +kernel
theorem dX12_worked_129 : decode cX12_worked 129 = .ok (.iload 6, 2) := by decide +kernel
theorem dX12_worked_131 : decode cX12_worked 131 = .ok (.iaload, 1) := by decide +kernel
theorem dX12_worked_132 : decode cX12_worked 132 = .ok (.iconst 1, 1) := by decide +kernel
theorem dX12_worked_133 : decode cX12_worked 133 = .ok (.if_icmp .ne 48, 3) := by decide +kernel
theorem dX12_worked_136 : decode cX12_worked 136 = .ok (.aload_n 0, 1) := by decide +kernel
theorem dX12_worked_137 : decode cX12_worked 137 = .ok (.getfield 42, 3) := by decide +kernel
theorem dX12_worked_140 : decode cX12_worked 140 = .ok (.iload 5, 2) := by decide +kernel
theorem dX12_worked_142 : decode cX12_worked 142 = .ok (.aload_n 0, 1) := by decide +kernel
theorem dX12_worked_143 : decode cX12_worked 143 = .ok (.getfield 30, 3) := by decide +kernel
theorem dX12_worked_146 : decode cX12_worked 146 = .ok (.iload 6, 2) := by decide +kernel
theorem dX12_worked_148 : decode cX12_worked 148 = .ok (.iaload, 1) := by decide +kernel
theorem dX12_worked_149 : decode cX12_worked 149 = .ok (.ifCond .ne 13, 3) := by decide +kernel
theorem dX12_worked_152 : decode cX12_worked 152 = .ok (.aload_n 0, 1) := by decide +kernel
theorem dX12_worked_153 : decode cX12_worked 153 = .ok (.getfield 33, 3) := by decide +kernel
theorem dX12_worked_156 : decode cX12_worked 156 = .ok (.iload 6, 2) := by decide +kernel
theorem dX12_worked_158 : decode cX12_worked 158 = .ok (.iaload, 1) := by decide +kernel
theorem dX12_worked_159 : decode cX12_worked 159 = .ok (.goto 15, 3) := by decide +kernel
theorem dX12_worked_162 : decode cX12_worked 162 = .ok (.aload_n 0, 1) := by decide +kernel
theorem dX12_worked_163 : decode cX12_worked 163 = .ok (.getfield 49, 3) := by decide +kernel
theorem dX12_worked_166 : decode cX12_worked 166 = .ok (.aload_n 0, 1) := by decide +kernel
theorem dX12_worked_167 : decode cX12_worked 167 = .ok (.getfield 33, 3) := by decide +kernel
theorem dX12_worked_170 : decode cX12_worked 170 = .ok (.iload 6, 2) := by decide +kernel
theorem dX12_worked_172 : decode cX12_worked 172 = .ok (.iaload, 1) := by decide +kernel
theorem dX12_worked_173 : decode cX12_worked 173 = .ok (.iaload, 1) := by decide +kernel
theorem dX12_worked_174 : decode cX12_worked 174 = .ok (.iastore, 1) := by decide +kernel
theorem dX12_worked_175 : decode cX12_worked 175 = .ok (.iinc 5 1, 3) := by decide +kernel
theorem dX12_worked_178 : decode cX12_worked 178 = .ok (.goto 84, 3) := by decide +kernel
theorem dX12_worked_181 : decode cX12_worked 181 = .ok (.aload_n 0, 1) := by decide +kernel
theorem dX12_worked_182 : decode cX12_worked 182 = .ok (.getfield 30, 3) := by decide +kernel
theorem dX12_worked_185 : decode cX12_worked 185 = .ok (.iload 6, 2) := by decide +kernel
theorem dX12_worked_187 : decode cX12_worked 187 = .ok (.iaload, 1) := by decide +kernel
theorem dX12_worked_188 : decode cX12_worked 188 = .ok (.iconst 2, 1) := by decide +kernel
theorem dX12_worked_189 : decode cX12_worked 189 = .ok (.if_icmp .ne 35, 3) := by decide +kernel
theorem dX12_worked_192 : decode cX12_worked 192 = .ok (.aload_n 0, 1) := by decide +kernel
theorem dX12_worked_193 : decode cX12_worked 193 = .ok (.getfield 42, 3) := by decide +kernel
theorem dX12_worked_196 : decode cX12_worked 196 = .ok (.iload 5, 2) := by decide +kernel
theorem dX12_worked_198 : decode cX12_worked 198 = .ok (.iconst 1, 1) := by decide +kernel
theorem dX12_worked_199 : decode cX12_worked 199 = .ok (.isub, 1) := by decide +kernel
theorem dX12_worked_200 : decode cX12_worked 200 = .ok (.aload_n 0, 1) := by decide +kernel
theorem dX12_worked_201 : decode cX12_worked 201 = .ok (.getfield 42, 3) := by decide +kernel
theorem dX12_worked_204 : decode cX12_worked 204 = .ok (.iload 5, 2) := by decide +kernel
theorem dX12_worked_206 : decode cX12_worked 206 = .ok (.iconst 1, 1) := by decide +kernel
theorem dX12_worked_207 : decode cX12_worked 207 = .ok (.isub, 1) := by decide +kernel
theorem dX12_worked_208 : decode cX12_worked 208 = .ok (.iaload, 1) := by decide +kernel
theorem dX12_worked_209 : decode cX12_worked 209 = .ok (.ifCond .ne 7, 3) := by decide +kernel
theorem dX12_worked_212 : decode cX12_worked 212 = .ok (.iconst 1, 1) := by decide +kernel
theorem dX12_worked_213 : decode cX12_worked 213 = .ok (.goto 4, 3) := by decide +kernel
theorem dX12_worked_216 : decode cX12_worked 216 = .ok (.iconst 0, 1) := by decide +kernel
theorem dX12_worked_217 : decode cX12_worked 217 = .ok (.invokestatic 319, 3) := by decide +kernel
theorem dX12_worked_220 : decode cX12_worked 220 = .ok (.iastore, 1) := by decide +kernel
theorem dX12_worked_221 : decode cX12_worked 221 = .ok (.goto 41, 3) := by decide +kernel
theorem dX12_worked_224 : decode cX12_worked 224 = .ok (.iinc 5 (-1), 3) := by decide +kernel
theorem dX12_worked_227 : decode cX12_worked 227 = .ok (.aload_n 0, 1) := by decide +kernel
theorem dX12_worked_228 : decode cX12_worked 228 = .ok (.getfield 42, 3) := by decide +kernel
theorem dX12_worked_231 : decode cX12_worked 231 = .ok (.iload 5, 2) := by decide +kernel
theorem dX12_worked_233 : decode cX12_worked 233 = .ok (.iconst 1, 1) := by decide +kernel
theorem dX12_worked_234 : decode cX12_worked 234 = .ok (.isub, 1) := by decide +kernel
theorem dX12_worked_235 : decode cX12_worked 235 = .ok (.aload_n 0, 1) := by decide +kernel
theorem dX12_worked_236 : decode cX12_worked 236 = .ok (.getfield 33, 3) := by decide +kernel
theorem dX12_worked_239 : decode cX12_worked 239 = .ok (.iload 6, 2) := by decide +kernel
theorem dX12_worked_241 : decode cX12_worked 241 = .ok (.iaload, 1) := by decide +kernel
theorem dX12_worked_242 : decode cX12_worked 242 = .ok (.aload_n 0, 1) := by decide +kernel
theorem dX12_worked_243 : decode cX12_worked 243 = .ok (.getfield 42, 3) := by decide +kernel
theorem dX12_worked_246 : decode cX12_worked 246 = .ok (.iload 5, 2) := by decide +kernel
theorem dX12_worked_248 : decode cX12_worked 248 = .ok (.iconst 1, 1) := by decide +kernel
theorem dX12_worked_249 : decode cX12_worked 249 = .ok (.isub, 1) := by decide +kernel
theorem dX12_worked_250 : decode cX12_worked 250 = .ok (.iaload, 1) := by decide +kernel
theorem dX12_worked_251 : decode cX12_worked 251 = .ok (.aload_n 0, 1) := by decide +kernel
theorem dX12_worked_252 : decode cX12_worked 252 = .ok (.getfield 42, 3) := by decide +kernel
theorem dX12_worked_255 : decode cX12_worked 255 = .ok (.iload 5, 2) := by decide +kernel
theorem dX12_worked_257 : decode cX12_worked 257 = .ok (.iaload, 1) := by decide +kernel
theorem dX12_worked_258 : decode cX12_worked 258 = .ok (.invokestatic 329, 3) := by decide +kernel
theorem dX12_worked_261 : decode cX12_worked 261 = .ok (.iastore, 1) := by decide +kernel
theorem dX12_worked_262 : decode cX12_worked 262 = .ok (.iinc 6 1, 3) := by decide +kernel
theorem dX12_worked_265 : decode cX12_worked 265 = .ok (.goto (-167), 3) := by decide +kernel
theorem dX12_worked_268 : decode cX12_worked 268 = .ok (.aload_n 0, 1) := by decide +kernel
theorem dX12_worked_269 : decode cX12_worked 269 = .ok (.getfield 42, 3) := by decide +kernel
theorem dX12_worked_272 : decode cX12_worked 272 = .ok (.iconst 0, 1) := by decide +kernel
theorem dX12_worked_273 : decode cX12_worked 273 = .ok (.iaload, 1) := by decide +kernel
theorem dX12_worked_274 : decode cX12_worked 274 = .ok (.ireturn, 1) := by decide +kernel
theorem dX12_readObjector_0 : decode cX12_readObjector 0 = .ok (.aload_n 0, 1) := by decide +kernel
theorem dX12_readObjector_1 : decode cX12_readObjector 1 = .ok (.invokevirtual 242, 3) := by decide +kernel
theorem dX12_readObjector_4 : decode cX12_readObjector 4 = .ok (.aload_n 0, 1) := by decide +kernel
theorem dX12_readObjector_5 : decode cX12_readObjector 5 = .ok (.invokevirtual 260, 3) := by decide +kernel
theorem dX12_readObjector_8 : decode cX12_readObjector 8 = .ok (.ifCond .ne 11, 3) := by decide +kernel
theorem dX12_readObjector_11 : decode cX12_readObjector 11 = .ok (.aload_n 0, 1) := by decide +kernel
theorem dX12_readObjector_12 : decode cX12_readObjector 12 = .ok (.iconst 2, 1) := by decide +kernel
theorem dX12_readObjector_13 : decode cX12_readObjector 13 = .ok (.invokevirtual 239, 3) := by decide +kernel
theorem dX12_readObjector_16 : decode cX12_readObjector 16 = .ok (.goto 15, 3) := by decide +kernel
theorem dX12_readObjector_19 : decode cX12_readObjector 19 = .ok (.aload_n 0, 1) := by decide +kernel
theorem dX12_readObjector_20 : decode cX12_readObjector 20 = .ok (.invokevirtual 263, 3) := by decide +kernel
theorem dX12_readObjector_23 : decode cX12_readObjector 23 = .ok (.ifCond .lt 8, 3) := by decide +kernel
theorem dX12_readObjector_26 : decode cX12_readObjector 26 = .ok (.aload_n 0, 1) := by decide +kernel
theorem dX12_readObjector_27 : decode cX12_readObjector 27 = .ok (.iconst 3, 1) := by decide +kernel
theorem dX12_readObjector_28 : decode cX12_readObjector 28 = .ok (.invokevirtual 239, 3) := by decide +kernel
theorem dX12_readObjector_31 : decode cX12_readObjector 31 = .ok (.aload_n 0, 1) := by decide +kernel
theorem dX12_readObjector_32 : decode cX12_readObjector 32 = .ok (.getfield 188, 3) := by decide +kernel
theorem dX12_readObjector_35 : decode cX12_readObjector 35 = .ok (.ifCond .le 4, 3) := by decide +kernel
theorem dX12_readObjector_38 : decode cX12_readObjector 38 = .ok (.return_, 1) := by decide +kernel
theorem dX12_readObjector_39 : decode cX12_readObjector 39 = .ok (.aload_n 0, 1) := by decide +kernel
theorem dX12_readObjector_40 : decode cX12_readObjector 40 = .ok (.getfield 257, 3) := by decide +kernel
theorem dX12_readObjector_43 : decode cX12_readObjector 43 = .ok (.istore_n 1, 1) := by decide +kernel
theorem dX12_readObjector_44 : decode cX12_readObjector 44 = .ok (.aload_n 0, 1) := by decide +kernel
theorem dX12_readObjector_45 : decode cX12_readObjector 45 = .ok (.getfield 17, 3) := by decide +kernel
theorem dX12_readObjector_48 : decode cX12_readObjector 48 = .ok (.iload_n 1, 1) := by decide +kernel
theorem dX12_readObjector_49 : decode cX12_readObjector 49 = .ok (.aload_n 0, 1) := by decide +kernel
theorem dX12_readObjector_50 : decode cX12_readObjector 50 = .ok (.getfield 168, 3) := by decide +kernel
theorem dX12_readObjector_53 : decode cX12_readObjector 53 = .ok (.lastore, 1) := by decide +kernel
theorem dX12_readObjector_54 : decode cX12_readObjector 54 = .ok (.aload_n 0, 1) := by decide +kernel
theorem dX12_readObjector_55 : decode cX12_readObjector 55 = .ok (.invokevirtual 242, 3) := by decide +kernel
theorem dX12_readObjector_58 : decode cX12_readObjector 58 = .ok (.aload_n 0, 1) := by decide +kernel
theorem dX12_readObjector_59 : decode cX12_readObjector 59 = .ok (.getfield 52, 3) := by decide +kernel
theorem dX12_readObjector_62 : decode cX12_readObjector 62 = .ok (.iload_n 1, 1) := by decide +kernel
theorem dX12_readObjector_63 : decode cX12_readObjector 63 = .ok (.aload_n 0, 1) := by decide +kernel
theorem dX12_readObjector_64 : decode cX12_readObjector 64 = .ok (.ldc2_w 193, 3) := by decide +kernel
theorem dX12_readObjector_67 : decode cX12_readObjector 67 = .ok (.iconst 0, 1) := by decide +kernel
theorem dX12_readObjector_68 : decode cX12_readObjector 68 = .ok (.bipush 99, 2) := by decide +kernel
theorem dX12_readObjector_70 : decode cX12_readObjector 70 = .ok (.invokevirtual 253, 3) := by decide +kernel
theorem dX12_readObjector_73 : decode cX12_readObjector 73 = .ok (.iastore, 1) := by decide +kernel
theorem dX12_readObjector_74 : decode cX12_readObjector 74 = .ok (.aload_n 0, 1) := by decide +kernel
theorem dX12_readObjector_75 : decode cX12_readObjector 75 = .ok (.getfield 55, 3) := by decide +kernel
theorem dX12_readObjector_78 : decode cX12_readObjector 78 = .ok (.iload_n 1, 1) := by decide +kernel
theorem dX12_readObjector_79 : decode cX12_readObjector 79 = .ok (.aload_n 0, 1) := by decide +kernel
theorem dX12_readObjector_80 : decode cX12_readObjector 80 = .ok (.ldc2_w 195, 3) := by decide +kernel
theorem dX12_readObjector_83 : decode cX12_readObjector 83 = .ok (.iconst 1, 1) := by decide +kernel
theorem dX12_readObjector_84 : decode cX12_readObjector 84 = .ok (.bipush 60, 2) := by decide +kernel
theorem dX12_readObjector_86 : decode cX12_readObjector 86 = .ok (.invokevirtual 253, 3) := by decide +kernel
theorem dX12_readObjector_89 : decode cX12_readObjector 89 = .ok (.iastore, 1) := by decide +kernel
theorem dX12_readObjector_90 : decode cX12_readObjector 90 = .ok (.aload_n 0, 1) := by decide +kernel
theorem dX12_readObjector_91 : decode cX12_readObjector 91 = .ok (.getfield 58, 3) := by decide +kernel
theorem dX12_readObjector_94 : decode cX12_readObjector 94 = .ok (.iload_n 1, 1) := by decide +kernel
theorem dX12_readObjector_95 : decode cX12_readObjector 95 = .ok (.aload_n 0, 1) := by decide +kernel
theorem dX12_readObjector_96 : decode cX12_readObjector 96 = .ok (.ldc2_w 197, 3) := by decide +kernel
theorem dX12_readObjector_99 : decode cX12_readObjector 99 = .ok (.sipush 999, 3) := by decide +kernel
theorem dX12_readObjector_102 : decode cX12_readObjector 102 = .ok (.sipush 999, 3) := by decide +kernel
theorem dX12_readObjector_105 : decode cX12_readObjector 105 = .ok (.invokevirtual 333, 3) := by decide +kernel
theorem dX12_readObjector_108 : decode cX12_readObjector 108 = .ok (.iastore, 1) := by decide +kernel
theorem dX12_readObjector_109 : decode cX12_readObjector 109 = .ok (.aload_n 0, 1) := by decide +kernel
theorem dX12_readObjector_110 : decode cX12_readObjector 110 = .ok (.getfield 61, 3) := by decide +kernel
theorem dX12_readObjector_113 : decode cX12_readObjector 113 = .ok (.iload_n 1, 1) := by decide +kernel
theorem dX12_readObjector_114 : decode cX12_readObjector 114 = .ok (.aload_n 0, 1) := by decide +kernel
theorem dX12_readObjector_115 : decode cX12_readObjector 115 = .ok (.ldc2_w 199, 3) := by decide +kernel
theorem dX12_readObjector_118 : decode cX12_readObjector 118 = .ok (.bipush 99, 2) := by decide +kernel
theorem dX12_readObjector_120 : decode cX12_readObjector 120 = .ok (.iconst 0, 1) := by decide +kernel
theorem dX12_readObjector_121 : decode cX12_readObjector 121 = .ok (.invokevirtual 333, 3) := by decide +kernel
theorem dX12_readObjector_124 : decode cX12_readObjector 124 = .ok (.iastore, 1) := by decide +kernel
theorem dX12_readObjector_125 : decode cX12_readObjector 125 = .ok (.aload_n 0, 1) := by decide +kernel
theorem dX12_readObjector_126 : decode cX12_readObjector 126 = .ok (.dup, 1) := by decide +kernel
theorem dX12_readObjector_127 : decode cX12_readObjector 127 = .ok (.getfield 336, 3) := by decide +kernel
theorem dX12_readObjector_130 : decode cX12_readObjector 130 = .ok (.aload_n 0, 1) := by decide +kernel
theorem dX12_readObjector_131 : decode cX12_readObjector 131 = .ok (.ldc2_w 201, 3) := by decide +kernel
theorem dX12_readObjector_134 : decode cX12_readObjector 134 = .ok (.invokevirtual 339, 3) := by decide +kernel
theorem dX12_readObjector_137 : decode cX12_readObjector 137 = .ok (.invokestatic 319, 3) := by decide +kernel
theorem dX12_readObjector_140 : decode cX12_readObjector 140 = .ok (.iload_n 1, 1) := by decide +kernel
theorem dX12_readObjector_141 : decode cX12_readObjector 141 = .ok (.ishl, 1) := by decide +kernel
theorem dX12_readObjector_142 : decode cX12_readObjector 142 = .ok (.ior, 1) := by decide +kernel
theorem dX12_readObjector_143 : decode cX12_readObjector 143 = .ok (.putfield 336, 3) := by decide +kernel
theorem dX12_readObjector_146 : decode cX12_readObjector 146 = .ok (.aload_n 0, 1) := by decide +kernel
theorem dX12_readObjector_147 : decode cX12_readObjector 147 = .ok (.getfield 64, 3) := by decide +kernel
theorem dX12_readObjector_150 : decode cX12_readObjector 150 = .ok (.iload_n 1, 1) := by decide +kernel
theorem dX12_readObjector_151 : decode cX12_readObjector 151 = .ok (.iconst 0, 1) := by decide +kernel
theorem dX12_readObjector_152 : decode cX12_readObjector 152 = .ok (.iastore, 1) := by decide +kernel
theorem dX12_readObjector_153 : decode cX12_readObjector 153 = .ok (.aload_n 0, 1) := by decide +kernel
theorem dX12_readObjector_154 : decode cX12_readObjector 154 = .ok (.getfield 67, 3) := by decide +kernel
theorem dX12_readObjector_157 : decode cX12_readObjector 157 = .ok (.iload_n 1, 1) := by decide +kernel
theorem dX12_readObjector_158 : decode cX12_readObjector 158 = .ok (.iconst 0, 1) := by decide +kernel
theorem dX12_readObjector_159 : decode cX12_readObjector 159 = .ok (.iastore, 1) := by decide +kernel
theorem dX12_readObjector_160 : decode cX12_readObjector 160 = .ok (.iconst 0, 1) := by decide +kernel
theorem dX12_readObjector_161 : decode cX12_readObjector 161 = .ok (.istore_n 2, 1) := by decide +kernel
theorem dX12_readObjector_162 : decode cX12_readObjector 162 = .ok (.iload_n 2, 1) := by decide +kernel
theorem dX12_readObjector_163 : decode cX12_readObjector 163 = .ok (.bipush 7, 2) := by decide +kernel
theorem dX12_readObjector_165 : decode cX12_readObjector 165 = .ok (.if_icmp .ge 33, 3) := by decide +kernel
theorem dX12_readObjector_168 : decode cX12_readObjector 168 = .ok (.aload_n 0, 1) := by decide +kernel
theorem dX12_readObjector_169 : decode cX12_readObjector 169 = .ok (.getfield 70, 3) := by decide +kernel
theorem dX12_readObjector_172 : decode cX12_readObjector 172 = .ok (.bipush 7, 2) := by decide +kernel
theorem dX12_readObjector_174 : decode cX12_readObjector 174 = .ok (.iload_n 1, 1) := by decide +kernel
theorem dX12_readObjector_175 : decode cX12_readObjector 175 = .ok (.imul, 1) := by decide +kernel
theorem dX12_readObjector_176 : decode cX12_readObjector 176 = .ok (.iload_n 2, 1) := by decide +kernel
theorem dX12_readObjector_177 : decode cX12_readObjector 177 = .ok (.iadd, 1) := by decide +kernel
theorem dX12_readObjector_178 : decode cX12_readObjector 178 = .ok (.iconst 0, 1) := by decide +kernel
theorem dX12_readObjector_179 : decode cX12_readObjector 179 = .ok (.iastore, 1) := by decide +kernel
theorem dX12_readObjector_180 : decode cX12_readObjector 180 = .ok (.aload_n 0, 1) := by decide +kernel
theorem dX12_readObjector_181 : decode cX12_readObjector 181 = .ok (.getfield 70, 3) := by decide +kernel
theorem dX12_readObjector_184 : decode cX12_readObjector 184 = .ok (.bipush 7, 2) := by decide +kernel
theorem dX12_readObjector_186 : decode cX12_readObjector 186 = .ok (.iload_n 2, 1) := by decide +kernel
theorem dX12_readObjector_187 : decode cX12_readObjector 187 = .ok (.imul, 1) := by decide +kernel
theorem dX12_readObjector_188 : decode cX12_readObjector 188 = .ok (.iload_n 1, 1) := by decide +kernel
theorem dX12_readObjector_189 : decode cX12_readObjector 189 = .ok (.iadd, 1) := by decide +kernel
theorem dX12_readObjector_190 : decode cX12_readObjector 190 = .ok (.iconst 0, 1) := by decide +kernel
theorem dX12_readObjector_191 : decode cX12_readObjector 191 = .ok (.iastore, 1) := by decide +kernel
theorem dX12_readObjector_192 : decode cX12_readObjector 192 = .ok (.iinc 2 1, 3) := by decide +kernel
theorem dX12_readObjector_195 : decode cX12_readObjector 195 = .ok (.goto (-33), 3) := by decide +kernel
theorem dX12_readObjector_198 : decode cX12_readObjector 198 = .ok (.aload_n 0, 1) := by decide +kernel
theorem dX12_readObjector_199 : decode cX12_readObjector 199 = .ok (.getfield 188, 3) := by decide +kernel
theorem dX12_readObjector_202 : decode cX12_readObjector 202 = .ok (.ifCond .ne 13, 3) := by decide +kernel
theorem dX12_readObjector_205 : decode cX12_readObjector 205 = .ok (.aload_n 0, 1) := by decide +kernel
theorem dX12_readObjector_206 : decode cX12_readObjector 206 = .ok (.dup, 1) := by decide +kernel
theorem dX12_readObjector_207 : decode cX12_readObjector 207 = .ok (.getfield 257, 3) := by decide +kernel
theorem dX12_readObjector_210 : decode cX12_readObjector 210 = .ok (.iconst 1, 1) := by decide +kernel
theorem dX12_readObjector_211 : decode cX12_readObjector 211 = .ok (.iadd, 1) := by decide +kernel
theorem dX12_readObjector_212 : decode cX12_readObjector 212 = .ok (.putfield 257, 3) := by decide +kernel
theorem dX12_readObjector_215 : decode cX12_readObjector 215 = .ok (.return_, 1) := by decide +kernel
theorem dX12_readFirst_0 : decode cX12_readFirst 0 = .ok (.aload_n 0, 1) := by decide +kernel
theorem dX12_readFirst_1 : decode cX12_readFirst 1 = .ok (.invokevirtual 242, 3) := by decide +kernel
theorem dX12_readFirst_4 : decode cX12_readFirst 4 = .ok (.aload_n 0, 1) := by decide +kernel
theorem dX12_readFirst_5 : decode cX12_readFirst 5 = .ok (.invokevirtual 342, 3) := by decide +kernel
theorem dX12_readFirst_8 : decode cX12_readFirst 8 = .ok (.istore_n 1, 1) := by decide +kernel
theorem dX12_readFirst_9 : decode cX12_readFirst 9 = .ok (.aload_n 0, 1) := by decide +kernel
theorem dX12_readFirst_10 : decode cX12_readFirst 10 = .ok (.getfield 188, 3) := by decide +kernel
theorem dX12_readFirst_13 : decode cX12_readFirst 13 = .ok (.ifCond .ne 7, 3) := by decide +kernel
theorem dX12_readFirst_16 : decode cX12_readFirst 16 = .ok (.aload_n 0, 1) := by decide +kernel
theorem dX12_readFirst_17 : decode cX12_readFirst 17 = .ok (.invokevirtual 242, 3) := by decide +kernel
theorem dX12_readFirst_20 : decode cX12_readFirst 20 = .ok (.iload_n 1, 1) := by decide +kernel
theorem dX12_readFirst_21 : decode cX12_readFirst 21 = .ok (.ireturn, 1) := by decide +kernel
theorem dX12_readSecond_0 : decode cX12_readSecond 0 = .ok (.aload_n 0, 1) := by decide +kernel
theorem dX12_readSecond_1 : decode cX12_readSecond 1 = .ok (.invokevirtual 342, 3) := by decide +kernel
theorem dX12_readSecond_4 : decode cX12_readSecond 4 = .ok (.istore_n 3, 1) := by decide +kernel
theorem dX12_readSecond_5 : decode cX12_readSecond 5 = .ok (.aload_n 0, 1) := by decide +kernel
theorem dX12_readSecond_6 : decode cX12_readSecond 6 = .ok (.getfield 188, 3) := by decide +kernel
theorem dX12_readSecond_9 : decode cX12_readSecond 9 = .ok (.ifCond .ne 22, 3) := by decide +kernel
theorem dX12_readSecond_12 : decode cX12_readSecond 12 = .ok (.iload_n 1, 1) := by decide +kernel
theorem dX12_readSecond_13 : decode cX12_readSecond 13 = .ok (.iload_n 3, 1) := by decide +kernel
theorem dX12_readSecond_14 : decode cX12_readSecond 14 = .ok (.if_icmp .eq 12, 3) := by decide +kernel
theorem dX12_readSecond_17 : decode cX12_readSecond 17 = .ok (.iload_n 2, 1) := by decide +kernel
theorem dX12_readSecond_18 : decode cX12_readSecond 18 = .ok (.iload_n 3, 1) := by decide +kernel
theorem dX12_readSecond_19 : decode cX12_readSecond 19 = .ok (.ishr, 1) := by decide +kernel
theorem dX12_readSecond_20 : decode cX12_readSecond 20 = .ok (.iconst 1, 1) := by decide +kernel
theorem dX12_readSecond_21 : decode cX12_readSecond 21 = .ok (.iand, 1) := by decide +kernel
theorem dX12_readSecond_22 : decode cX12_readSecond 22 = .ok (.iconst 1, 1) := by decide +kernel
theorem dX12_readSecond_23 : decode cX12_readSecond 23 = .ok (.if_icmp .ne 8, 3) := by decide +kernel
theorem dX12_readSecond_26 : decode cX12_readSecond 26 = .ok (.aload_n 0, 1) := by decide +kernel
theorem dX12_readSecond_27 : decode cX12_readSecond 27 = .ok (.iconst 3, 1) := by decide +kernel
theorem dX12_readSecond_28 : decode cX12_readSecond 28 = .ok (.invokevirtual 239, 3) := by decide +kernel
theorem dX12_readSecond_31 : decode cX12_readSecond 31 = .ok (.aload_n 0, 1) := by decide +kernel
theorem dX12_readSecond_32 : decode cX12_readSecond 32 = .ok (.getfield 188, 3) := by decide +kernel
theorem dX12_readSecond_35 : decode cX12_readSecond 35 = .ok (.ifCond .ne 7, 3) := by decide +kernel
theorem dX12_readSecond_38 : decode cX12_readSecond 38 = .ok (.aload_n 0, 1) := by decide +kernel
theorem dX12_readSecond_39 : decode cX12_readSecond 39 = .ok (.invokevirtual 242, 3) := by decide +kernel
theorem dX12_readSecond_42 : decode cX12_readSecond 42 = .ok (.iload_n 3, 1) := by decide +kernel
theorem dX12_readSecond_43 : decode cX12_readSecond 43 = .ok (.ireturn, 1) := by decide +kernel
theorem dX12_readSettles_0 : decode cX12_readSettles 0 = .ok (.aload_n 0, 1) := by decide +kernel
theorem dX12_readSettles_1 : decode cX12_readSettles 1 = .ok (.invokevirtual 345, 3) := by decide +kernel
theorem dX12_readSettles_4 : decode cX12_readSettles 4 = .ok (.istore_n 1, 1) := by decide +kernel
theorem dX12_readSettles_5 : decode cX12_readSettles 5 = .ok (.aload_n 0, 1) := by decide +kernel
theorem dX12_readSettles_6 : decode cX12_readSettles 6 = .ok (.iload_n 1, 1) := by decide +kernel
theorem dX12_readSettles_7 : decode cX12_readSettles 7 = .ok (.aload_n 0, 1) := by decide +kernel
theorem dX12_readSettles_8 : decode cX12_readSettles 8 = .ok (.getfield 64, 3) := by decide +kernel
theorem dX12_readSettles_11 : decode cX12_readSettles 11 = .ok (.iload_n 1, 1) := by decide +kernel
theorem dX12_readSettles_12 : decode cX12_readSettles 12 = .ok (.iaload, 1) := by decide +kernel
theorem dX12_readSettles_13 : decode cX12_readSettles 13 = .ok (.invokevirtual 348, 3) := by decide +kernel
theorem dX12_readSettles_16 : decode cX12_readSettles 16 = .ok (.istore_n 2, 1) := by decide +kernel
theorem dX12_readSettles_17 : decode cX12_readSettles 17 = .ok (.aload_n 0, 1) := by decide +kernel
theorem dX12_readSettles_18 : decode cX12_readSettles 18 = .ok (.getfield 188, 3) := by decide +kernel
theorem dX12_readSettles_21 : decode cX12_readSettles 21 = .ok (.ifCond .le 4, 3) := by decide +kernel
theorem dX12_readSettles_24 : decode cX12_readSettles 24 = .ok (.return_, 1) := by decide +kernel
theorem dX12_readSettles_25 : decode cX12_readSettles 25 = .ok (.aload_n 0, 1) := by decide +kernel
theorem dX12_readSettles_26 : decode cX12_readSettles 26 = .ok (.getfield 64, 3) := by decide +kernel
theorem dX12_readSettles_29 : decode cX12_readSettles 29 = .ok (.iload_n 1, 1) := by decide +kernel
theorem dX12_readSettles_30 : decode cX12_readSettles 30 = .ok (.dup2, 1) := by decide +kernel
theorem dX12_readSettles_31 : decode cX12_readSettles 31 = .ok (.iaload, 1) := by decide +kernel
theorem dX12_readSettles_32 : decode cX12_readSettles 32 = .ok (.iconst 1, 1) := by decide +kernel
theorem dX12_readSettles_33 : decode cX12_readSettles 33 = .ok (.iload_n 2, 1) := by decide +kernel
theorem dX12_readSettles_34 : decode cX12_readSettles 34 = .ok (.ishl, 1) := by decide +kernel
theorem dX12_readSettles_35 : decode cX12_readSettles 35 = .ok (.ior, 1) := by decide +kernel
theorem dX12_readSettles_36 : decode cX12_readSettles 36 = .ok (.iastore, 1) := by decide +kernel
theorem dX12_readSettles_37 : decode cX12_readSettles 37 = .ok (.aload_n 0, 1) := by decide +kernel
theorem dX12_readSettles_38 : decode cX12_readSettles 38 = .ok (.dup, 1) := by decide +kernel
theorem dX12_readSettles_39 : decode cX12_readSettles 39 = .ok (.getfield 351, 3) := by decide +kernel
theorem dX12_readSettles_42 : decode cX12_readSettles 42 = .ok (.iconst 1, 1) := by decide +kernel
theorem dX12_readSettles_43 : decode cX12_readSettles 43 = .ok (.iadd, 1) := by decide +kernel
theorem dX12_readSettles_44 : decode cX12_readSettles 44 = .ok (.putfield 351, 3) := by decide +kernel
theorem dX12_readSettles_47 : decode cX12_readSettles 47 = .ok (.return_, 1) := by decide +kernel
theorem dX12_readBrings_0 : decode cX12_readBrings 0 = .ok (.aload_n 0, 1) := by decide +kernel
theorem dX12_readBrings_1 : decode cX12_readBrings 1 = .ok (.invokevirtual 345, 3) := by decide +kernel
theorem dX12_readBrings_4 : decode cX12_readBrings 4 = .ok (.istore_n 1, 1) := by decide +kernel
theorem dX12_readBrings_5 : decode cX12_readBrings 5 = .ok (.aload_n 0, 1) := by decide +kernel
theorem dX12_readBrings_6 : decode cX12_readBrings 6 = .ok (.iload_n 1, 1) := by decide +kernel
theorem dX12_readBrings_7 : decode cX12_readBrings 7 = .ok (.aload_n 0, 1) := by decide +kernel
theorem dX12_readBrings_8 : decode cX12_readBrings 8 = .ok (.getfield 67, 3) := by decide +kernel
theorem dX12_readBrings_11 : decode cX12_readBrings 11 = .ok (.iload_n 1, 1) := by decide +kernel
theorem dX12_readBrings_12 : decode cX12_readBrings 12 = .ok (.iaload, 1) := by decide +kernel
theorem dX12_readBrings_13 : decode cX12_readBrings 13 = .ok (.invokevirtual 348, 3) := by decide +kernel
theorem dX12_readBrings_16 : decode cX12_readBrings 16 = .ok (.istore_n 2, 1) := by decide +kernel
theorem dX12_readBrings_17 : decode cX12_readBrings 17 = .ok (.aload_n 0, 1) := by decide +kernel
theorem dX12_readBrings_18 : decode cX12_readBrings 18 = .ok (.getfield 188, 3) := by decide +kernel
theorem dX12_readBrings_21 : decode cX12_readBrings 21 = .ok (.ifCond .le 4, 3) := by decide +kernel
theorem dX12_readBrings_24 : decode cX12_readBrings 24 = .ok (.return_, 1) := by decide +kernel
theorem dX12_readBrings_25 : decode cX12_readBrings 25 = .ok (.aload_n 0, 1) := by decide +kernel
theorem dX12_readBrings_26 : decode cX12_readBrings 26 = .ok (.getfield 67, 3) := by decide +kernel
theorem dX12_readBrings_29 : decode cX12_readBrings 29 = .ok (.iload_n 1, 1) := by decide +kernel
theorem dX12_readBrings_30 : decode cX12_readBrings 30 = .ok (.dup2, 1) := by decide +kernel
theorem dX12_readBrings_31 : decode cX12_readBrings 31 = .ok (.iaload, 1) := by decide +kernel
theorem dX12_readBrings_32 : decode cX12_readBrings 32 = .ok (.iconst 1, 1) := by decide +kernel
theorem dX12_readBrings_33 : decode cX12_readBrings 33 = .ok (.iload_n 2, 1) := by decide +kernel
theorem dX12_readBrings_34 : decode cX12_readBrings 34 = .ok (.ishl, 1) := by decide +kernel
theorem dX12_readBrings_35 : decode cX12_readBrings 35 = .ok (.ior, 1) := by decide +kernel
theorem dX12_readBrings_36 : decode cX12_readBrings 36 = .ok (.iastore, 1) := by decide +kernel
theorem dX12_readBrings_37 : decode cX12_readBrings 37 = .ok (.aload_n 0, 1) := by decide +kernel
theorem dX12_readBrings_38 : decode cX12_readBrings 38 = .ok (.dup, 1) := by decide +kernel
theorem dX12_readBrings_39 : decode cX12_readBrings 39 = .ok (.getfield 354, 3) := by decide +kernel
theorem dX12_readBrings_42 : decode cX12_readBrings 42 = .ok (.iconst 1, 1) := by decide +kernel
theorem dX12_readBrings_43 : decode cX12_readBrings 43 = .ok (.iadd, 1) := by decide +kernel
theorem dX12_readBrings_44 : decode cX12_readBrings 44 = .ok (.putfield 354, 3) := by decide +kernel
theorem dX12_readBrings_47 : decode cX12_readBrings 47 = .ok (.return_, 1) := by decide +kernel
theorem dX12_readJoined_0 : decode cX12_readJoined 0 = .ok (.aload_n 0, 1) := by decide +kernel
theorem dX12_readJoined_1 : decode cX12_readJoined 1 = .ok (.invokevirtual 345, 3) := by decide +kernel
theorem dX12_readJoined_4 : decode cX12_readJoined 4 = .ok (.istore_n 1, 1) := by decide +kernel
theorem dX12_readJoined_5 : decode cX12_readJoined 5 = .ok (.iconst 0, 1) := by decide +kernel
theorem dX12_readJoined_6 : decode cX12_readJoined 6 = .ok (.istore_n 2, 1) := by decide +kernel
theorem dX12_readJoined_7 : decode cX12_readJoined 7 = .ok (.iconst 0, 1) := by decide +kernel
theorem dX12_readJoined_8 : decode cX12_readJoined 8 = .ok (.istore_n 3, 1) := by decide +kernel
theorem dX12_readJoined_9 : decode cX12_readJoined 9 = .ok (.iload_n 3, 1) := by decide +kernel
theorem dX12_readJoined_10 : decode cX12_readJoined 10 = .ok (.aload_n 0, 1) := by decide +kernel
theorem dX12_readJoined_11 : decode cX12_readJoined 11 = .ok (.getfield 257, 3) := by decide +kernel
theorem dX12_readJoined_14 : decode cX12_readJoined 14 = .ok (.if_icmp .ge 36, 3) := by decide +kernel
theorem dX12_readJoined_17 : decode cX12_readJoined 17 = .ok (.iload_n 2, 1) := by decide +kernel
theorem dX12_readJoined_18 : decode cX12_readJoined 18 = .ok (.aload_n 0, 1) := by decide +kernel
theorem dX12_readJoined_19 : decode cX12_readJoined 19 = .ok (.getfield 70, 3) := by decide +kernel
theorem dX12_readJoined_22 : decode cX12_readJoined 22 = .ok (.bipush 7, 2) := by decide +kernel
theorem dX12_readJoined_24 : decode cX12_readJoined 24 = .ok (.iload_n 1, 1) := by decide +kernel
theorem dX12_readJoined_25 : decode cX12_readJoined 25 = .ok (.imul, 1) := by decide +kernel
theorem dX12_readJoined_26 : decode cX12_readJoined 26 = .ok (.iload_n 3, 1) := by decide +kernel
theorem dX12_readJoined_27 : decode cX12_readJoined 27 = .ok (.iadd, 1) := by decide +kernel
theorem dX12_readJoined_28 : decode cX12_readJoined 28 = .ok (.iaload, 1) := by decide +kernel
theorem dX12_readJoined_29 : decode cX12_readJoined 29 = .ok (.ifCond .le 7, 3) := by decide +kernel
theorem dX12_readJoined_32 : decode cX12_readJoined 32 = .ok (.iconst 1, 1) := by decide +kernel
theorem dX12_readJoined_33 : decode cX12_readJoined 33 = .ok (.goto 4, 3) := by decide +kernel
theorem dX12_readJoined_36 : decode cX12_readJoined 36 = .ok (.iconst 0, 1) := by decide +kernel
theorem dX12_readJoined_37 : decode cX12_readJoined 37 = .ok (.invokestatic 319, 3) := by decide +kernel
theorem dX12_readJoined_40 : decode cX12_readJoined 40 = .ok (.iload_n 3, 1) := by decide +kernel
theorem dX12_readJoined_41 : decode cX12_readJoined 41 = .ok (.ishl, 1) := by decide +kernel
theorem dX12_readJoined_42 : decode cX12_readJoined 42 = .ok (.ior, 1) := by decide +kernel
theorem dX12_readJoined_43 : decode cX12_readJoined 43 = .ok (.istore_n 2, 1) := by decide +kernel
theorem dX12_readJoined_44 : decode cX12_readJoined 44 = .ok (.iinc 3 1, 3) := by decide +kernel
theorem dX12_readJoined_47 : decode cX12_readJoined 47 = .ok (.goto (-38), 3) := by decide +kernel
theorem dX12_readJoined_50 : decode cX12_readJoined 50 = .ok (.aload_n 0, 1) := by decide +kernel
theorem dX12_readJoined_51 : decode cX12_readJoined 51 = .ok (.iload_n 1, 1) := by decide +kernel
theorem dX12_readJoined_52 : decode cX12_readJoined 52 = .ok (.iload_n 2, 1) := by decide +kernel
theorem dX12_readJoined_53 : decode cX12_readJoined 53 = .ok (.invokevirtual 348, 3) := by decide +kernel
theorem dX12_readJoined_56 : decode cX12_readJoined 56 = .ok (.istore_n 3, 1) := by decide +kernel
theorem dX12_readJoined_57 : decode cX12_readJoined 57 = .ok (.aload_n 0, 1) := by decide +kernel
theorem dX12_readJoined_58 : decode cX12_readJoined 58 = .ok (.iconst 1, 1) := by decide +kernel
theorem dX12_readJoined_59 : decode cX12_readJoined 59 = .ok (.bipush 99, 2) := by decide +kernel
theorem dX12_readJoined_61 : decode cX12_readJoined 61 = .ok (.invokevirtual 249, 3) := by decide +kernel
theorem dX12_readJoined_64 : decode cX12_readJoined 64 = .ok (.istore 4, 2) := by decide +kernel
theorem dX12_readJoined_66 : decode cX12_readJoined 66 = .ok (.aload_n 0, 1) := by decide +kernel
theorem dX12_readJoined_67 : decode cX12_readJoined 67 = .ok (.getfield 188, 3) := by decide +kernel
theorem dX12_readJoined_70 : decode cX12_readJoined 70 = .ok (.ifCond .le 4, 3) := by decide +kernel
theorem dX12_readJoined_73 : decode cX12_readJoined 73 = .ok (.return_, 1) := by decide +kernel
theorem dX12_readJoined_74 : decode cX12_readJoined 74 = .ok (.aload_n 0, 1) := by decide +kernel
theorem dX12_readJoined_75 : decode cX12_readJoined 75 = .ok (.getfield 70, 3) := by decide +kernel
theorem dX12_readJoined_78 : decode cX12_readJoined 78 = .ok (.bipush 7, 2) := by decide +kernel
theorem dX12_readJoined_80 : decode cX12_readJoined 80 = .ok (.iload_n 1, 1) := by decide +kernel
theorem dX12_readJoined_81 : decode cX12_readJoined 81 = .ok (.imul, 1) := by decide +kernel
theorem dX12_readJoined_82 : decode cX12_readJoined 82 = .ok (.iload_n 3, 1) := by decide +kernel
theorem dX12_readJoined_83 : decode cX12_readJoined 83 = .ok (.iadd, 1) := by decide +kernel
theorem dX12_readJoined_84 : decode cX12_readJoined 84 = .ok (.iload 4, 2) := by decide +kernel
theorem dX12_readJoined_86 : decode cX12_readJoined 86 = .ok (.iastore, 1) := by decide +kernel
theorem dX12_readJoined_87 : decode cX12_readJoined 87 = .ok (.aload_n 0, 1) := by decide +kernel
theorem dX12_readJoined_88 : decode cX12_readJoined 88 = .ok (.getfield 70, 3) := by decide +kernel
theorem dX12_readJoined_91 : decode cX12_readJoined 91 = .ok (.bipush 7, 2) := by decide +kernel
theorem dX12_readJoined_93 : decode cX12_readJoined 93 = .ok (.iload_n 3, 1) := by decide +kernel
theorem dX12_readJoined_94 : decode cX12_readJoined 94 = .ok (.imul, 1) := by decide +kernel
theorem dX12_readJoined_95 : decode cX12_readJoined 95 = .ok (.iload_n 1, 1) := by decide +kernel
theorem dX12_readJoined_96 : decode cX12_readJoined 96 = .ok (.iadd, 1) := by decide +kernel
theorem dX12_readJoined_97 : decode cX12_readJoined 97 = .ok (.iload 4, 2) := by decide +kernel
theorem dX12_readJoined_99 : decode cX12_readJoined 99 = .ok (.iastore, 1) := by decide +kernel
theorem dX12_readJoined_100 : decode cX12_readJoined 100 = .ok (.aload_n 0, 1) := by decide +kernel
theorem dX12_readJoined_101 : decode cX12_readJoined 101 = .ok (.dup, 1) := by decide +kernel
theorem dX12_readJoined_102 : decode cX12_readJoined 102 = .ok (.getfield 357, 3) := by decide +kernel
theorem dX12_readJoined_105 : decode cX12_readJoined 105 = .ok (.iconst 1, 1) := by decide +kernel
theorem dX12_readJoined_106 : decode cX12_readJoined 106 = .ok (.iadd, 1) := by decide +kernel
theorem dX12_readJoined_107 : decode cX12_readJoined 107 = .ok (.putfield 357, 3) := by decide +kernel
theorem dX12_readJoined_110 : decode cX12_readJoined 110 = .ok (.return_, 1) := by decide +kernel
theorem dX12_readLine_0 : decode cX12_readLine 0 = .ok (.aload_n 0, 1) := by decide +kernel
theorem dX12_readLine_1 : decode cX12_readLine 1 = .ok (.ldc2_w 191, 3) := by decide +kernel
theorem dX12_readLine_4 : decode cX12_readLine 4 = .ok (.invokevirtual 235, 3) := by decide +kernel
theorem dX12_readLine_7 : decode cX12_readLine 7 = .ok (.ifCond .eq 19, 3) := by decide +kernel
theorem dX12_readLine_10 : decode cX12_readLine 10 = .ok (.aload_n 0, 1) := by decide +kernel
theorem dX12_readLine_11 : decode cX12_readLine 11 = .ok (.getfield 257, 3) := by decide +kernel
theorem dX12_readLine_14 : decode cX12_readLine 14 = .ok (.bipush 7, 2) := by decide +kernel
theorem dX12_readLine_16 : decode cX12_readLine 16 = .ok (.if_icmp .ge 10, 3) := by decide +kernel
theorem dX12_readLine_19 : decode cX12_readLine 19 = .ok (.aload_n 0, 1) := by decide +kernel
theorem dX12_readLine_20 : decode cX12_readLine 20 = .ok (.invokevirtual 360, 3) := by decide +kernel
theorem dX12_readLine_23 : decode cX12_readLine 23 = .ok (.goto 220, 3) := by decide +kernel
theorem dX12_readLine_26 : decode cX12_readLine 26 = .ok (.aload_n 0, 1) := by decide +kernel
theorem dX12_readLine_27 : decode cX12_readLine 27 = .ok (.ldc2_w 203, 3) := by decide +kernel
theorem dX12_readLine_30 : decode cX12_readLine 30 = .ok (.invokevirtual 235, 3) := by decide +kernel
theorem dX12_readLine_33 : decode cX12_readLine 33 = .ok (.ifCond .eq 19, 3) := by decide +kernel
theorem dX12_readLine_36 : decode cX12_readLine 36 = .ok (.aload_n 0, 1) := by decide +kernel
theorem dX12_readLine_37 : decode cX12_readLine 37 = .ok (.getfield 351, 3) := by decide +kernel
theorem dX12_readLine_40 : decode cX12_readLine 40 = .ok (.bipush 12, 2) := by decide +kernel
theorem dX12_readLine_42 : decode cX12_readLine 42 = .ok (.if_icmp .ge 10, 3) := by decide +kernel
theorem dX12_readLine_45 : decode cX12_readLine 45 = .ok (.aload_n 0, 1) := by decide +kernel
theorem dX12_readLine_46 : decode cX12_readLine 46 = .ok (.invokevirtual 363, 3) := by decide +kernel
theorem dX12_readLine_49 : decode cX12_readLine 49 = .ok (.goto 194, 3) := by decide +kernel
theorem dX12_readLine_52 : decode cX12_readLine 52 = .ok (.aload_n 0, 1) := by decide +kernel
theorem dX12_readLine_53 : decode cX12_readLine 53 = .ok (.ldc2_w 205, 3) := by decide +kernel
theorem dX12_readLine_56 : decode cX12_readLine 56 = .ok (.invokevirtual 235, 3) := by decide +kernel
theorem dX12_readLine_59 : decode cX12_readLine 59 = .ok (.ifCond .eq 19, 3) := by decide +kernel
theorem dX12_readLine_62 : decode cX12_readLine 62 = .ok (.aload_n 0, 1) := by decide +kernel
theorem dX12_readLine_63 : decode cX12_readLine 63 = .ok (.getfield 354, 3) := by decide +kernel
theorem dX12_readLine_66 : decode cX12_readLine 66 = .ok (.bipush 6, 2) := by decide +kernel
theorem dX12_readLine_68 : decode cX12_readLine 68 = .ok (.if_icmp .ge 10, 3) := by decide +kernel
theorem dX12_readLine_71 : decode cX12_readLine 71 = .ok (.aload_n 0, 1) := by decide +kernel
theorem dX12_readLine_72 : decode cX12_readLine 72 = .ok (.invokevirtual 366, 3) := by decide +kernel
theorem dX12_readLine_75 : decode cX12_readLine 75 = .ok (.goto 168, 3) := by decide +kernel
theorem dX12_readLine_78 : decode cX12_readLine 78 = .ok (.aload_n 0, 1) := by decide +kernel
theorem dX12_readLine_79 : decode cX12_readLine 79 = .ok (.ldc2_w 207, 3) := by decide +kernel
theorem dX12_readLine_82 : decode cX12_readLine 82 = .ok (.invokevirtual 235, 3) := by decide +kernel
theorem dX12_readLine_85 : decode cX12_readLine 85 = .ok (.ifCond .eq 19, 3) := by decide +kernel
theorem dX12_readLine_88 : decode cX12_readLine 88 = .ok (.aload_n 0, 1) := by decide +kernel
theorem dX12_readLine_89 : decode cX12_readLine 89 = .ok (.getfield 357, 3) := by decide +kernel
theorem dX12_readLine_92 : decode cX12_readLine 92 = .ok (.bipush 6, 2) := by decide +kernel
theorem dX12_readLine_94 : decode cX12_readLine 94 = .ok (.if_icmp .ge 10, 3) := by decide +kernel
theorem dX12_readLine_97 : decode cX12_readLine 97 = .ok (.aload_n 0, 1) := by decide +kernel
theorem dX12_readLine_98 : decode cX12_readLine 98 = .ok (.invokevirtual 369, 3) := by decide +kernel
theorem dX12_readLine_101 : decode cX12_readLine 101 = .ok (.goto 142, 3) := by decide +kernel
theorem dX12_readLine_104 : decode cX12_readLine 104 = .ok (.aload_n 0, 1) := by decide +kernel
theorem dX12_readLine_105 : decode cX12_readLine 105 = .ok (.ldc2_w 209, 3) := by decide +kernel
theorem dX12_readLine_108 : decode cX12_readLine 108 = .ok (.invokevirtual 235, 3) := by decide +kernel
theorem dX12_readLine_111 : decode cX12_readLine 111 = .ok (.ifCond .eq 20, 3) := by decide +kernel
theorem dX12_readLine_114 : decode cX12_readLine 114 = .ok (.aload_n 0, 1) := by decide +kernel
theorem dX12_readLine_115 : decode cX12_readLine 115 = .ok (.getfield 45, 3) := by decide +kernel
theorem dX12_readLine_118 : decode cX12_readLine 118 = .ok (.iconst 0, 1) := by decide +kernel
theorem dX12_readLine_119 : decode cX12_readLine 119 = .ok (.baload, 1) := by decide +kernel
theorem dX12_readLine_120 : decode cX12_readLine 120 = .ok (.ifCond .ne 11, 3) := by decide +kernel
theorem dX12_readLine_123 : decode cX12_readLine 123 = .ok (.aload_n 0, 1) := by decide +kernel
theorem dX12_readLine_124 : decode cX12_readLine 124 = .ok (.iconst 0, 1) := by decide +kernel
theorem dX12_readLine_125 : decode cX12_readLine 125 = .ok (.invokevirtual 372, 3) := by decide +kernel
theorem dX12_readLine_128 : decode cX12_readLine 128 = .ok (.goto 115, 3) := by decide +kernel
theorem dX12_readLine_131 : decode cX12_readLine 131 = .ok (.aload_n 0, 1) := by decide +kernel
theorem dX12_readLine_132 : decode cX12_readLine 132 = .ok (.ldc2_w 211, 3) := by decide +kernel
theorem dX12_readLine_135 : decode cX12_readLine 135 = .ok (.invokevirtual 235, 3) := by decide +kernel
theorem dX12_readLine_138 : decode cX12_readLine 138 = .ok (.ifCond .eq 20, 3) := by decide +kernel
theorem dX12_readLine_141 : decode cX12_readLine 141 = .ok (.aload_n 0, 1) := by decide +kernel
theorem dX12_readLine_142 : decode cX12_readLine 142 = .ok (.getfield 45, 3) := by decide +kernel
theorem dX12_readLine_145 : decode cX12_readLine 145 = .ok (.iconst 1, 1) := by decide +kernel
theorem dX12_readLine_146 : decode cX12_readLine 146 = .ok (.baload, 1) := by decide +kernel
theorem dX12_readLine_147 : decode cX12_readLine 147 = .ok (.ifCond .ne 11, 3) := by decide +kernel
theorem dX12_readLine_150 : decode cX12_readLine 150 = .ok (.aload_n 0, 1) := by decide +kernel
theorem dX12_readLine_151 : decode cX12_readLine 151 = .ok (.iconst 1, 1) := by decide +kernel
theorem dX12_readLine_152 : decode cX12_readLine 152 = .ok (.invokevirtual 372, 3) := by decide +kernel
theorem dX12_readLine_155 : decode cX12_readLine 155 = .ok (.goto 88, 3) := by decide +kernel
theorem dX12_readLine_158 : decode cX12_readLine 158 = .ok (.aload_n 0, 1) := by decide +kernel
theorem dX12_readLine_159 : decode cX12_readLine 159 = .ok (.ldc2_w 213, 3) := by decide +kernel
theorem dX12_readLine_162 : decode cX12_readLine 162 = .ok (.invokevirtual 235, 3) := by decide +kernel
theorem dX12_readLine_165 : decode cX12_readLine 165 = .ok (.ifCond .eq 33, 3) := by decide +kernel
theorem dX12_readLine_168 : decode cX12_readLine 168 = .ok (.aload_n 0, 1) := by decide +kernel
theorem dX12_readLine_169 : decode cX12_readLine 169 = .ok (.getfield 375, 3) := by decide +kernel
theorem dX12_readLine_172 : decode cX12_readLine 172 = .ok (.ifCond .ne 26, 3) := by decide +kernel
theorem dX12_readLine_175 : decode cX12_readLine 175 = .ok (.aload_n 0, 1) := by decide +kernel
theorem dX12_readLine_176 : decode cX12_readLine 176 = .ok (.iconst 1, 1) := by decide +kernel
theorem dX12_readLine_177 : decode cX12_readLine 177 = .ok (.putfield 375, 3) := by decide +kernel
theorem dX12_readLine_180 : decode cX12_readLine 180 = .ok (.aload_n 0, 1) := by decide +kernel
theorem dX12_readLine_181 : decode cX12_readLine 181 = .ok (.aload_n 0, 1) := by decide +kernel
theorem dX12_readLine_182 : decode cX12_readLine 182 = .ok (.ldc2_w 213, 3) := by decide +kernel
theorem dX12_readLine_185 : decode cX12_readLine 185 = .ok (.iconst 1, 1) := by decide +kernel
theorem dX12_readLine_186 : decode cX12_readLine 186 = .ok (.sipush 999, 3) := by decide +kernel
theorem dX12_readLine_189 : decode cX12_readLine 189 = .ok (.invokevirtual 253, 3) := by decide +kernel
theorem dX12_readLine_192 : decode cX12_readLine 192 = .ok (.putfield 379, 3) := by decide +kernel
theorem dX12_readLine_195 : decode cX12_readLine 195 = .ok (.goto 48, 3) := by decide +kernel
theorem dX12_readLine_198 : decode cX12_readLine 198 = .ok (.aload_n 0, 1) := by decide +kernel
theorem dX12_readLine_199 : decode cX12_readLine 199 = .ok (.ldc2_w 215, 3) := by decide +kernel
theorem dX12_readLine_202 : decode cX12_readLine 202 = .ok (.invokevirtual 235, 3) := by decide +kernel
theorem dX12_readLine_205 : decode cX12_readLine 205 = .ok (.ifCond .eq 33, 3) := by decide +kernel
theorem dX12_readLine_208 : decode cX12_readLine 208 = .ok (.aload_n 0, 1) := by decide +kernel
theorem dX12_readLine_209 : decode cX12_readLine 209 = .ok (.getfield 382, 3) := by decide +kernel
theorem dX12_readLine_212 : decode cX12_readLine 212 = .ok (.ifCond .ne 26, 3) := by decide +kernel
theorem dX12_readLine_215 : decode cX12_readLine 215 = .ok (.aload_n 0, 1) := by decide +kernel
theorem dX12_readLine_216 : decode cX12_readLine 216 = .ok (.iconst 1, 1) := by decide +kernel
theorem dX12_readLine_217 : decode cX12_readLine 217 = .ok (.putfield 382, 3) := by decide +kernel
theorem dX12_readLine_220 : decode cX12_readLine 220 = .ok (.aload_n 0, 1) := by decide +kernel
theorem dX12_readLine_221 : decode cX12_readLine 221 = .ok (.aload_n 0, 1) := by decide +kernel
theorem dX12_readLine_222 : decode cX12_readLine 222 = .ok (.ldc2_w 215, 3) := by decide +kernel
theorem dX12_readLine_225 : decode cX12_readLine 225 = .ok (.iconst 0, 1) := by decide +kernel
theorem dX12_readLine_226 : decode cX12_readLine 226 = .ok (.sipush 999, 3) := by decide +kernel
theorem dX12_readLine_229 : decode cX12_readLine 229 = .ok (.invokevirtual 253, 3) := by decide +kernel
theorem dX12_readLine_232 : decode cX12_readLine 232 = .ok (.putfield 385, 3) := by decide +kernel
theorem dX12_readLine_235 : decode cX12_readLine 235 = .ok (.goto 8, 3) := by decide +kernel
theorem dX12_readLine_238 : decode cX12_readLine 238 = .ok (.aload_n 0, 1) := by decide +kernel
theorem dX12_readLine_239 : decode cX12_readLine 239 = .ok (.iconst 2, 1) := by decide +kernel
theorem dX12_readLine_240 : decode cX12_readLine 240 = .ok (.invokevirtual 239, 3) := by decide +kernel
theorem dX12_readLine_243 : decode cX12_readLine 243 = .ok (.aload_n 0, 1) := by decide +kernel
theorem dX12_readLine_244 : decode cX12_readLine 244 = .ok (.getfield 188, 3) := by decide +kernel
theorem dX12_readLine_247 : decode cX12_readLine 247 = .ok (.ifCond .ne 17, 3) := by decide +kernel
theorem dX12_readLine_250 : decode cX12_readLine 250 = .ok (.aload_n 0, 1) := by decide +kernel
theorem dX12_readLine_251 : decode cX12_readLine 251 = .ok (.getfield 175, 3) := by decide +kernel
theorem dX12_readLine_254 : decode cX12_readLine 254 = .ok (.bipush 59, 2) := by decide +kernel
theorem dX12_readLine_256 : decode cX12_readLine 256 = .ok (.if_icmp .eq 8, 3) := by decide +kernel
theorem dX12_readLine_259 : decode cX12_readLine 259 = .ok (.aload_n 0, 1) := by decide +kernel
theorem dX12_readLine_260 : decode cX12_readLine 260 = .ok (.iconst 2, 1) := by decide +kernel
theorem dX12_readLine_261 : decode cX12_readLine 261 = .ok (.invokevirtual 239, 3) := by decide +kernel
theorem dX12_readLine_264 : decode cX12_readLine 264 = .ok (.aload_n 0, 1) := by decide +kernel
theorem dX12_readLine_265 : decode cX12_readLine 265 = .ok (.getfield 188, 3) := by decide +kernel
theorem dX12_readLine_268 : decode cX12_readLine 268 = .ok (.ifCond .ne 7, 3) := by decide +kernel
theorem dX12_readLine_271 : decode cX12_readLine 271 = .ok (.aload_n 0, 1) := by decide +kernel
theorem dX12_readLine_272 : decode cX12_readLine 272 = .ok (.invokevirtual 242, 3) := by decide +kernel
theorem dX12_readLine_275 : decode cX12_readLine 275 = .ok (.return_, 1) := by decide +kernel
theorem dX12_readAll_0 : decode cX12_readAll 0 = .ok (.aload_n 0, 1) := by decide +kernel
theorem dX12_readAll_1 : decode cX12_readAll 1 = .ok (.aload_n 0, 1) := by decide +kernel
theorem dX12_readAll_2 : decode cX12_readAll 2 = .ok (.getfield 148, 3) := by decide +kernel
theorem dX12_readAll_5 : decode cX12_readAll 5 = .ok (.putfield 158, 3) := by decide +kernel
theorem dX12_readAll_8 : decode cX12_readAll 8 = .ok (.aload_n 0, 1) := by decide +kernel
theorem dX12_readAll_9 : decode cX12_readAll 9 = .ok (.iconst 0, 1) := by decide +kernel
theorem dX12_readAll_10 : decode cX12_readAll 10 = .ok (.putfield 148, 3) := by decide +kernel
theorem dX12_readAll_13 : decode cX12_readAll 13 = .ok (.aload_n 0, 1) := by decide +kernel
theorem dX12_readAll_14 : decode cX12_readAll 14 = .ok (.iconst 0, 1) := by decide +kernel
theorem dX12_readAll_15 : decode cX12_readAll 15 = .ok (.putfield 155, 3) := by decide +kernel
theorem dX12_readAll_18 : decode cX12_readAll 18 = .ok (.aload_n 0, 1) := by decide +kernel
theorem dX12_readAll_19 : decode cX12_readAll 19 = .ok (.iconst 0, 1) := by decide +kernel
theorem dX12_readAll_20 : decode cX12_readAll 20 = .ok (.putfield 188, 3) := by decide +kernel
theorem dX12_readAll_23 : decode cX12_readAll 23 = .ok (.aload_n 0, 1) := by decide +kernel
theorem dX12_readAll_24 : decode cX12_readAll 24 = .ok (.iconst (-1), 1) := by decide +kernel
theorem dX12_readAll_25 : decode cX12_readAll 25 = .ok (.putfield 13, 3) := by decide +kernel
theorem dX12_readAll_28 : decode cX12_readAll 28 = .ok (.aload_n 0, 1) := by decide +kernel
theorem dX12_readAll_29 : decode cX12_readAll 29 = .ok (.iconst 0, 1) := by decide +kernel
theorem dX12_readAll_30 : decode cX12_readAll 30 = .ok (.putfield 257, 3) := by decide +kernel
theorem dX12_readAll_33 : decode cX12_readAll 33 = .ok (.aload_n 0, 1) := by decide +kernel
theorem dX12_readAll_34 : decode cX12_readAll 34 = .ok (.iconst 0, 1) := by decide +kernel
theorem dX12_readAll_35 : decode cX12_readAll 35 = .ok (.putfield 351, 3) := by decide +kernel
theorem dX12_readAll_38 : decode cX12_readAll 38 = .ok (.aload_n 0, 1) := by decide +kernel
theorem dX12_readAll_39 : decode cX12_readAll 39 = .ok (.iconst 0, 1) := by decide +kernel
theorem dX12_readAll_40 : decode cX12_readAll 40 = .ok (.putfield 354, 3) := by decide +kernel
theorem dX12_readAll_43 : decode cX12_readAll 43 = .ok (.aload_n 0, 1) := by decide +kernel
theorem dX12_readAll_44 : decode cX12_readAll 44 = .ok (.iconst 0, 1) := by decide +kernel
theorem dX12_readAll_45 : decode cX12_readAll 45 = .ok (.putfield 357, 3) := by decide +kernel
theorem dX12_readAll_48 : decode cX12_readAll 48 = .ok (.aload_n 0, 1) := by decide +kernel
theorem dX12_readAll_49 : decode cX12_readAll 49 = .ok (.iconst 0, 1) := by decide +kernel
theorem dX12_readAll_50 : decode cX12_readAll 50 = .ok (.putfield 336, 3) := by decide +kernel
theorem dX12_readAll_53 : decode cX12_readAll 53 = .ok (.aload_n 0, 1) := by decide +kernel
theorem dX12_readAll_54 : decode cX12_readAll 54 = .ok (.bipush 100, 2) := by decide +kernel
theorem dX12_readAll_56 : decode cX12_readAll 56 = .ok (.putfield 379, 3) := by decide +kernel
theorem dX12_readAll_59 : decode cX12_readAll 59 = .ok (.aload_n 0, 1) := by decide +kernel
theorem dX12_readAll_60 : decode cX12_readAll 60 = .ok (.iconst 0, 1) := by decide +kernel
theorem dX12_readAll_61 : decode cX12_readAll 61 = .ok (.putfield 385, 3) := by decide +kernel
theorem dX12_readAll_64 : decode cX12_readAll 64 = .ok (.aload_n 0, 1) := by decide +kernel
theorem dX12_readAll_65 : decode cX12_readAll 65 = .ok (.iconst 0, 1) := by decide +kernel
theorem dX12_readAll_66 : decode cX12_readAll 66 = .ok (.putfield 375, 3) := by decide +kernel
theorem dX12_readAll_69 : decode cX12_readAll 69 = .ok (.aload_n 0, 1) := by decide +kernel
theorem dX12_readAll_70 : decode cX12_readAll 70 = .ok (.iconst 0, 1) := by decide +kernel
theorem dX12_readAll_71 : decode cX12_readAll 71 = .ok (.putfield 382, 3) := by decide +kernel
theorem dX12_readAll_74 : decode cX12_readAll 74 = .ok (.aload_n 0, 1) := by decide +kernel
theorem dX12_readAll_75 : decode cX12_readAll 75 = .ok (.getfield 45, 3) := by decide +kernel
theorem dX12_readAll_78 : decode cX12_readAll 78 = .ok (.iconst 0, 1) := by decide +kernel
theorem dX12_readAll_79 : decode cX12_readAll 79 = .ok (.iconst 0, 1) := by decide +kernel
theorem dX12_readAll_80 : decode cX12_readAll 80 = .ok (.bastore, 1) := by decide +kernel
theorem dX12_readAll_81 : decode cX12_readAll 81 = .ok (.aload_n 0, 1) := by decide +kernel
theorem dX12_readAll_82 : decode cX12_readAll 82 = .ok (.getfield 45, 3) := by decide +kernel
theorem dX12_readAll_85 : decode cX12_readAll 85 = .ok (.iconst 1, 1) := by decide +kernel
theorem dX12_readAll_86 : decode cX12_readAll 86 = .ok (.iconst 0, 1) := by decide +kernel
theorem dX12_readAll_87 : decode cX12_readAll 87 = .ok (.bastore, 1) := by decide +kernel
theorem dX12_readAll_88 : decode cX12_readAll 88 = .ok (.aload_n 0, 1) := by decide +kernel
theorem dX12_readAll_89 : decode cX12_readAll 89 = .ok (.iconst 0, 1) := by decide +kernel
theorem dX12_readAll_90 : decode cX12_readAll 90 = .ok (.putfield 283, 3) := by decide +kernel
theorem dX12_readAll_93 : decode cX12_readAll 93 = .ok (.aload_n 0, 1) := by decide +kernel
theorem dX12_readAll_94 : decode cX12_readAll 94 = .ok (.invokevirtual 242, 3) := by decide +kernel
theorem dX12_readAll_97 : decode cX12_readAll 97 = .ok (.aload_n 0, 1) := by decide +kernel
theorem dX12_readAll_98 : decode cX12_readAll 98 = .ok (.getfield 188, 3) := by decide +kernel
theorem dX12_readAll_101 : decode cX12_readAll 101 = .ok (.ifCond .ne 17, 3) := by decide +kernel
theorem dX12_readAll_104 : decode cX12_readAll 104 = .ok (.aload_n 0, 1) := by decide +kernel
theorem dX12_readAll_105 : decode cX12_readAll 105 = .ok (.getfield 175, 3) := by decide +kernel
theorem dX12_readAll_108 : decode cX12_readAll 108 = .ok (.ifCond .eq 10, 3) := by decide +kernel
theorem dX12_readAll_111 : decode cX12_readAll 111 = .ok (.aload_n 0, 1) := by decide +kernel
theorem dX12_readAll_112 : decode cX12_readAll 112 = .ok (.invokevirtual 388, 3) := by decide +kernel
theorem dX12_readAll_115 : decode cX12_readAll 115 = .ok (.goto (-18), 3) := by decide +kernel
theorem dX12_readAll_118 : decode cX12_readAll 118 = .ok (.return_, 1) := by decide +kernel
theorem dX12_wedding_0 : decode cX12_wedding 0 = .ok (.aload_n 0, 1) := by decide +kernel
theorem dX12_wedding_1 : decode cX12_wedding 1 = .ok (.invokevirtual 391, 3) := by decide +kernel
theorem dX12_wedding_4 : decode cX12_wedding 4 = .ok (.aload_n 0, 1) := by decide +kernel
theorem dX12_wedding_5 : decode cX12_wedding 5 = .ok (.getfield 188, 3) := by decide +kernel
theorem dX12_wedding_8 : decode cX12_wedding 8 = .ok (.ifCond .le 5, 3) := by decide +kernel
theorem dX12_wedding_11 : decode cX12_wedding 11 = .ok (.iconst (-1), 1) := by decide +kernel
theorem dX12_wedding_12 : decode cX12_wedding 12 = .ok (.ireturn, 1) := by decide +kernel
theorem dX12_wedding_13 : decode cX12_wedding 13 = .ok (.aload_n 0, 1) := by decide +kernel
theorem dX12_wedding_14 : decode cX12_wedding 14 = .ok (.aload_n 0, 1) := by decide +kernel
theorem dX12_wedding_15 : decode cX12_wedding 15 = .ok (.getfield 257, 3) := by decide +kernel
theorem dX12_wedding_18 : decode cX12_wedding 18 = .ok (.putfield 323, 3) := by decide +kernel
theorem dX12_wedding_21 : decode cX12_wedding 21 = .ok (.aload_n 0, 1) := by decide +kernel
theorem dX12_wedding_22 : decode cX12_wedding 22 = .ok (.aload_n 0, 1) := by decide +kernel
theorem dX12_wedding_23 : decode cX12_wedding 23 = .ok (.getfield 336, 3) := by decide +kernel
theorem dX12_wedding_26 : decode cX12_wedding 26 = .ok (.putfield 394, 3) := by decide +kernel
theorem dX12_wedding_29 : decode cX12_wedding 29 = .ok (.aload_n 0, 1) := by decide +kernel
theorem dX12_wedding_30 : decode cX12_wedding 30 = .ok (.aload_n 0, 1) := by decide +kernel
theorem dX12_wedding_31 : decode cX12_wedding 31 = .ok (.getfield 379, 3) := by decide +kernel
theorem dX12_wedding_34 : decode cX12_wedding 34 = .ok (.putfield 94, 3) := by decide +kernel
theorem dX12_wedding_37 : decode cX12_wedding 37 = .ok (.aload_n 0, 1) := by decide +kernel
theorem dX12_wedding_38 : decode cX12_wedding 38 = .ok (.aload_n 0, 1) := by decide +kernel
theorem dX12_wedding_39 : decode cX12_wedding 39 = .ok (.getfield 283, 3) := by decide +kernel
theorem dX12_wedding_42 : decode cX12_wedding 42 = .ok (.putfield 397, 3) := by decide +kernel
theorem dX12_wedding_45 : decode cX12_wedding 45 = .ok (.iconst 0, 1) := by decide +kernel
theorem dX12_wedding_46 : decode cX12_wedding 46 = .ok (.istore_n 1, 1) := by decide +kernel
theorem dX12_wedding_47 : decode cX12_wedding 47 = .ok (.iload_n 1, 1) := by decide +kernel
theorem dX12_wedding_48 : decode cX12_wedding 48 = .ok (.iconst 2, 1) := by decide +kernel
theorem dX12_wedding_49 : decode cX12_wedding 49 = .ok (.if_icmp .ge 86, 3) := by decide +kernel
theorem dX12_wedding_52 : decode cX12_wedding 52 = .ok (.aload_n 0, 1) := by decide +kernel
theorem dX12_wedding_53 : decode cX12_wedding 53 = .ok (.getfield 36, 3) := by decide +kernel
theorem dX12_wedding_56 : decode cX12_wedding 56 = .ok (.iload_n 1, 1) := by decide +kernel
theorem dX12_wedding_57 : decode cX12_wedding 57 = .ok (.aload_n 0, 1) := by decide +kernel
theorem dX12_wedding_58 : decode cX12_wedding 58 = .ok (.getfield 45, 3) := by decide +kernel
theorem dX12_wedding_61 : decode cX12_wedding 61 = .ok (.iload_n 1, 1) := by decide +kernel
theorem dX12_wedding_62 : decode cX12_wedding 62 = .ok (.baload, 1) := by decide +kernel
theorem dX12_wedding_63 : decode cX12_wedding 63 = .ok (.ifCond .eq 12, 3) := by decide +kernel
theorem dX12_wedding_66 : decode cX12_wedding 66 = .ok (.aload_n 0, 1) := by decide +kernel
theorem dX12_wedding_67 : decode cX12_wedding 67 = .ok (.getfield 27, 3) := by decide +kernel
theorem dX12_wedding_70 : decode cX12_wedding 70 = .ok (.iload_n 1, 1) := by decide +kernel
theorem dX12_wedding_71 : decode cX12_wedding 71 = .ok (.iaload, 1) := by decide +kernel
theorem dX12_wedding_72 : decode cX12_wedding 72 = .ok (.goto 4, 3) := by decide +kernel
theorem dX12_wedding_75 : decode cX12_wedding 75 = .ok (.iconst 0, 1) := by decide +kernel
theorem dX12_wedding_76 : decode cX12_wedding 76 = .ok (.iastore, 1) := by decide +kernel
theorem dX12_wedding_77 : decode cX12_wedding 77 = .ok (.sipush 320, 3) := by decide +kernel
theorem dX12_wedding_80 : decode cX12_wedding 80 = .ok (.iload_n 1, 1) := by decide +kernel
theorem dX12_wedding_81 : decode cX12_wedding 81 = .ok (.imul, 1) := by decide +kernel
theorem dX12_wedding_82 : decode cX12_wedding 82 = .ok (.istore_n 2, 1) := by decide +kernel
theorem dX12_wedding_83 : decode cX12_wedding 83 = .ok (.iload_n 2, 1) := by decide +kernel
theorem dX12_wedding_84 : decode cX12_wedding 84 = .ok (.sipush 320, 3) := by decide +kernel
theorem dX12_wedding_87 : decode cX12_wedding 87 = .ok (.iload_n 1, 1) := by decide +kernel
theorem dX12_wedding_88 : decode cX12_wedding 88 = .ok (.imul, 1) := by decide +kernel
theorem dX12_wedding_89 : decode cX12_wedding 89 = .ok (.aload_n 0, 1) := by decide +kernel
theorem dX12_wedding_90 : decode cX12_wedding 90 = .ok (.getfield 36, 3) := by decide +kernel
theorem dX12_wedding_93 : decode cX12_wedding 93 = .ok (.iload_n 1, 1) := by decide +kernel
theorem dX12_wedding_94 : decode cX12_wedding 94 = .ok (.iaload, 1) := by decide +kernel
theorem dX12_wedding_95 : decode cX12_wedding 95 = .ok (.iadd, 1) := by decide +kernel
theorem dX12_wedding_96 : decode cX12_wedding 96 = .ok (.if_icmp .ge 33, 3) := by decide +kernel
theorem dX12_wedding_99 : decode cX12_wedding 99 = .ok (.aload_n 0, 1) := by decide +kernel
theorem dX12_wedding_100 : decode cX12_wedding 100 = .ok (.getfield 30, 3) := by decide +kernel
theorem dX12_wedding_103 : decode cX12_wedding 103 = .ok (.iload_n 2, 1) := by decide +kernel
theorem dX12_wedding_104 : decode cX12_wedding 104 = .ok (.aload_n 0, 1) := by decide +kernel
theorem dX12_wedding_105 : decode cX12_wedding 105 = .ok (.getfield 21, 3) := by decide +kernel
theorem dX12_wedding_108 : decode cX12_wedding 108 = .ok (.iload_n 2, 1) := by decide +kernel
theorem dX12_wedding_109 : decode cX12_wedding 109 = .ok (.iaload, 1) := by decide +kernel
theorem dX12_wedding_110 : decode cX12_wedding 110 = .ok (.iastore, 1) := by decide +kernel
theorem dX12_wedding_111 : decode cX12_wedding 111 = .ok (.aload_n 0, 1) := by decide +kernel
theorem dX12_wedding_112 : decode cX12_wedding 112 = .ok (.getfield 33, 3) := by decide +kernel
theorem dX12_wedding_115 : decode cX12_wedding 115 = .ok (.iload_n 2, 1) := by decide +kernel
theorem dX12_wedding_116 : decode cX12_wedding 116 = .ok (.aload_n 0, 1) := by decide +kernel
theorem dX12_wedding_117 : decode cX12_wedding 117 = .ok (.getfield 24, 3) := by decide +kernel
theorem dX12_wedding_120 : decode cX12_wedding 120 = .ok (.iload_n 2, 1) := by decide +kernel
theorem dX12_wedding_121 : decode cX12_wedding 121 = .ok (.iaload, 1) := by decide +kernel
theorem dX12_wedding_122 : decode cX12_wedding 122 = .ok (.iastore, 1) := by decide +kernel
theorem dX12_wedding_123 : decode cX12_wedding 123 = .ok (.iinc 2 1, 3) := by decide +kernel
theorem dX12_wedding_126 : decode cX12_wedding 126 = .ok (.goto (-43), 3) := by decide +kernel
theorem dX12_wedding_129 : decode cX12_wedding 129 = .ok (.iinc 1 1, 3) := by decide +kernel
theorem dX12_wedding_132 : decode cX12_wedding 132 = .ok (.goto (-85), 3) := by decide +kernel
theorem dX12_wedding_135 : decode cX12_wedding 135 = .ok (.iconst 0, 1) := by decide +kernel
theorem dX12_wedding_136 : decode cX12_wedding 136 = .ok (.istore_n 1, 1) := by decide +kernel
theorem dX12_wedding_137 : decode cX12_wedding 137 = .ok (.iload_n 1, 1) := by decide +kernel
theorem dX12_wedding_138 : decode cX12_wedding 138 = .ok (.aload_n 0, 1) := by decide +kernel
theorem dX12_wedding_139 : decode cX12_wedding 139 = .ok (.getfield 323, 3) := by decide +kernel
theorem dX12_wedding_142 : decode cX12_wedding 142 = .ok (.if_icmp .ge 81, 3) := by decide +kernel
theorem dX12_wedding_145 : decode cX12_wedding 145 = .ok (.aload_n 0, 1) := by decide +kernel
theorem dX12_wedding_146 : decode cX12_wedding 146 = .ok (.getfield 73, 3) := by decide +kernel
theorem dX12_wedding_149 : decode cX12_wedding 149 = .ok (.iload_n 1, 1) := by decide +kernel
theorem dX12_wedding_150 : decode cX12_wedding 150 = .ok (.aload_n 0, 1) := by decide +kernel
theorem dX12_wedding_151 : decode cX12_wedding 151 = .ok (.getfield 52, 3) := by decide +kernel
theorem dX12_wedding_154 : decode cX12_wedding 154 = .ok (.iload_n 1, 1) := by decide +kernel
theorem dX12_wedding_155 : decode cX12_wedding 155 = .ok (.iaload, 1) := by decide +kernel
theorem dX12_wedding_156 : decode cX12_wedding 156 = .ok (.iastore, 1) := by decide +kernel
theorem dX12_wedding_157 : decode cX12_wedding 157 = .ok (.aload_n 0, 1) := by decide +kernel
theorem dX12_wedding_158 : decode cX12_wedding 158 = .ok (.getfield 76, 3) := by decide +kernel
theorem dX12_wedding_161 : decode cX12_wedding 161 = .ok (.iload_n 1, 1) := by decide +kernel
theorem dX12_wedding_162 : decode cX12_wedding 162 = .ok (.aload_n 0, 1) := by decide +kernel
theorem dX12_wedding_163 : decode cX12_wedding 163 = .ok (.getfield 55, 3) := by decide +kernel
theorem dX12_wedding_166 : decode cX12_wedding 166 = .ok (.iload_n 1, 1) := by decide +kernel
theorem dX12_wedding_167 : decode cX12_wedding 167 = .ok (.iaload, 1) := by decide +kernel
theorem dX12_wedding_168 : decode cX12_wedding 168 = .ok (.iastore, 1) := by decide +kernel
theorem dX12_wedding_169 : decode cX12_wedding 169 = .ok (.aload_n 0, 1) := by decide +kernel
theorem dX12_wedding_170 : decode cX12_wedding 170 = .ok (.getfield 79, 3) := by decide +kernel
theorem dX12_wedding_173 : decode cX12_wedding 173 = .ok (.iload_n 1, 1) := by decide +kernel
theorem dX12_wedding_174 : decode cX12_wedding 174 = .ok (.aload_n 0, 1) := by decide +kernel
theorem dX12_wedding_175 : decode cX12_wedding 175 = .ok (.getfield 58, 3) := by decide +kernel
theorem dX12_wedding_178 : decode cX12_wedding 178 = .ok (.iload_n 1, 1) := by decide +kernel
theorem dX12_wedding_179 : decode cX12_wedding 179 = .ok (.iaload, 1) := by decide +kernel
theorem dX12_wedding_180 : decode cX12_wedding 180 = .ok (.iastore, 1) := by decide +kernel
theorem dX12_wedding_181 : decode cX12_wedding 181 = .ok (.aload_n 0, 1) := by decide +kernel
theorem dX12_wedding_182 : decode cX12_wedding 182 = .ok (.getfield 82, 3) := by decide +kernel
theorem dX12_wedding_185 : decode cX12_wedding 185 = .ok (.iload_n 1, 1) := by decide +kernel
theorem dX12_wedding_186 : decode cX12_wedding 186 = .ok (.aload_n 0, 1) := by decide +kernel
theorem dX12_wedding_187 : decode cX12_wedding 187 = .ok (.getfield 61, 3) := by decide +kernel
theorem dX12_wedding_190 : decode cX12_wedding 190 = .ok (.iload_n 1, 1) := by decide +kernel
theorem dX12_wedding_191 : decode cX12_wedding 191 = .ok (.iaload, 1) := by decide +kernel
theorem dX12_wedding_192 : decode cX12_wedding 192 = .ok (.iastore, 1) := by decide +kernel
theorem dX12_wedding_193 : decode cX12_wedding 193 = .ok (.aload_n 0, 1) := by decide +kernel
theorem dX12_wedding_194 : decode cX12_wedding 194 = .ok (.getfield 85, 3) := by decide +kernel
theorem dX12_wedding_197 : decode cX12_wedding 197 = .ok (.iload_n 1, 1) := by decide +kernel
theorem dX12_wedding_198 : decode cX12_wedding 198 = .ok (.aload_n 0, 1) := by decide +kernel
theorem dX12_wedding_199 : decode cX12_wedding 199 = .ok (.getfield 64, 3) := by decide +kernel
theorem dX12_wedding_202 : decode cX12_wedding 202 = .ok (.iload_n 1, 1) := by decide +kernel
theorem dX12_wedding_203 : decode cX12_wedding 203 = .ok (.iaload, 1) := by decide +kernel
theorem dX12_wedding_204 : decode cX12_wedding 204 = .ok (.iastore, 1) := by decide +kernel
theorem dX12_wedding_205 : decode cX12_wedding 205 = .ok (.aload_n 0, 1) := by decide +kernel
theorem dX12_wedding_206 : decode cX12_wedding 206 = .ok (.getfield 88, 3) := by decide +kernel
theorem dX12_wedding_209 : decode cX12_wedding 209 = .ok (.iload_n 1, 1) := by decide +kernel
theorem dX12_wedding_210 : decode cX12_wedding 210 = .ok (.aload_n 0, 1) := by decide +kernel
theorem dX12_wedding_211 : decode cX12_wedding 211 = .ok (.getfield 67, 3) := by decide +kernel
theorem dX12_wedding_214 : decode cX12_wedding 214 = .ok (.iload_n 1, 1) := by decide +kernel
theorem dX12_wedding_215 : decode cX12_wedding 215 = .ok (.iaload, 1) := by decide +kernel
theorem dX12_wedding_216 : decode cX12_wedding 216 = .ok (.iastore, 1) := by decide +kernel
theorem dX12_wedding_217 : decode cX12_wedding 217 = .ok (.iinc 1 1, 3) := by decide +kernel
theorem dX12_wedding_220 : decode cX12_wedding 220 = .ok (.goto (-83), 3) := by decide +kernel
theorem dX12_wedding_223 : decode cX12_wedding 223 = .ok (.iconst 0, 1) := by decide +kernel
theorem dX12_wedding_224 : decode cX12_wedding 224 = .ok (.istore_n 1, 1) := by decide +kernel
theorem dX12_wedding_225 : decode cX12_wedding 225 = .ok (.iload_n 1, 1) := by decide +kernel
theorem dX12_wedding_226 : decode cX12_wedding 226 = .ok (.bipush 7, 2) := by decide +kernel
theorem dX12_wedding_228 : decode cX12_wedding 228 = .ok (.aload_n 0, 1) := by decide +kernel
theorem dX12_wedding_229 : decode cX12_wedding 229 = .ok (.getfield 323, 3) := by decide +kernel
theorem dX12_wedding_232 : decode cX12_wedding 232 = .ok (.imul, 1) := by decide +kernel
theorem dX12_wedding_233 : decode cX12_wedding 233 = .ok (.if_icmp .ge 21, 3) := by decide +kernel
theorem dX12_wedding_236 : decode cX12_wedding 236 = .ok (.aload_n 0, 1) := by decide +kernel
theorem dX12_wedding_237 : decode cX12_wedding 237 = .ok (.getfield 91, 3) := by decide +kernel
theorem dX12_wedding_240 : decode cX12_wedding 240 = .ok (.iload_n 1, 1) := by decide +kernel
theorem dX12_wedding_241 : decode cX12_wedding 241 = .ok (.aload_n 0, 1) := by decide +kernel
theorem dX12_wedding_242 : decode cX12_wedding 242 = .ok (.getfield 70, 3) := by decide +kernel
theorem dX12_wedding_245 : decode cX12_wedding 245 = .ok (.iload_n 1, 1) := by decide +kernel
theorem dX12_wedding_246 : decode cX12_wedding 246 = .ok (.iaload, 1) := by decide +kernel
theorem dX12_wedding_247 : decode cX12_wedding 247 = .ok (.iastore, 1) := by decide +kernel
theorem dX12_wedding_248 : decode cX12_wedding 248 = .ok (.iinc 1 1, 3) := by decide +kernel
theorem dX12_wedding_251 : decode cX12_wedding 251 = .ok (.goto (-26), 3) := by decide +kernel
theorem dX12_wedding_254 : decode cX12_wedding 254 = .ok (.aload_n 0, 1) := by decide +kernel
theorem dX12_wedding_255 : decode cX12_wedding 255 = .ok (.invokevirtual 400, 3) := by decide +kernel
theorem dX12_wedding_258 : decode cX12_wedding 258 = .ok (.aload_n 0, 1) := by decide +kernel
theorem dX12_wedding_259 : decode cX12_wedding 259 = .ok (.getfield 100, 3) := by decide +kernel
theorem dX12_wedding_262 : decode cX12_wedding 262 = .ok (.bipush 23, 2) := by decide +kernel
theorem dX12_wedding_264 : decode cX12_wedding 264 = .ok (.aload_n 0, 1) := by decide +kernel
theorem dX12_wedding_265 : decode cX12_wedding 265 = .ok (.getfield 385, 3) := by decide +kernel
theorem dX12_wedding_268 : decode cX12_wedding 268 = .ok (.iastore, 1) := by decide +kernel
theorem dX12_wedding_269 : decode cX12_wedding 269 = .ok (.aload_n 0, 1) := by decide +kernel
theorem dX12_wedding_270 : decode cX12_wedding 270 = .ok (.invokevirtual 403, 3) := by decide +kernel
theorem dX12_wedding_273 : decode cX12_wedding 273 = .ok (.aload_n 0, 1) := by decide +kernel
theorem dX12_wedding_274 : decode cX12_wedding 274 = .ok (.iconst 0, 1) := by decide +kernel
theorem dX12_wedding_275 : decode cX12_wedding 275 = .ok (.putfield 406, 3) := by decide +kernel
theorem dX12_wedding_278 : decode cX12_wedding 278 = .ok (.aload_n 0, 1) := by decide +kernel
theorem dX12_wedding_279 : decode cX12_wedding 279 = .ok (.iconst 0, 1) := by decide +kernel
theorem dX12_wedding_280 : decode cX12_wedding 280 = .ok (.putfield 409, 3) := by decide +kernel
theorem dX12_wedding_283 : decode cX12_wedding 283 = .ok (.aload_n 0, 1) := by decide +kernel
theorem dX12_wedding_284 : decode cX12_wedding 284 = .ok (.iconst 0, 1) := by decide +kernel
theorem dX12_wedding_285 : decode cX12_wedding 285 = .ok (.putfield 412, 3) := by decide +kernel
theorem dX12_wedding_288 : decode cX12_wedding 288 = .ok (.aload_n 0, 1) := by decide +kernel
theorem dX12_wedding_289 : decode cX12_wedding 289 = .ok (.iconst 0, 1) := by decide +kernel
theorem dX12_wedding_290 : decode cX12_wedding 290 = .ok (.putfield 415, 3) := by decide +kernel
theorem dX12_wedding_293 : decode cX12_wedding 293 = .ok (.iconst 0, 1) := by decide +kernel
theorem dX12_wedding_294 : decode cX12_wedding 294 = .ok (.istore_n 1, 1) := by decide +kernel
theorem dX12_wedding_295 : decode cX12_wedding 295 = .ok (.iload_n 1, 1) := by decide +kernel
theorem dX12_wedding_296 : decode cX12_wedding 296 = .ok (.iconst 3, 1) := by decide +kernel
theorem dX12_wedding_297 : decode cX12_wedding 297 = .ok (.if_icmp .ge 16, 3) := by decide +kernel
theorem dX12_wedding_300 : decode cX12_wedding 300 = .ok (.aload_n 0, 1) := by decide +kernel
theorem dX12_wedding_301 : decode cX12_wedding 301 = .ok (.getfield 142, 3) := by decide +kernel
theorem dX12_wedding_304 : decode cX12_wedding 304 = .ok (.iload_n 1, 1) := by decide +kernel
theorem dX12_wedding_305 : decode cX12_wedding 305 = .ok (.iconst 0, 1) := by decide +kernel
theorem dX12_wedding_306 : decode cX12_wedding 306 = .ok (.bastore, 1) := by decide +kernel
theorem dX12_wedding_307 : decode cX12_wedding 307 = .ok (.iinc 1 1, 3) := by decide +kernel
theorem dX12_wedding_310 : decode cX12_wedding 310 = .ok (.goto (-15), 3) := by decide +kernel
theorem dX12_wedding_313 : decode cX12_wedding 313 = .ok (.aload_n 0, 1) := by decide +kernel
theorem dX12_wedding_314 : decode cX12_wedding 314 = .ok (.getfield 323, 3) := by decide +kernel
theorem dX12_wedding_317 : decode cX12_wedding 317 = .ok (.ireturn, 1) := by decide +kernel
theorem dX12_fault_0 : decode cX12_fault 0 = .ok (.iload_n 1, 1) := by decide +kernel
theorem dX12_fault_1 : decode cX12_fault 1 = .ok (.ifCond .ne 10, 3) := by decide +kernel
theorem dX12_fault_4 : decode cX12_fault 4 = .ok (.aload_n 0, 1) := by decide +kernel
theorem dX12_fault_5 : decode cX12_fault 5 = .ok (.getfield 188, 3) := by decide +kernel
theorem dX12_fault_8 : decode cX12_fault 8 = .ok (.goto 16, 3) := by decide +kernel
theorem dX12_fault_11 : decode cX12_fault 11 = .ok (.iload_n 1, 1) := by decide +kernel
theorem dX12_fault_12 : decode cX12_fault 12 = .ok (.iconst 1, 1) := by decide +kernel
theorem dX12_fault_13 : decode cX12_fault 13 = .ok (.if_icmp .ne 10, 3) := by decide +kernel
theorem dX12_fault_16 : decode cX12_fault 16 = .ok (.aload_n 0, 1) := by decide +kernel
theorem dX12_fault_17 : decode cX12_fault 17 = .ok (.getfield 13, 3) := by decide +kernel
theorem dX12_fault_20 : decode cX12_fault 20 = .ok (.goto 4, 3) := by decide +kernel
theorem dX12_fault_23 : decode cX12_fault 23 = .ok (.iconst (-1), 1) := by decide +kernel
theorem dX12_fault_24 : decode cX12_fault 24 = .ok (.ireturn, 1) := by decide +kernel
theorem dX12_isIn_0 : decode cX12_isIn 0 = .ok (.iload_n 0, 1) := by decide +kernel
theorem dX12_isIn_1 : decode cX12_isIn 1 = .ok (.iload_n 1, 1) := by decide +kernel
theorem dX12_isIn_2 : decode cX12_isIn 2 = .ok (.if_icmp .lt 12, 3) := by decide +kernel
theorem dX12_isIn_5 : decode cX12_isIn 5 = .ok (.iload_n 0, 1) := by decide +kernel
theorem dX12_isIn_6 : decode cX12_isIn 6 = .ok (.iload_n 2, 1) := by decide +kernel
theorem dX12_isIn_7 : decode cX12_isIn 7 = .ok (.if_icmp .gt 7, 3) := by decide +kernel
theorem dX12_isIn_10 : decode cX12_isIn 10 = .ok (.iconst 1, 1) := by decide +kernel
theorem dX12_isIn_11 : decode cX12_isIn 11 = .ok (.goto 4, 3) := by decide +kernel
theorem dX12_isIn_14 : decode cX12_isIn 14 = .ok (.iconst 0, 1) := by decide +kernel
theorem dX12_isIn_15 : decode cX12_isIn 15 = .ok (.ireturn, 1) := by decide +kernel
theorem dX12_isOne_0 : decode cX12_isOne 0 = .ok (.iload_n 1, 1) := by decide +kernel
theorem dX12_isOne_1 : decode cX12_isOne 1 = .ok (.iconst 0, 1) := by decide +kernel
theorem dX12_isOne_2 : decode cX12_isOne 2 = .ok (.aload_n 0, 1) := by decide +kernel
theorem dX12_isOne_3 : decode cX12_isOne 3 = .ok (.getfield 323, 3) := by decide +kernel
theorem dX12_isOne_6 : decode cX12_isOne 6 = .ok (.iconst 1, 1) := by decide +kernel
theorem dX12_isOne_7 : decode cX12_isOne 7 = .ok (.isub, 1) := by decide +kernel
theorem dX12_isOne_8 : decode cX12_isOne 8 = .ok (.invokestatic 418, 3) := by decide +kernel
theorem dX12_isOne_11 : decode cX12_isOne 11 = .ok (.ireturn, 1) := by decide +kernel
theorem dX12_all_0 : decode cX12_all 0 = .ok (.iconst 1, 1) := by decide +kernel
theorem dX12_all_1 : decode cX12_all 1 = .ok (.aload_n 0, 1) := by decide +kernel
theorem dX12_all_2 : decode cX12_all 2 = .ok (.getfield 323, 3) := by decide +kernel
theorem dX12_all_5 : decode cX12_all 5 = .ok (.ishl, 1) := by decide +kernel
theorem dX12_all_6 : decode cX12_all 6 = .ok (.iconst 1, 1) := by decide +kernel
theorem dX12_all_7 : decode cX12_all 7 = .ok (.isub, 1) := by decide +kernel
theorem dX12_all_8 : decode cX12_all 8 = .ok (.ireturn, 1) := by decide +kernel
theorem dX12_members_0 : decode cX12_members 0 = .ok (.iconst 0, 1) := by decide +kernel
theorem dX12_members_1 : decode cX12_members 1 = .ok (.istore_n 1, 1) := by decide +kernel
theorem dX12_members_2 : decode cX12_members 2 = .ok (.iconst 0, 1) := by decide +kernel
theorem dX12_members_3 : decode cX12_members 3 = .ok (.istore_n 2, 1) := by decide +kernel
theorem dX12_members_4 : decode cX12_members 4 = .ok (.iload_n 2, 1) := by decide +kernel
theorem dX12_members_5 : decode cX12_members 5 = .ok (.bipush 7, 2) := by decide +kernel
theorem dX12_members_7 : decode cX12_members 7 = .ok (.if_icmp .ge 17, 3) := by decide +kernel
theorem dX12_members_10 : decode cX12_members 10 = .ok (.iload_n 1, 1) := by decide +kernel
theorem dX12_members_11 : decode cX12_members 11 = .ok (.iload_n 0, 1) := by decide +kernel
theorem dX12_members_12 : decode cX12_members 12 = .ok (.iload_n 2, 1) := by decide +kernel
theorem dX12_members_13 : decode cX12_members 13 = .ok (.ishr, 1) := by decide +kernel
theorem dX12_members_14 : decode cX12_members 14 = .ok (.iconst 1, 1) := by decide +kernel
theorem dX12_members_15 : decode cX12_members 15 = .ok (.iand, 1) := by decide +kernel
theorem dX12_members_16 : decode cX12_members 16 = .ok (.iadd, 1) := by decide +kernel
theorem dX12_members_17 : decode cX12_members 17 = .ok (.istore_n 1, 1) := by decide +kernel
theorem dX12_members_18 : decode cX12_members 18 = .ok (.iinc 2 1, 3) := by decide +kernel
theorem dX12_members_21 : decode cX12_members 21 = .ok (.goto (-17), 3) := by decide +kernel
theorem dX12_members_24 : decode cX12_members 24 = .ok (.iload_n 1, 1) := by decide +kernel
theorem dX12_members_25 : decode cX12_members 25 = .ok (.ireturn, 1) := by decide +kernel
theorem dX12_load_0 : decode cX12_load 0 = .ok (.iconst 0, 1) := by decide +kernel
theorem dX12_load_1 : decode cX12_load 1 = .ok (.istore_n 1, 1) := by decide +kernel
theorem dX12_load_2 : decode cX12_load 2 = .ok (.iload_n 1, 1) := by decide +kernel
theorem dX12_load_3 : decode cX12_load 3 = .ok (.bipush 24, 2) := by decide +kernel
theorem dX12_load_5 : decode cX12_load 5 = .ok (.if_icmp .ge 21, 3) := by decide +kernel
theorem dX12_load_8 : decode cX12_load 8 = .ok (.aload_n 0, 1) := by decide +kernel
theorem dX12_load_9 : decode cX12_load 9 = .ok (.getfield 100, 3) := by decide +kernel
theorem dX12_load_12 : decode cX12_load 12 = .ok (.iload_n 1, 1) := by decide +kernel
theorem dX12_load_13 : decode cX12_load 13 = .ok (.aload_n 0, 1) := by decide +kernel
theorem dX12_load_14 : decode cX12_load 14 = .ok (.getfield 97, 3) := by decide +kernel
theorem dX12_load_17 : decode cX12_load 17 = .ok (.iload_n 1, 1) := by decide +kernel
theorem dX12_load_18 : decode cX12_load 18 = .ok (.iaload, 1) := by decide +kernel
theorem dX12_load_19 : decode cX12_load 19 = .ok (.iastore, 1) := by decide +kernel
theorem dX12_load_20 : decode cX12_load 20 = .ok (.iinc 1 1, 3) := by decide +kernel
theorem dX12_load_23 : decode cX12_load 23 = .ok (.goto (-21), 3) := by decide +kernel
theorem dX12_load_26 : decode cX12_load 26 = .ok (.return_, 1) := by decide +kernel
theorem dX12_keepAir_0 : decode cX12_keepAir 0 = .ok (.iconst 0, 1) := by decide +kernel
theorem dX12_keepAir_1 : decode cX12_keepAir 1 = .ok (.istore_n 1, 1) := by decide +kernel
theorem dX12_keepAir_2 : decode cX12_keepAir 2 = .ok (.iload_n 1, 1) := by decide +kernel
theorem dX12_keepAir_3 : decode cX12_keepAir 3 = .ok (.bipush 24, 2) := by decide +kernel
theorem dX12_keepAir_5 : decode cX12_keepAir 5 = .ok (.if_icmp .ge 21, 3) := by decide +kernel
theorem dX12_keepAir_8 : decode cX12_keepAir 8 = .ok (.aload_n 0, 1) := by decide +kernel
theorem dX12_keepAir_9 : decode cX12_keepAir 9 = .ok (.getfield 97, 3) := by decide +kernel
theorem dX12_keepAir_12 : decode cX12_keepAir 12 = .ok (.iload_n 1, 1) := by decide +kernel
theorem dX12_keepAir_13 : decode cX12_keepAir 13 = .ok (.aload_n 0, 1) := by decide +kernel
theorem dX12_keepAir_14 : decode cX12_keepAir 14 = .ok (.getfield 100, 3) := by decide +kernel
theorem dX12_keepAir_17 : decode cX12_keepAir 17 = .ok (.iload_n 1, 1) := by decide +kernel
theorem dX12_keepAir_18 : decode cX12_keepAir 18 = .ok (.iaload, 1) := by decide +kernel
theorem dX12_keepAir_19 : decode cX12_keepAir 19 = .ok (.iastore, 1) := by decide +kernel
theorem dX12_keepAir_20 : decode cX12_keepAir 20 = .ok (.iinc 1 1, 3) := by decide +kernel
theorem dX12_keepAir_23 : decode cX12_keepAir 23 = .ok (.goto (-21), 3) := by decide +kernel
theorem dX12_keepAir_26 : decode cX12_keepAir 26 = .ok (.return_, 1) := by decide +kernel
theorem dX12_begin_0 : decode cX12_begin 0 = .ok (.iconst 0, 1) := by decide +kernel
theorem dX12_begin_1 : decode cX12_begin 1 = .ok (.istore_n 1, 1) := by decide +kernel
theorem dX12_begin_2 : decode cX12_begin 2 = .ok (.iload_n 1, 1) := by decide +kernel
theorem dX12_begin_3 : decode cX12_begin 3 = .ok (.bipush 24, 2) := by decide +kernel
theorem dX12_begin_5 : decode cX12_begin 5 = .ok (.if_icmp .ge 16, 3) := by decide +kernel
theorem dX12_begin_8 : decode cX12_begin 8 = .ok (.aload_n 0, 1) := by decide +kernel
theorem dX12_begin_9 : decode cX12_begin 9 = .ok (.getfield 100, 3) := by decide +kernel
theorem dX12_begin_12 : decode cX12_begin 12 = .ok (.iload_n 1, 1) := by decide +kernel
theorem dX12_begin_13 : decode cX12_begin 13 = .ok (.iconst 0, 1) := by decide +kernel
theorem dX12_begin_14 : decode cX12_begin 14 = .ok (.iastore, 1) := by decide +kernel
theorem dX12_begin_15 : decode cX12_begin 15 = .ok (.iinc 1 1, 3) := by decide +kernel
theorem dX12_begin_18 : decode cX12_begin 18 = .ok (.goto (-16), 3) := by decide +kernel
theorem dX12_begin_21 : decode cX12_begin 21 = .ok (.iconst 0, 1) := by decide +kernel
theorem dX12_begin_22 : decode cX12_begin 22 = .ok (.istore_n 1, 1) := by decide +kernel
theorem dX12_begin_23 : decode cX12_begin 23 = .ok (.iload_n 1, 1) := by decide +kernel
theorem dX12_begin_24 : decode cX12_begin 24 = .ok (.aload_n 0, 1) := by decide +kernel
theorem dX12_begin_25 : decode cX12_begin 25 = .ok (.getfield 323, 3) := by decide +kernel
theorem dX12_begin_28 : decode cX12_begin 28 = .ok (.if_icmp .ge 43, 3) := by decide +kernel
theorem dX12_begin_31 : decode cX12_begin 31 = .ok (.aload_n 0, 1) := by decide +kernel
theorem dX12_begin_32 : decode cX12_begin 32 = .ok (.getfield 100, 3) := by decide +kernel
theorem dX12_begin_35 : decode cX12_begin 35 = .ok (.iload_n 1, 1) := by decide +kernel
theorem dX12_begin_36 : decode cX12_begin 36 = .ok (.aload_n 0, 1) := by decide +kernel
theorem dX12_begin_37 : decode cX12_begin 37 = .ok (.getfield 394, 3) := by decide +kernel
theorem dX12_begin_40 : decode cX12_begin 40 = .ok (.iload_n 1, 1) := by decide +kernel
theorem dX12_begin_41 : decode cX12_begin 41 = .ok (.ishr, 1) := by decide +kernel
theorem dX12_begin_42 : decode cX12_begin 42 = .ok (.iconst 1, 1) := by decide +kernel
theorem dX12_begin_43 : decode cX12_begin 43 = .ok (.iand, 1) := by decide +kernel
theorem dX12_begin_44 : decode cX12_begin 44 = .ok (.iconst 1, 1) := by decide +kernel
theorem dX12_begin_45 : decode cX12_begin 45 = .ok (.if_icmp .ne 8, 3) := by decide +kernel
theorem dX12_begin_48 : decode cX12_begin 48 = .ok (.bipush 6, 2) := by decide +kernel
theorem dX12_begin_50 : decode cX12_begin 50 = .ok (.goto 4, 3) := by decide +kernel
theorem dX12_begin_53 : decode cX12_begin 53 = .ok (.iconst 0, 1) := by decide +kernel
theorem dX12_begin_54 : decode cX12_begin 54 = .ok (.iastore, 1) := by decide +kernel
theorem dX12_begin_55 : decode cX12_begin 55 = .ok (.aload_n 0, 1) := by decide +kernel
theorem dX12_begin_56 : decode cX12_begin 56 = .ok (.getfield 100, 3) := by decide +kernel
theorem dX12_begin_59 : decode cX12_begin 59 = .ok (.bipush 14, 2) := by decide +kernel
theorem dX12_begin_61 : decode cX12_begin 61 = .ok (.iload_n 1, 1) := by decide +kernel
theorem dX12_begin_62 : decode cX12_begin 62 = .ok (.iadd, 1) := by decide +kernel
theorem dX12_begin_63 : decode cX12_begin 63 = .ok (.iload_n 1, 1) := by decide +kernel
theorem dX12_begin_64 : decode cX12_begin 64 = .ok (.iastore, 1) := by decide +kernel
theorem dX12_begin_65 : decode cX12_begin 65 = .ok (.iinc 1 1, 3) := by decide +kernel
theorem dX12_begin_68 : decode cX12_begin 68 = .ok (.goto (-45), 3) := by decide +kernel
theorem dX12_begin_71 : decode cX12_begin 71 = .ok (.return_, 1) := by decide +kernel
theorem dX12_thatAre_0 : decode cX12_thatAre 0 = .ok (.iconst 0, 1) := by decide +kernel
theorem dX12_thatAre_1 : decode cX12_thatAre 1 = .ok (.istore_n 2, 1) := by decide +kernel
theorem dX12_thatAre_2 : decode cX12_thatAre 2 = .ok (.iconst 0, 1) := by decide +kernel
theorem dX12_thatAre_3 : decode cX12_thatAre 3 = .ok (.istore_n 3, 1) := by decide +kernel
theorem dX12_thatAre_4 : decode cX12_thatAre 4 = .ok (.iload_n 3, 1) := by decide +kernel
theorem dX12_thatAre_5 : decode cX12_thatAre 5 = .ok (.aload_n 0, 1) := by decide +kernel
theorem dX12_thatAre_6 : decode cX12_thatAre 6 = .ok (.getfield 323, 3) := by decide +kernel
theorem dX12_thatAre_9 : decode cX12_thatAre 9 = .ok (.if_icmp .ge 32, 3) := by decide +kernel
theorem dX12_thatAre_12 : decode cX12_thatAre 12 = .ok (.iload_n 2, 1) := by decide +kernel
theorem dX12_thatAre_13 : decode cX12_thatAre 13 = .ok (.aload_n 0, 1) := by decide +kernel
theorem dX12_thatAre_14 : decode cX12_thatAre 14 = .ok (.getfield 100, 3) := by decide +kernel
theorem dX12_thatAre_17 : decode cX12_thatAre 17 = .ok (.iload_n 3, 1) := by decide +kernel
theorem dX12_thatAre_18 : decode cX12_thatAre 18 = .ok (.iaload, 1) := by decide +kernel
theorem dX12_thatAre_19 : decode cX12_thatAre 19 = .ok (.iload_n 1, 1) := by decide +kernel
theorem dX12_thatAre_20 : decode cX12_thatAre 20 = .ok (.if_icmp .ne 7, 3) := by decide +kernel
theorem dX12_thatAre_23 : decode cX12_thatAre 23 = .ok (.iconst 1, 1) := by decide +kernel
theorem dX12_thatAre_24 : decode cX12_thatAre 24 = .ok (.goto 4, 3) := by decide +kernel
theorem dX12_thatAre_27 : decode cX12_thatAre 27 = .ok (.iconst 0, 1) := by decide +kernel
theorem dX12_thatAre_28 : decode cX12_thatAre 28 = .ok (.invokestatic 319, 3) := by decide +kernel
theorem dX12_thatAre_31 : decode cX12_thatAre 31 = .ok (.iload_n 3, 1) := by decide +kernel
theorem dX12_thatAre_32 : decode cX12_thatAre 32 = .ok (.ishl, 1) := by decide +kernel
theorem dX12_thatAre_33 : decode cX12_thatAre 33 = .ok (.ior, 1) := by decide +kernel
theorem dX12_thatAre_34 : decode cX12_thatAre 34 = .ok (.istore_n 2, 1) := by decide +kernel
theorem dX12_thatAre_35 : decode cX12_thatAre 35 = .ok (.iinc 3 1, 3) := by decide +kernel
theorem dX12_thatAre_38 : decode cX12_thatAre 38 = .ok (.goto (-34), 3) := by decide +kernel
theorem dX12_thatAre_41 : decode cX12_thatAre 41 = .ok (.iload_n 2, 1) := by decide +kernel
theorem dX12_thatAre_42 : decode cX12_thatAre 42 = .ok (.ireturn, 1) := by decide +kernel
theorem dX12_rankOf_0 : decode cX12_rankOf 0 = .ok (.aload_n 0, 1) := by decide +kernel
theorem dX12_rankOf_1 : decode cX12_rankOf 1 = .ok (.iconst 0, 1) := by decide +kernel
theorem dX12_rankOf_2 : decode cX12_rankOf 2 = .ok (.iload_n 1, 1) := by decide +kernel
theorem dX12_rankOf_3 : decode cX12_rankOf 3 = .ok (.aload_n 0, 1) := by decide +kernel
theorem dX12_rankOf_4 : decode cX12_rankOf 4 = .ok (.getfield 73, 3) := by decide +kernel
theorem dX12_rankOf_7 : decode cX12_rankOf 7 = .ok (.iload_n 1, 1) := by decide +kernel
theorem dX12_rankOf_8 : decode cX12_rankOf 8 = .ok (.iaload, 1) := by decide +kernel
theorem dX12_rankOf_9 : decode cX12_rankOf 9 = .ok (.aload_n 0, 1) := by decide +kernel
theorem dX12_rankOf_10 : decode cX12_rankOf 10 = .ok (.getfield 73, 3) := by decide +kernel
theorem dX12_rankOf_13 : decode cX12_rankOf 13 = .ok (.iload_n 1, 1) := by decide +kernel
theorem dX12_rankOf_14 : decode cX12_rankOf 14 = .ok (.iaload, 1) := by decide +kernel
theorem dX12_rankOf_15 : decode cX12_rankOf 15 = .ok (.invokevirtual 422, 3) := by decide +kernel
theorem dX12_rankOf_18 : decode cX12_rankOf 18 = .ok (.ireturn, 1) := by decide +kernel
theorem dX12_isAhead_0 : decode cX12_isAhead 0 = .ok (.iload_n 2, 1) := by decide +kernel
theorem dX12_isAhead_1 : decode cX12_isAhead 1 = .ok (.iload 4, 2) := by decide +kernel
theorem dX12_isAhead_3 : decode cX12_isAhead 3 = .ok (.if_icmp .gt 30, 3) := by decide +kernel
theorem dX12_isAhead_6 : decode cX12_isAhead 6 = .ok (.iload_n 2, 1) := by decide +kernel
theorem dX12_isAhead_7 : decode cX12_isAhead 7 = .ok (.iload 4, 2) := by decide +kernel
theorem dX12_isAhead_9 : decode cX12_isAhead 9 = .ok (.if_icmp .ne 28, 3) := by decide +kernel
theorem dX12_isAhead_12 : decode cX12_isAhead 12 = .ok (.aload_n 0, 1) := by decide +kernel
theorem dX12_isAhead_13 : decode cX12_isAhead 13 = .ok (.getfield 100, 3) := by decide +kernel
theorem dX12_isAhead_16 : decode cX12_isAhead 16 = .ok (.bipush 14, 2) := by decide +kernel
theorem dX12_isAhead_18 : decode cX12_isAhead 18 = .ok (.iload_n 1, 1) := by decide +kernel
theorem dX12_isAhead_19 : decode cX12_isAhead 19 = .ok (.iadd, 1) := by decide +kernel
theorem dX12_isAhead_20 : decode cX12_isAhead 20 = .ok (.iaload, 1) := by decide +kernel
theorem dX12_isAhead_21 : decode cX12_isAhead 21 = .ok (.aload_n 0, 1) := by decide +kernel
theorem dX12_isAhead_22 : decode cX12_isAhead 22 = .ok (.getfield 100, 3) := by decide +kernel
theorem dX12_isAhead_25 : decode cX12_isAhead 25 = .ok (.bipush 14, 2) := by decide +kernel
theorem dX12_isAhead_27 : decode cX12_isAhead 27 = .ok (.iload_n 3, 1) := by decide +kernel
theorem dX12_isAhead_28 : decode cX12_isAhead 28 = .ok (.iadd, 1) := by decide +kernel
theorem dX12_isAhead_29 : decode cX12_isAhead 29 = .ok (.iaload, 1) := by decide +kernel
theorem dX12_isAhead_30 : decode cX12_isAhead 30 = .ok (.if_icmp .ge 7, 3) := by decide +kernel
theorem dX12_isAhead_33 : decode cX12_isAhead 33 = .ok (.iconst 1, 1) := by decide +kernel
theorem dX12_isAhead_34 : decode cX12_isAhead 34 = .ok (.goto 4, 3) := by decide +kernel
theorem dX12_isAhead_37 : decode cX12_isAhead 37 = .ok (.iconst 0, 1) := by decide +kernel
theorem dX12_isAhead_38 : decode cX12_isAhead 38 = .ok (.ireturn, 1) := by decide +kernel
theorem dX12_turnOf_0 : decode cX12_turnOf 0 = .ok (.iconst (-1), 1) := by decide +kernel
theorem dX12_turnOf_1 : decode cX12_turnOf 1 = .ok (.istore_n 1, 1) := by decide +kernel
theorem dX12_turnOf_2 : decode cX12_turnOf 2 = .ok (.iconst 0, 1) := by decide +kernel
theorem dX12_turnOf_3 : decode cX12_turnOf 3 = .ok (.istore_n 2, 1) := by decide +kernel
theorem dX12_turnOf_4 : decode cX12_turnOf 4 = .ok (.iload_n 2, 1) := by decide +kernel
theorem dX12_turnOf_5 : decode cX12_turnOf 5 = .ok (.aload_n 0, 1) := by decide +kernel
theorem dX12_turnOf_6 : decode cX12_turnOf 6 = .ok (.getfield 323, 3) := by decide +kernel
theorem dX12_turnOf_9 : decode cX12_turnOf 9 = .ok (.if_icmp .ge 43, 3) := by decide +kernel
theorem dX12_turnOf_12 : decode cX12_turnOf 12 = .ok (.aload_n 0, 1) := by decide +kernel
theorem dX12_turnOf_13 : decode cX12_turnOf 13 = .ok (.getfield 100, 3) := by decide +kernel
theorem dX12_turnOf_16 : decode cX12_turnOf 16 = .ok (.iload_n 2, 1) := by decide +kernel
theorem dX12_turnOf_17 : decode cX12_turnOf 17 = .ok (.iaload, 1) := by decide +kernel
theorem dX12_turnOf_18 : decode cX12_turnOf 18 = .ok (.ifCond .ne 28, 3) := by decide +kernel
theorem dX12_turnOf_21 : decode cX12_turnOf 21 = .ok (.iload_n 1, 1) := by decide +kernel
theorem dX12_turnOf_22 : decode cX12_turnOf 22 = .ok (.ifCond .lt 22, 3) := by decide +kernel
theorem dX12_turnOf_25 : decode cX12_turnOf 25 = .ok (.aload_n 0, 1) := by decide +kernel
theorem dX12_turnOf_26 : decode cX12_turnOf 26 = .ok (.iload_n 2, 1) := by decide +kernel
theorem dX12_turnOf_27 : decode cX12_turnOf 27 = .ok (.aload_n 0, 1) := by decide +kernel
theorem dX12_turnOf_28 : decode cX12_turnOf 28 = .ok (.iload_n 2, 1) := by decide +kernel
theorem dX12_turnOf_29 : decode cX12_turnOf 29 = .ok (.invokevirtual 426, 3) := by decide +kernel
theorem dX12_turnOf_32 : decode cX12_turnOf 32 = .ok (.iload_n 1, 1) := by decide +kernel
theorem dX12_turnOf_33 : decode cX12_turnOf 33 = .ok (.aload_n 0, 1) := by decide +kernel
theorem dX12_turnOf_34 : decode cX12_turnOf 34 = .ok (.iload_n 1, 1) := by decide +kernel
theorem dX12_turnOf_35 : decode cX12_turnOf 35 = .ok (.invokevirtual 426, 3) := by decide +kernel
theorem dX12_turnOf_38 : decode cX12_turnOf 38 = .ok (.invokevirtual 429, 3) := by decide +kernel
theorem dX12_turnOf_41 : decode cX12_turnOf 41 = .ok (.ifCond .eq 5, 3) := by decide +kernel
theorem dX12_turnOf_44 : decode cX12_turnOf 44 = .ok (.iload_n 2, 1) := by decide +kernel
theorem dX12_turnOf_45 : decode cX12_turnOf 45 = .ok (.istore_n 1, 1) := by decide +kernel
theorem dX12_turnOf_46 : decode cX12_turnOf 46 = .ok (.iinc 2 1, 3) := by decide +kernel
theorem dX12_turnOf_49 : decode cX12_turnOf 49 = .ok (.goto (-45), 3) := by decide +kernel
theorem dX12_turnOf_52 : decode cX12_turnOf 52 = .ok (.iload_n 1, 1) := by decide +kernel
theorem dX12_turnOf_53 : decode cX12_turnOf 53 = .ok (.ireturn, 1) := by decide +kernel
theorem dX12_leave_0 : decode cX12_leave 0 = .ok (.iconst 0, 1) := by decide +kernel
theorem dX12_leave_1 : decode cX12_leave 1 = .ok (.istore_n 1, 1) := by decide +kernel
theorem dX12_leave_2 : decode cX12_leave 2 = .ok (.iconst 0, 1) := by decide +kernel
theorem dX12_leave_3 : decode cX12_leave 3 = .ok (.istore_n 2, 1) := by decide +kernel
theorem dX12_leave_4 : decode cX12_leave 4 = .ok (.iload_n 2, 1) := by decide +kernel
theorem dX12_leave_5 : decode cX12_leave 5 = .ok (.aload_n 0, 1) := by decide +kernel
theorem dX12_leave_6 : decode cX12_leave 6 = .ok (.getfield 323, 3) := by decide +kernel
theorem dX12_leave_9 : decode cX12_leave 9 = .ok (.if_icmp .ge 57, 3) := by decide +kernel
theorem dX12_leave_12 : decode cX12_leave 12 = .ok (.aload_n 0, 1) := by decide +kernel
theorem dX12_leave_13 : decode cX12_leave 13 = .ok (.getfield 100, 3) := by decide +kernel
theorem dX12_leave_16 : decode cX12_leave 16 = .ok (.iload_n 2, 1) := by decide +kernel
theorem dX12_leave_17 : decode cX12_leave 17 = .ok (.iaload, 1) := by decide +kernel
theorem dX12_leave_18 : decode cX12_leave 18 = .ok (.ifCond .ne 42, 3) := by decide +kernel
theorem dX12_leave_21 : decode cX12_leave 21 = .ok (.aload_n 0, 1) := by decide +kernel
theorem dX12_leave_22 : decode cX12_leave 22 = .ok (.getfield 100, 3) := by decide +kernel
theorem dX12_leave_25 : decode cX12_leave 25 = .ok (.bipush 21, 2) := by decide +kernel
theorem dX12_leave_27 : decode cX12_leave 27 = .ok (.iaload, 1) := by decide +kernel
theorem dX12_leave_28 : decode cX12_leave 28 = .ok (.aload_n 0, 1) := by decide +kernel
theorem dX12_leave_29 : decode cX12_leave 29 = .ok (.getfield 100, 3) := by decide +kernel
theorem dX12_leave_32 : decode cX12_leave 32 = .ok (.bipush 7, 2) := by decide +kernel
theorem dX12_leave_34 : decode cX12_leave 34 = .ok (.iload_n 2, 1) := by decide +kernel
theorem dX12_leave_35 : decode cX12_leave 35 = .ok (.iadd, 1) := by decide +kernel
theorem dX12_leave_36 : decode cX12_leave 36 = .ok (.iaload, 1) := by decide +kernel
theorem dX12_leave_37 : decode cX12_leave 37 = .ok (.isub, 1) := by decide +kernel
theorem dX12_leave_38 : decode cX12_leave 38 = .ok (.aload_n 0, 1) := by decide +kernel
theorem dX12_leave_39 : decode cX12_leave 39 = .ok (.getfield 79, 3) := by decide +kernel
theorem dX12_leave_42 : decode cX12_leave 42 = .ok (.iload_n 2, 1) := by decide +kernel
theorem dX12_leave_43 : decode cX12_leave 43 = .ok (.iaload, 1) := by decide +kernel
theorem dX12_leave_44 : decode cX12_leave 44 = .ok (.if_icmp .gt 6, 3) := by decide +kernel
theorem dX12_leave_47 : decode cX12_leave 47 = .ok (.goto 13, 3) := by decide +kernel
theorem dX12_leave_50 : decode cX12_leave 50 = .ok (.aload_n 0, 1) := by decide +kernel
theorem dX12_leave_51 : decode cX12_leave 51 = .ok (.getfield 100, 3) := by decide +kernel
theorem dX12_leave_54 : decode cX12_leave 54 = .ok (.iload_n 2, 1) := by decide +kernel
theorem dX12_leave_55 : decode cX12_leave 55 = .ok (.iconst 4, 1) := by decide +kernel
theorem dX12_leave_56 : decode cX12_leave 56 = .ok (.iastore, 1) := by decide +kernel
theorem dX12_leave_57 : decode cX12_leave 57 = .ok (.iinc 1 1, 3) := by decide +kernel
theorem dX12_leave_60 : decode cX12_leave 60 = .ok (.iinc 2 1, 3) := by decide +kernel
theorem dX12_leave_63 : decode cX12_leave 63 = .ok (.goto (-59), 3) := by decide +kernel
theorem dX12_leave_66 : decode cX12_leave 66 = .ok (.iload_n 1, 1) := by decide +kernel
theorem dX12_leave_67 : decode cX12_leave 67 = .ok (.ireturn, 1) := by decide +kernel
theorem dX12_goHear_0 : decode cX12_goHear 0 = .ok (.aload_n 0, 1) := by decide +kernel
theorem dX12_goHear_1 : decode cX12_goHear 1 = .ok (.getfield 100, 3) := by decide +kernel
theorem dX12_goHear_4 : decode cX12_goHear 4 = .ok (.bipush 21, 2) := by decide +kernel
theorem dX12_goHear_6 : decode cX12_goHear 6 = .ok (.dup2, 1) := by decide +kernel
theorem dX12_goHear_7 : decode cX12_goHear 7 = .ok (.iaload, 1) := by decide +kernel
theorem dX12_goHear_8 : decode cX12_goHear 8 = .ok (.aload_n 0, 1) := by decide +kernel
theorem dX12_goHear_9 : decode cX12_goHear 9 = .ok (.getfield 76, 3) := by decide +kernel
theorem dX12_goHear_12 : decode cX12_goHear 12 = .ok (.iload_n 1, 1) := by decide +kernel
theorem dX12_goHear_13 : decode cX12_goHear 13 = .ok (.iaload, 1) := by decide +kernel
theorem dX12_goHear_14 : decode cX12_goHear 14 = .ok (.iadd, 1) := by decide +kernel
theorem dX12_goHear_15 : decode cX12_goHear 15 = .ok (.iastore, 1) := by decide +kernel
theorem dX12_goHear_16 : decode cX12_goHear 16 = .ok (.aload_n 0, 1) := by decide +kernel
theorem dX12_goHear_17 : decode cX12_goHear 17 = .ok (.getfield 100, 3) := by decide +kernel
theorem dX12_goHear_20 : decode cX12_goHear 20 = .ok (.iload_n 1, 1) := by decide +kernel
theorem dX12_goHear_21 : decode cX12_goHear 21 = .ok (.iload_n 2, 1) := by decide +kernel
theorem dX12_goHear_22 : decode cX12_goHear 22 = .ok (.iastore, 1) := by decide +kernel
theorem dX12_goHear_23 : decode cX12_goHear 23 = .ok (.iconst 0, 1) := by decide +kernel
theorem dX12_goHear_24 : decode cX12_goHear 24 = .ok (.istore_n 3, 1) := by decide +kernel
theorem dX12_goHear_25 : decode cX12_goHear 25 = .ok (.iload_n 3, 1) := by decide +kernel
theorem dX12_goHear_26 : decode cX12_goHear 26 = .ok (.aload_n 0, 1) := by decide +kernel
theorem dX12_goHear_27 : decode cX12_goHear 27 = .ok (.getfield 323, 3) := by decide +kernel
theorem dX12_goHear_30 : decode cX12_goHear 30 = .ok (.if_icmp .ge 39, 3) := by decide +kernel
theorem dX12_goHear_33 : decode cX12_goHear 33 = .ok (.aload_n 0, 1) := by decide +kernel
theorem dX12_goHear_34 : decode cX12_goHear 34 = .ok (.getfield 85, 3) := by decide +kernel
theorem dX12_goHear_37 : decode cX12_goHear 37 = .ok (.iload_n 1, 1) := by decide +kernel
theorem dX12_goHear_38 : decode cX12_goHear 38 = .ok (.iaload, 1) := by decide +kernel
theorem dX12_goHear_39 : decode cX12_goHear 39 = .ok (.iload_n 3, 1) := by decide +kernel
theorem dX12_goHear_40 : decode cX12_goHear 40 = .ok (.ishr, 1) := by decide +kernel
theorem dX12_goHear_41 : decode cX12_goHear 41 = .ok (.iconst 1, 1) := by decide +kernel
theorem dX12_goHear_42 : decode cX12_goHear 42 = .ok (.iand, 1) := by decide +kernel
theorem dX12_goHear_43 : decode cX12_goHear 43 = .ok (.iconst 1, 1) := by decide +kernel
theorem dX12_goHear_44 : decode cX12_goHear 44 = .ok (.if_icmp .ne 19, 3) := by decide +kernel
theorem dX12_goHear_47 : decode cX12_goHear 47 = .ok (.aload_n 0, 1) := by decide +kernel
theorem dX12_goHear_48 : decode cX12_goHear 48 = .ok (.getfield 100, 3) := by decide +kernel
theorem dX12_goHear_51 : decode cX12_goHear 51 = .ok (.iload_n 3, 1) := by decide +kernel
theorem dX12_goHear_52 : decode cX12_goHear 52 = .ok (.iaload, 1) := by decide +kernel
theorem dX12_goHear_53 : decode cX12_goHear 53 = .ok (.ifCond .ne 10, 3) := by decide +kernel
theorem dX12_goHear_56 : decode cX12_goHear 56 = .ok (.aload_n 0, 1) := by decide +kernel
theorem dX12_goHear_57 : decode cX12_goHear 57 = .ok (.getfield 100, 3) := by decide +kernel
theorem dX12_goHear_60 : decode cX12_goHear 60 = .ok (.iload_n 3, 1) := by decide +kernel
theorem dX12_goHear_61 : decode cX12_goHear 61 = .ok (.iconst 3, 1) := by decide +kernel
theorem dX12_goHear_62 : decode cX12_goHear 62 = .ok (.iastore, 1) := by decide +kernel
theorem dX12_goHear_63 : decode cX12_goHear 63 = .ok (.iinc 3 1, 3) := by decide +kernel
theorem dX12_goHear_66 : decode cX12_goHear 66 = .ok (.goto (-41), 3) := by decide +kernel
theorem dX12_goHear_69 : decode cX12_goHear 69 = .ok (.iconst 0, 1) := by decide +kernel
theorem dX12_goHear_70 : decode cX12_goHear 70 = .ok (.istore_n 3, 1) := by decide +kernel
theorem dX12_goHear_71 : decode cX12_goHear 71 = .ok (.iload_n 3, 1) := by decide +kernel
theorem dX12_goHear_72 : decode cX12_goHear 72 = .ok (.aload_n 0, 1) := by decide +kernel
theorem dX12_goHear_73 : decode cX12_goHear 73 = .ok (.getfield 323, 3) := by decide +kernel
theorem dX12_goHear_76 : decode cX12_goHear 76 = .ok (.if_icmp .ge 59, 3) := by decide +kernel
theorem dX12_goHear_79 : decode cX12_goHear 79 = .ok (.aload_n 0, 1) := by decide +kernel
theorem dX12_goHear_80 : decode cX12_goHear 80 = .ok (.getfield 88, 3) := by decide +kernel
theorem dX12_goHear_83 : decode cX12_goHear 83 = .ok (.iload_n 1, 1) := by decide +kernel
theorem dX12_goHear_84 : decode cX12_goHear 84 = .ok (.iaload, 1) := by decide +kernel
theorem dX12_goHear_85 : decode cX12_goHear 85 = .ok (.iload_n 3, 1) := by decide +kernel
theorem dX12_goHear_86 : decode cX12_goHear 86 = .ok (.ishr, 1) := by decide +kernel
theorem dX12_goHear_87 : decode cX12_goHear 87 = .ok (.iconst 1, 1) := by decide +kernel
theorem dX12_goHear_88 : decode cX12_goHear 88 = .ok (.iand, 1) := by decide +kernel
theorem dX12_goHear_89 : decode cX12_goHear 89 = .ok (.ifCond .eq 40, 3) := by decide +kernel
theorem dX12_goHear_92 : decode cX12_goHear 92 = .ok (.aload_n 0, 1) := by decide +kernel
theorem dX12_goHear_93 : decode cX12_goHear 93 = .ok (.getfield 100, 3) := by decide +kernel
theorem dX12_goHear_96 : decode cX12_goHear 96 = .ok (.iload_n 3, 1) := by decide +kernel
theorem dX12_goHear_97 : decode cX12_goHear 97 = .ok (.iaload, 1) := by decide +kernel
theorem dX12_goHear_98 : decode cX12_goHear 98 = .ok (.bipush 6, 2) := by decide +kernel
theorem dX12_goHear_100 : decode cX12_goHear 100 = .ok (.if_icmp .eq 6, 3) := by decide +kernel
theorem dX12_goHear_103 : decode cX12_goHear 103 = .ok (.goto 26, 3) := by decide +kernel
theorem dX12_goHear_106 : decode cX12_goHear 106 = .ok (.aload_n 0, 1) := by decide +kernel
theorem dX12_goHear_107 : decode cX12_goHear 107 = .ok (.getfield 100, 3) := by decide +kernel
theorem dX12_goHear_110 : decode cX12_goHear 110 = .ok (.iload_n 3, 1) := by decide +kernel
theorem dX12_goHear_111 : decode cX12_goHear 111 = .ok (.iconst 0, 1) := by decide +kernel
theorem dX12_goHear_112 : decode cX12_goHear 112 = .ok (.iastore, 1) := by decide +kernel
theorem dX12_goHear_113 : decode cX12_goHear 113 = .ok (.aload_n 0, 1) := by decide +kernel
theorem dX12_goHear_114 : decode cX12_goHear 114 = .ok (.getfield 100, 3) := by decide +kernel
theorem dX12_goHear_117 : decode cX12_goHear 117 = .ok (.bipush 7, 2) := by decide +kernel
theorem dX12_goHear_119 : decode cX12_goHear 119 = .ok (.iload_n 3, 1) := by decide +kernel
theorem dX12_goHear_120 : decode cX12_goHear 120 = .ok (.iadd, 1) := by decide +kernel
theorem dX12_goHear_121 : decode cX12_goHear 121 = .ok (.aload_n 0, 1) := by decide +kernel
theorem dX12_goHear_122 : decode cX12_goHear 122 = .ok (.getfield 100, 3) := by decide +kernel
theorem dX12_goHear_125 : decode cX12_goHear 125 = .ok (.bipush 21, 2) := by decide +kernel
theorem dX12_goHear_127 : decode cX12_goHear 127 = .ok (.iaload, 1) := by decide +kernel
theorem dX12_goHear_128 : decode cX12_goHear 128 = .ok (.iastore, 1) := by decide +kernel
theorem dX12_goHear_129 : decode cX12_goHear 129 = .ok (.iinc 3 1, 3) := by decide +kernel
theorem dX12_goHear_132 : decode cX12_goHear 132 = .ok (.goto (-61), 3) := by decide +kernel
theorem dX12_goHear_135 : decode cX12_goHear 135 = .ok (.aload_n 0, 1) := by decide +kernel
theorem dX12_goHear_136 : decode cX12_goHear 136 = .ok (.invokevirtual 433, 3) := by decide +kernel
theorem dX12_goHear_139 : decode cX12_goHear 139 = .ok (.pop, 1) := by decide +kernel
theorem dX12_goHear_140 : decode cX12_goHear 140 = .ok (.return_, 1) := by decide +kernel
theorem dX12_goOn_0 : decode cX12_goOn 0 = .ok (.aload_n 0, 1) := by decide +kernel
theorem dX12_goOn_1 : decode cX12_goOn 1 = .ok (.iconst 0, 1) := by decide +kernel
theorem dX12_goOn_2 : decode cX12_goOn 2 = .ok (.putfield 436, 3) := by decide +kernel
theorem dX12_goOn_5 : decode cX12_goOn 5 = .ok (.aload_n 0, 1) := by decide +kernel
theorem dX12_goOn_6 : decode cX12_goOn 6 = .ok (.invokevirtual 439, 3) := by decide +kernel
theorem dX12_goOn_9 : decode cX12_goOn 9 = .ok (.istore_n 1, 1) := by decide +kernel
theorem dX12_goOn_10 : decode cX12_goOn 10 = .ok (.iload_n 1, 1) := by decide +kernel
theorem dX12_goOn_11 : decode cX12_goOn 11 = .ok (.ifCond .lt 53, 3) := by decide +kernel
theorem dX12_goOn_14 : decode cX12_goOn 14 = .ok (.aload_n 0, 1) := by decide +kernel
theorem dX12_goOn_15 : decode cX12_goOn 15 = .ok (.getfield 103, 3) := by decide +kernel
theorem dX12_goOn_18 : decode cX12_goOn 18 = .ok (.aload_n 0, 1) := by decide +kernel
theorem dX12_goOn_19 : decode cX12_goOn 19 = .ok (.getfield 436, 3) := by decide +kernel
theorem dX12_goOn_22 : decode cX12_goOn 22 = .ok (.iload_n 1, 1) := by decide +kernel
theorem dX12_goOn_23 : decode cX12_goOn 23 = .ok (.iastore, 1) := by decide +kernel
theorem dX12_goOn_24 : decode cX12_goOn 24 = .ok (.aload_n 0, 1) := by decide +kernel
theorem dX12_goOn_25 : decode cX12_goOn 25 = .ok (.getfield 106, 3) := by decide +kernel
theorem dX12_goOn_28 : decode cX12_goOn 28 = .ok (.aload_n 0, 1) := by decide +kernel
theorem dX12_goOn_29 : decode cX12_goOn 29 = .ok (.getfield 436, 3) := by decide +kernel
theorem dX12_goOn_32 : decode cX12_goOn 32 = .ok (.aload_n 0, 1) := by decide +kernel
theorem dX12_goOn_33 : decode cX12_goOn 33 = .ok (.getfield 100, 3) := by decide +kernel
theorem dX12_goOn_36 : decode cX12_goOn 36 = .ok (.bipush 21, 2) := by decide +kernel
theorem dX12_goOn_38 : decode cX12_goOn 38 = .ok (.iaload, 1) := by decide +kernel
theorem dX12_goOn_39 : decode cX12_goOn 39 = .ok (.iastore, 1) := by decide +kernel
theorem dX12_goOn_40 : decode cX12_goOn 40 = .ok (.aload_n 0, 1) := by decide +kernel
theorem dX12_goOn_41 : decode cX12_goOn 41 = .ok (.dup, 1) := by decide +kernel
theorem dX12_goOn_42 : decode cX12_goOn 42 = .ok (.getfield 436, 3) := by decide +kernel
theorem dX12_goOn_45 : decode cX12_goOn 45 = .ok (.iconst 1, 1) := by decide +kernel
theorem dX12_goOn_46 : decode cX12_goOn 46 = .ok (.iadd, 1) := by decide +kernel
theorem dX12_goOn_47 : decode cX12_goOn 47 = .ok (.putfield 436, 3) := by decide +kernel
theorem dX12_goOn_50 : decode cX12_goOn 50 = .ok (.aload_n 0, 1) := by decide +kernel
theorem dX12_goOn_51 : decode cX12_goOn 51 = .ok (.iload_n 1, 1) := by decide +kernel
theorem dX12_goOn_52 : decode cX12_goOn 52 = .ok (.iconst 1, 1) := by decide +kernel
theorem dX12_goOn_53 : decode cX12_goOn 53 = .ok (.invokevirtual 442, 3) := by decide +kernel
theorem dX12_goOn_56 : decode cX12_goOn 56 = .ok (.aload_n 0, 1) := by decide +kernel
theorem dX12_goOn_57 : decode cX12_goOn 57 = .ok (.invokevirtual 439, 3) := by decide +kernel
theorem dX12_goOn_60 : decode cX12_goOn 60 = .ok (.istore_n 1, 1) := by decide +kernel
theorem dX12_goOn_61 : decode cX12_goOn 61 = .ok (.goto (-51), 3) := by decide +kernel
theorem dX12_goOn_64 : decode cX12_goOn 64 = .ok (.aload_n 0, 1) := by decide +kernel
theorem dX12_goOn_65 : decode cX12_goOn 65 = .ok (.getfield 100, 3) := by decide +kernel
theorem dX12_goOn_68 : decode cX12_goOn 68 = .ok (.bipush 21, 2) := by decide +kernel
theorem dX12_goOn_70 : decode cX12_goOn 70 = .ok (.iaload, 1) := by decide +kernel
theorem dX12_goOn_71 : decode cX12_goOn 71 = .ok (.ireturn, 1) := by decide +kernel
theorem dX12_duskNow_0 : decode cX12_duskNow 0 = .ok (.aload_n 0, 1) := by decide +kernel
theorem dX12_duskNow_1 : decode cX12_duskNow 1 = .ok (.invokevirtual 445, 3) := by decide +kernel
theorem dX12_duskNow_4 : decode cX12_duskNow 4 = .ok (.aload_n 0, 1) := by decide +kernel
theorem dX12_duskNow_5 : decode cX12_duskNow 5 = .ok (.invokevirtual 448, 3) := by decide +kernel
theorem dX12_duskNow_8 : decode cX12_duskNow 8 = .ok (.ireturn, 1) := by decide +kernel
theorem dX12_objector_0 : decode cX12_objector 0 = .ok (.aload_n 0, 1) := by decide +kernel
theorem dX12_objector_1 : decode cX12_objector 1 = .ok (.iload_n 1, 1) := by decide +kernel
theorem dX12_objector_2 : decode cX12_objector 2 = .ok (.invokevirtual 451, 3) := by decide +kernel
theorem dX12_objector_5 : decode cX12_objector 5 = .ok (.ifCond .ne 6, 3) := by decide +kernel
theorem dX12_objector_8 : decode cX12_objector 8 = .ok (.bipush (-2), 2) := by decide +kernel
theorem dX12_objector_10 : decode cX12_objector 10 = .ok (.ireturn, 1) := by decide +kernel
theorem dX12_objector_11 : decode cX12_objector 11 = .ok (.iload_n 2, 1) := by decide +kernel
theorem dX12_objector_12 : decode cX12_objector 12 = .ok (.tableswitch 131 0 7 #[48, 55, 62, 69, 79, 110, 117, 124], 48) := by decide +kernel
theorem dX12_objector_60 : decode cX12_objector 60 = .ok (.aload_n 0, 1) := by decide +kernel
theorem dX12_objector_61 : decode cX12_objector 61 = .ok (.getfield 97, 3) := by decide +kernel
theorem dX12_objector_64 : decode cX12_objector 64 = .ok (.iload_n 1, 1) := by decide +kernel
theorem dX12_objector_65 : decode cX12_objector 65 = .ok (.iaload, 1) := by decide +kernel
theorem dX12_objector_66 : decode cX12_objector 66 = .ok (.ireturn, 1) := by decide +kernel
theorem dX12_objector_67 : decode cX12_objector 67 = .ok (.aload_n 0, 1) := by decide +kernel
theorem dX12_objector_68 : decode cX12_objector 68 = .ok (.getfield 73, 3) := by decide +kernel
theorem dX12_objector_71 : decode cX12_objector 71 = .ok (.iload_n 1, 1) := by decide +kernel
theorem dX12_objector_72 : decode cX12_objector 72 = .ok (.iaload, 1) := by decide +kernel
theorem dX12_objector_73 : decode cX12_objector 73 = .ok (.ireturn, 1) := by decide +kernel
theorem dX12_objector_74 : decode cX12_objector 74 = .ok (.aload_n 0, 1) := by decide +kernel
theorem dX12_objector_75 : decode cX12_objector 75 = .ok (.getfield 76, 3) := by decide +kernel
theorem dX12_objector_78 : decode cX12_objector 78 = .ok (.iload_n 1, 1) := by decide +kernel
theorem dX12_objector_79 : decode cX12_objector 79 = .ok (.iaload, 1) := by decide +kernel
theorem dX12_objector_80 : decode cX12_objector 80 = .ok (.ireturn, 1) := by decide +kernel
theorem dX12_objector_81 : decode cX12_objector 81 = .ok (.aload_n 0, 1) := by decide +kernel
theorem dX12_objector_82 : decode cX12_objector 82 = .ok (.getfield 97, 3) := by decide +kernel
theorem dX12_objector_85 : decode cX12_objector 85 = .ok (.bipush 14, 2) := by decide +kernel
theorem dX12_objector_87 : decode cX12_objector 87 = .ok (.iload_n 1, 1) := by decide +kernel
theorem dX12_objector_88 : decode cX12_objector 88 = .ok (.iadd, 1) := by decide +kernel
theorem dX12_objector_89 : decode cX12_objector 89 = .ok (.iaload, 1) := by decide +kernel
theorem dX12_objector_90 : decode cX12_objector 90 = .ok (.ireturn, 1) := by decide +kernel
theorem dX12_objector_91 : decode cX12_objector 91 = .ok (.aload_n 0, 1) := by decide +kernel
theorem dX12_objector_92 : decode cX12_objector 92 = .ok (.getfield 97, 3) := by decide +kernel
theorem dX12_objector_95 : decode cX12_objector 95 = .ok (.iload_n 1, 1) := by decide +kernel
theorem dX12_objector_96 : decode cX12_objector 96 = .ok (.iaload, 1) := by decide +kernel
theorem dX12_objector_97 : decode cX12_objector 97 = .ok (.ifCond .ne 23, 3) := by decide +kernel
theorem dX12_objector_100 : decode cX12_objector 100 = .ok (.aload_n 0, 1) := by decide +kernel
theorem dX12_objector_101 : decode cX12_objector 101 = .ok (.getfield 97, 3) := by decide +kernel
theorem dX12_objector_104 : decode cX12_objector 104 = .ok (.bipush 21, 2) := by decide +kernel
theorem dX12_objector_106 : decode cX12_objector 106 = .ok (.iaload, 1) := by decide +kernel
theorem dX12_objector_107 : decode cX12_objector 107 = .ok (.aload_n 0, 1) := by decide +kernel
theorem dX12_objector_108 : decode cX12_objector 108 = .ok (.getfield 97, 3) := by decide +kernel
theorem dX12_objector_111 : decode cX12_objector 111 = .ok (.bipush 7, 2) := by decide +kernel
theorem dX12_objector_113 : decode cX12_objector 113 = .ok (.iload_n 1, 1) := by decide +kernel
theorem dX12_objector_114 : decode cX12_objector 114 = .ok (.iadd, 1) := by decide +kernel
theorem dX12_objector_115 : decode cX12_objector 115 = .ok (.iaload, 1) := by decide +kernel
theorem dX12_objector_116 : decode cX12_objector 116 = .ok (.isub, 1) := by decide +kernel
theorem dX12_objector_117 : decode cX12_objector 117 = .ok (.goto 4, 3) := by decide +kernel
theorem dX12_objector_120 : decode cX12_objector 120 = .ok (.iconst 0, 1) := by decide +kernel
theorem dX12_objector_121 : decode cX12_objector 121 = .ok (.ireturn, 1) := by decide +kernel
theorem dX12_objector_122 : decode cX12_objector 122 = .ok (.aload_n 0, 1) := by decide +kernel
theorem dX12_objector_123 : decode cX12_objector 123 = .ok (.getfield 82, 3) := by decide +kernel
theorem dX12_objector_126 : decode cX12_objector 126 = .ok (.iload_n 1, 1) := by decide +kernel
theorem dX12_objector_127 : decode cX12_objector 127 = .ok (.iaload, 1) := by decide +kernel
theorem dX12_objector_128 : decode cX12_objector 128 = .ok (.ireturn, 1) := by decide +kernel
theorem dX12_objector_129 : decode cX12_objector 129 = .ok (.aload_n 0, 1) := by decide +kernel
theorem dX12_objector_130 : decode cX12_objector 130 = .ok (.getfield 85, 3) := by decide +kernel
theorem dX12_objector_133 : decode cX12_objector 133 = .ok (.iload_n 1, 1) := by decide +kernel
theorem dX12_objector_134 : decode cX12_objector 134 = .ok (.iaload, 1) := by decide +kernel
theorem dX12_objector_135 : decode cX12_objector 135 = .ok (.ireturn, 1) := by decide +kernel
theorem dX12_objector_136 : decode cX12_objector 136 = .ok (.aload_n 0, 1) := by decide +kernel
theorem dX12_objector_137 : decode cX12_objector 137 = .ok (.getfield 88, 3) := by decide +kernel
theorem dX12_objector_140 : decode cX12_objector 140 = .ok (.iload_n 1, 1) := by decide +kernel
theorem dX12_objector_141 : decode cX12_objector 141 = .ok (.iaload, 1) := by decide +kernel
theorem dX12_objector_142 : decode cX12_objector 142 = .ok (.ireturn, 1) := by decide +kernel
theorem dX12_objector_143 : decode cX12_objector 143 = .ok (.bipush (-2), 2) := by decide +kernel
theorem dX12_objector_145 : decode cX12_objector 145 = .ok (.ireturn, 1) := by decide +kernel
theorem dX12_isWaiting_0 : decode cX12_isWaiting 0 = .ok (.aload_n 0, 1) := by decide +kernel
theorem dX12_isWaiting_1 : decode cX12_isWaiting 1 = .ok (.iload_n 1, 1) := by decide +kernel
theorem dX12_isWaiting_2 : decode cX12_isWaiting 2 = .ok (.invokevirtual 451, 3) := by decide +kernel
theorem dX12_isWaiting_5 : decode cX12_isWaiting 5 = .ok (.ifCond .eq 16, 3) := by decide +kernel
theorem dX12_isWaiting_8 : decode cX12_isWaiting 8 = .ok (.aload_n 0, 1) := by decide +kernel
theorem dX12_isWaiting_9 : decode cX12_isWaiting 9 = .ok (.getfield 97, 3) := by decide +kernel
theorem dX12_isWaiting_12 : decode cX12_isWaiting 12 = .ok (.iload_n 1, 1) := by decide +kernel
theorem dX12_isWaiting_13 : decode cX12_isWaiting 13 = .ok (.iaload, 1) := by decide +kernel
theorem dX12_isWaiting_14 : decode cX12_isWaiting 14 = .ok (.ifCond .ne 7, 3) := by decide +kernel
theorem dX12_isWaiting_17 : decode cX12_isWaiting 17 = .ok (.iconst 1, 1) := by decide +kernel
theorem dX12_isWaiting_18 : decode cX12_isWaiting 18 = .ok (.goto 4, 3) := by decide +kernel
theorem dX12_isWaiting_21 : decode cX12_isWaiting 21 = .ok (.iconst 0, 1) := by decide +kernel
theorem dX12_isWaiting_22 : decode cX12_isWaiting 22 = .ok (.ireturn, 1) := by decide +kernel
theorem dX12_ranks_0 : decode cX12_ranks 0 = .ok (.aload_n 0, 1) := by decide +kernel
theorem dX12_ranks_1 : decode cX12_ranks 1 = .ok (.invokevirtual 445, 3) := by decide +kernel
theorem dX12_ranks_4 : decode cX12_ranks 4 = .ok (.aload_n 0, 1) := by decide +kernel
theorem dX12_ranks_5 : decode cX12_ranks 5 = .ok (.iload_n 1, 1) := by decide +kernel
theorem dX12_ranks_6 : decode cX12_ranks 6 = .ok (.invokevirtual 454, 3) := by decide +kernel
theorem dX12_ranks_9 : decode cX12_ranks 9 = .ok (.ifCond .eq 11, 3) := by decide +kernel
theorem dX12_ranks_12 : decode cX12_ranks 12 = .ok (.aload_n 0, 1) := by decide +kernel
theorem dX12_ranks_13 : decode cX12_ranks 13 = .ok (.iload_n 1, 1) := by decide +kernel
theorem dX12_ranks_14 : decode cX12_ranks 14 = .ok (.invokevirtual 426, 3) := by decide +kernel
theorem dX12_ranks_17 : decode cX12_ranks 17 = .ok (.goto 6, 3) := by decide +kernel
theorem dX12_ranks_20 : decode cX12_ranks 20 = .ok (.ldc_w 457, 3) := by decide +kernel
theorem dX12_ranks_23 : decode cX12_ranks 23 = .ok (.ireturn, 1) := by decide +kernel
theorem dX12_act_0 : decode cX12_act 0 = .ok (.aload_n 0, 1) := by decide +kernel
theorem dX12_act_1 : decode cX12_act 1 = .ok (.getfield 406, 3) := by decide +kernel
theorem dX12_act_4 : decode cX12_act 4 = .ok (.bipush 40, 2) := by decide +kernel
theorem dX12_act_6 : decode cX12_act 6 = .ok (.if_icmp .ne 43, 3) := by decide +kernel
theorem dX12_act_9 : decode cX12_act 9 = .ok (.iconst 0, 1) := by decide +kernel
theorem dX12_act_10 : decode cX12_act 10 = .ok (.istore_n 1, 1) := by decide +kernel
theorem dX12_act_11 : decode cX12_act 11 = .ok (.iload_n 1, 1) := by decide +kernel
theorem dX12_act_12 : decode cX12_act 12 = .ok (.sipush 936, 3) := by decide +kernel
theorem dX12_act_15 : decode cX12_act 15 = .ok (.if_icmp .ge 24, 3) := by decide +kernel
theorem dX12_act_18 : decode cX12_act 18 = .ok (.aload_n 0, 1) := by decide +kernel
theorem dX12_act_19 : decode cX12_act 19 = .ok (.getfield 109, 3) := by decide +kernel
theorem dX12_act_22 : decode cX12_act 22 = .ok (.iload_n 1, 1) := by decide +kernel
theorem dX12_act_23 : decode cX12_act 23 = .ok (.aload_n 0, 1) := by decide +kernel
theorem dX12_act_24 : decode cX12_act 24 = .ok (.getfield 109, 3) := by decide +kernel
theorem dX12_act_27 : decode cX12_act 27 = .ok (.bipush 24, 2) := by decide +kernel
theorem dX12_act_29 : decode cX12_act 29 = .ok (.iload_n 1, 1) := by decide +kernel
theorem dX12_act_30 : decode cX12_act 30 = .ok (.iadd, 1) := by decide +kernel
theorem dX12_act_31 : decode cX12_act 31 = .ok (.iaload, 1) := by decide +kernel
theorem dX12_act_32 : decode cX12_act 32 = .ok (.iastore, 1) := by decide +kernel
theorem dX12_act_33 : decode cX12_act 33 = .ok (.iinc 1 1, 3) := by decide +kernel
theorem dX12_act_36 : decode cX12_act 36 = .ok (.goto (-25), 3) := by decide +kernel
theorem dX12_act_39 : decode cX12_act 39 = .ok (.aload_n 0, 1) := by decide +kernel
theorem dX12_act_40 : decode cX12_act 40 = .ok (.dup, 1) := by decide +kernel
theorem dX12_act_41 : decode cX12_act 41 = .ok (.getfield 406, 3) := by decide +kernel
theorem dX12_act_44 : decode cX12_act 44 = .ok (.iconst 1, 1) := by decide +kernel
theorem dX12_act_45 : decode cX12_act 45 = .ok (.isub, 1) := by decide +kernel
theorem dX12_act_46 : decode cX12_act 46 = .ok (.putfield 406, 3) := by decide +kernel
theorem dX12_act_49 : decode cX12_act 49 = .ok (.iconst 0, 1) := by decide +kernel
theorem dX12_act_50 : decode cX12_act 50 = .ok (.istore_n 1, 1) := by decide +kernel
theorem dX12_act_51 : decode cX12_act 51 = .ok (.iload_n 1, 1) := by decide +kernel
theorem dX12_act_52 : decode cX12_act 52 = .ok (.bipush 24, 2) := by decide +kernel
theorem dX12_act_54 : decode cX12_act 54 = .ok (.if_icmp .ge 29, 3) := by decide +kernel
theorem dX12_act_57 : decode cX12_act 57 = .ok (.aload_n 0, 1) := by decide +kernel
theorem dX12_act_58 : decode cX12_act 58 = .ok (.getfield 109, 3) := by decide +kernel
theorem dX12_act_61 : decode cX12_act 61 = .ok (.bipush 24, 2) := by decide +kernel
theorem dX12_act_63 : decode cX12_act 63 = .ok (.aload_n 0, 1) := by decide +kernel
theorem dX12_act_64 : decode cX12_act 64 = .ok (.getfield 406, 3) := by decide +kernel
theorem dX12_act_67 : decode cX12_act 67 = .ok (.imul, 1) := by decide +kernel
theorem dX12_act_68 : decode cX12_act 68 = .ok (.iload_n 1, 1) := by decide +kernel
theorem dX12_act_69 : decode cX12_act 69 = .ok (.iadd, 1) := by decide +kernel
theorem dX12_act_70 : decode cX12_act 70 = .ok (.aload_n 0, 1) := by decide +kernel
theorem dX12_act_71 : decode cX12_act 71 = .ok (.getfield 97, 3) := by decide +kernel
theorem dX12_act_74 : decode cX12_act 74 = .ok (.iload_n 1, 1) := by decide +kernel
theorem dX12_act_75 : decode cX12_act 75 = .ok (.iaload, 1) := by decide +kernel
theorem dX12_act_76 : decode cX12_act 76 = .ok (.iastore, 1) := by decide +kernel
theorem dX12_act_77 : decode cX12_act 77 = .ok (.iinc 1 1, 3) := by decide +kernel
theorem dX12_act_80 : decode cX12_act 80 = .ok (.goto (-29), 3) := by decide +kernel
theorem dX12_act_83 : decode cX12_act 83 = .ok (.aload_n 0, 1) := by decide +kernel
theorem dX12_act_84 : decode cX12_act 84 = .ok (.dup, 1) := by decide +kernel
theorem dX12_act_85 : decode cX12_act 85 = .ok (.getfield 406, 3) := by decide +kernel
theorem dX12_act_88 : decode cX12_act 88 = .ok (.iconst 1, 1) := by decide +kernel
theorem dX12_act_89 : decode cX12_act 89 = .ok (.iadd, 1) := by decide +kernel
theorem dX12_act_90 : decode cX12_act 90 = .ok (.putfield 406, 3) := by decide +kernel
theorem dX12_act_93 : decode cX12_act 93 = .ok (.aload_n 0, 1) := by decide +kernel
theorem dX12_act_94 : decode cX12_act 94 = .ok (.iconst 0, 1) := by decide +kernel
theorem dX12_act_95 : decode cX12_act 95 = .ok (.putfield 409, 3) := by decide +kernel
theorem dX12_act_98 : decode cX12_act 98 = .ok (.aload_n 0, 1) := by decide +kernel
theorem dX12_act_99 : decode cX12_act 99 = .ok (.invokevirtual 445, 3) := by decide +kernel
theorem dX12_act_102 : decode cX12_act 102 = .ok (.return_, 1) := by decide +kernel
theorem dX12_exchange_0 : decode cX12_exchange 0 = .ok (.iconst 0, 1) := by decide +kernel
theorem dX12_exchange_1 : decode cX12_exchange 1 = .ok (.istore_n 2, 1) := by decide +kernel
theorem dX12_exchange_2 : decode cX12_exchange 2 = .ok (.iload_n 2, 1) := by decide +kernel
theorem dX12_exchange_3 : decode cX12_exchange 3 = .ok (.bipush 24, 2) := by decide +kernel
theorem dX12_exchange_5 : decode cX12_exchange 5 = .ok (.if_icmp .ge 39, 3) := by decide +kernel
theorem dX12_exchange_8 : decode cX12_exchange 8 = .ok (.aload_n 0, 1) := by decide +kernel
theorem dX12_exchange_9 : decode cX12_exchange 9 = .ok (.getfield 109, 3) := by decide +kernel
theorem dX12_exchange_12 : decode cX12_exchange 12 = .ok (.iload_n 1, 1) := by decide +kernel
theorem dX12_exchange_13 : decode cX12_exchange 13 = .ok (.iload_n 2, 1) := by decide +kernel
theorem dX12_exchange_14 : decode cX12_exchange 14 = .ok (.iadd, 1) := by decide +kernel
theorem dX12_exchange_15 : decode cX12_exchange 15 = .ok (.iaload, 1) := by decide +kernel
theorem dX12_exchange_16 : decode cX12_exchange 16 = .ok (.istore_n 3, 1) := by decide +kernel
theorem dX12_exchange_17 : decode cX12_exchange 17 = .ok (.aload_n 0, 1) := by decide +kernel
theorem dX12_exchange_18 : decode cX12_exchange 18 = .ok (.getfield 109, 3) := by decide +kernel
theorem dX12_exchange_21 : decode cX12_exchange 21 = .ok (.iload_n 1, 1) := by decide +kernel
theorem dX12_exchange_22 : decode cX12_exchange 22 = .ok (.iload_n 2, 1) := by decide +kernel
theorem dX12_exchange_23 : decode cX12_exchange 23 = .ok (.iadd, 1) := by decide +kernel
theorem dX12_exchange_24 : decode cX12_exchange 24 = .ok (.aload_n 0, 1) := by decide +kernel
theorem dX12_exchange_25 : decode cX12_exchange 25 = .ok (.getfield 97, 3) := by decide +kernel
theorem dX12_exchange_28 : decode cX12_exchange 28 = .ok (.iload_n 2, 1) := by decide +kernel
theorem dX12_exchange_29 : decode cX12_exchange 29 = .ok (.iaload, 1) := by decide +kernel
theorem dX12_exchange_30 : decode cX12_exchange 30 = .ok (.iastore, 1) := by decide +kernel
theorem dX12_exchange_31 : decode cX12_exchange 31 = .ok (.aload_n 0, 1) := by decide +kernel
theorem dX12_exchange_32 : decode cX12_exchange 32 = .ok (.getfield 97, 3) := by decide +kernel
theorem dX12_exchange_35 : decode cX12_exchange 35 = .ok (.iload_n 2, 1) := by decide +kernel
theorem dX12_exchange_36 : decode cX12_exchange 36 = .ok (.iload_n 3, 1) := by decide +kernel
theorem dX12_exchange_37 : decode cX12_exchange 37 = .ok (.iastore, 1) := by decide +kernel
theorem dX12_exchange_38 : decode cX12_exchange 38 = .ok (.iinc 2 1, 3) := by decide +kernel
theorem dX12_exchange_41 : decode cX12_exchange 41 = .ok (.goto (-39), 3) := by decide +kernel
theorem dX12_exchange_44 : decode cX12_exchange 44 = .ok (.return_, 1) := by decide +kernel
theorem dX12_answerOf_0 : decode cX12_answerOf 0 = .ok (.aload_n 0, 1) := by decide +kernel
theorem dX12_answerOf_1 : decode cX12_answerOf 1 = .ok (.iconst 1, 1) := by decide +kernel
theorem dX12_answerOf_2 : decode cX12_answerOf 2 = .ok (.iload_n 1, 1) := by decide +kernel
theorem dX12_answerOf_3 : decode cX12_answerOf 3 = .ok (.aload_n 0, 1) := by decide +kernel
theorem dX12_answerOf_4 : decode cX12_answerOf 4 = .ok (.getfield 73, 3) := by decide +kernel
theorem dX12_answerOf_7 : decode cX12_answerOf 7 = .ok (.iload_n 1, 1) := by decide +kernel
theorem dX12_answerOf_8 : decode cX12_answerOf 8 = .ok (.iaload, 1) := by decide +kernel
theorem dX12_answerOf_9 : decode cX12_answerOf 9 = .ok (.bipush 100, 2) := by decide +kernel
theorem dX12_answerOf_11 : decode cX12_answerOf 11 = .ok (.invokevirtual 422, 3) := by decide +kernel
theorem dX12_answerOf_14 : decode cX12_answerOf 14 = .ok (.ireturn, 1) := by decide +kernel
theorem dX12_hear_0 : decode cX12_hear 0 = .ok (.aload_n 0, 1) := by decide +kernel
theorem dX12_hear_1 : decode cX12_hear 1 = .ok (.invokevirtual 445, 3) := by decide +kernel
theorem dX12_hear_4 : decode cX12_hear 4 = .ok (.aload_n 0, 1) := by decide +kernel
theorem dX12_hear_5 : decode cX12_hear 5 = .ok (.invokevirtual 439, 3) := by decide +kernel
theorem dX12_hear_8 : decode cX12_hear 8 = .ok (.istore_n 1, 1) := by decide +kernel
theorem dX12_hear_9 : decode cX12_hear 9 = .ok (.iload_n 1, 1) := by decide +kernel
theorem dX12_hear_10 : decode cX12_hear 10 = .ok (.ifCond .ge 5, 3) := by decide +kernel
theorem dX12_hear_13 : decode cX12_hear 13 = .ok (.iconst (-1), 1) := by decide +kernel
theorem dX12_hear_14 : decode cX12_hear 14 = .ok (.ireturn, 1) := by decide +kernel
theorem dX12_hear_15 : decode cX12_hear 15 = .ok (.aload_n 0, 1) := by decide +kernel
theorem dX12_hear_16 : decode cX12_hear 16 = .ok (.invokevirtual 458, 3) := by decide +kernel
theorem dX12_hear_19 : decode cX12_hear 19 = .ok (.aload_n 0, 1) := by decide +kernel
theorem dX12_hear_20 : decode cX12_hear 20 = .ok (.iload_n 1, 1) := by decide +kernel
theorem dX12_hear_21 : decode cX12_hear 21 = .ok (.invokevirtual 461, 3) := by decide +kernel
theorem dX12_hear_24 : decode cX12_hear 24 = .ok (.istore_n 2, 1) := by decide +kernel
theorem dX12_hear_25 : decode cX12_hear 25 = .ok (.aload_n 0, 1) := by decide +kernel
theorem dX12_hear_26 : decode cX12_hear 26 = .ok (.getfield 100, 3) := by decide +kernel
theorem dX12_hear_29 : decode cX12_hear 29 = .ok (.bipush 23, 2) := by decide +kernel
theorem dX12_hear_31 : decode cX12_hear 31 = .ok (.aload_n 0, 1) := by decide +kernel
theorem dX12_hear_32 : decode cX12_hear 32 = .ok (.getfield 100, 3) := by decide +kernel
theorem dX12_hear_35 : decode cX12_hear 35 = .ok (.bipush 23, 2) := by decide +kernel
theorem dX12_hear_37 : decode cX12_hear 37 = .ok (.iaload, 1) := by decide +kernel
theorem dX12_hear_38 : decode cX12_hear 38 = .ok (.sipush 137, 3) := by decide +kernel
theorem dX12_hear_41 : decode cX12_hear 41 = .ok (.imul, 1) := by decide +kernel
theorem dX12_hear_42 : decode cX12_hear 42 = .ok (.bipush 71, 2) := by decide +kernel
theorem dX12_hear_44 : decode cX12_hear 44 = .ok (.iadd, 1) := by decide +kernel
theorem dX12_hear_45 : decode cX12_hear 45 = .ok (.sipush 1000, 3) := by decide +kernel
theorem dX12_hear_48 : decode cX12_hear 48 = .ok (.irem, 1) := by decide +kernel
theorem dX12_hear_49 : decode cX12_hear 49 = .ok (.iastore, 1) := by decide +kernel
theorem dX12_hear_50 : decode cX12_hear 50 = .ok (.aload_n 0, 1) := by decide +kernel
theorem dX12_hear_51 : decode cX12_hear 51 = .ok (.iload_n 1, 1) := by decide +kernel
theorem dX12_hear_52 : decode cX12_hear 52 = .ok (.aload_n 0, 1) := by decide +kernel
theorem dX12_hear_53 : decode cX12_hear 53 = .ok (.getfield 100, 3) := by decide +kernel
theorem dX12_hear_56 : decode cX12_hear 56 = .ok (.bipush 23, 2) := by decide +kernel
theorem dX12_hear_58 : decode cX12_hear 58 = .ok (.iaload, 1) := by decide +kernel
theorem dX12_hear_59 : decode cX12_hear 59 = .ok (.bipush 100, 2) := by decide +kernel
theorem dX12_hear_61 : decode cX12_hear 61 = .ok (.irem, 1) := by decide +kernel
theorem dX12_hear_62 : decode cX12_hear 62 = .ok (.iload_n 2, 1) := by decide +kernel
theorem dX12_hear_63 : decode cX12_hear 63 = .ok (.if_icmp .ge 7, 3) := by decide +kernel
theorem dX12_hear_66 : decode cX12_hear 66 = .ok (.iconst 1, 1) := by decide +kernel
theorem dX12_hear_67 : decode cX12_hear 67 = .ok (.goto 4, 3) := by decide +kernel
theorem dX12_hear_70 : decode cX12_hear 70 = .ok (.iconst 2, 1) := by decide +kernel
theorem dX12_hear_71 : decode cX12_hear 71 = .ok (.invokevirtual 442, 3) := by decide +kernel
theorem dX12_hear_74 : decode cX12_hear 74 = .ok (.aload_n 0, 1) := by decide +kernel
theorem dX12_hear_75 : decode cX12_hear 75 = .ok (.invokevirtual 403, 3) := by decide +kernel
theorem dX12_hear_78 : decode cX12_hear 78 = .ok (.iload_n 1, 1) := by decide +kernel
theorem dX12_hear_79 : decode cX12_hear 79 = .ok (.ireturn, 1) := by decide +kernel
theorem dX12_buy_0 : decode cX12_buy 0 = .ok (.aload_n 0, 1) := by decide +kernel
theorem dX12_buy_1 : decode cX12_buy 1 = .ok (.iload_n 1, 1) := by decide +kernel
theorem dX12_buy_2 : decode cX12_buy 2 = .ok (.invokevirtual 454, 3) := by decide +kernel
theorem dX12_buy_5 : decode cX12_buy 5 = .ok (.ifCond .ne 5, 3) := by decide +kernel
theorem dX12_buy_8 : decode cX12_buy 8 = .ok (.iconst (-1), 1) := by decide +kernel
theorem dX12_buy_9 : decode cX12_buy 9 = .ok (.ireturn, 1) := by decide +kernel
theorem dX12_buy_10 : decode cX12_buy 10 = .ok (.aload_n 0, 1) := by decide +kernel
theorem dX12_buy_11 : decode cX12_buy 11 = .ok (.invokevirtual 458, 3) := by decide +kernel
theorem dX12_buy_14 : decode cX12_buy 14 = .ok (.aload_n 0, 1) := by decide +kernel
theorem dX12_buy_15 : decode cX12_buy 15 = .ok (.getfield 97, 3) := by decide +kernel
theorem dX12_buy_18 : decode cX12_buy 18 = .ok (.iload_n 1, 1) := by decide +kernel
theorem dX12_buy_19 : decode cX12_buy 19 = .ok (.iconst 5, 1) := by decide +kernel
theorem dX12_buy_20 : decode cX12_buy 20 = .ok (.iastore, 1) := by decide +kernel
theorem dX12_buy_21 : decode cX12_buy 21 = .ok (.aload_n 0, 1) := by decide +kernel
theorem dX12_buy_22 : decode cX12_buy 22 = .ok (.getfield 97, 3) := by decide +kernel
theorem dX12_buy_25 : decode cX12_buy 25 = .ok (.bipush 22, 2) := by decide +kernel
theorem dX12_buy_27 : decode cX12_buy 27 = .ok (.dup2, 1) := by decide +kernel
theorem dX12_buy_28 : decode cX12_buy 28 = .ok (.iaload, 1) := by decide +kernel
theorem dX12_buy_29 : decode cX12_buy 29 = .ok (.aload_n 0, 1) := by decide +kernel
theorem dX12_buy_30 : decode cX12_buy 30 = .ok (.getfield 82, 3) := by decide +kernel
theorem dX12_buy_33 : decode cX12_buy 33 = .ok (.iload_n 1, 1) := by decide +kernel
theorem dX12_buy_34 : decode cX12_buy 34 = .ok (.iaload, 1) := by decide +kernel
theorem dX12_buy_35 : decode cX12_buy 35 = .ok (.iadd, 1) := by decide +kernel
theorem dX12_buy_36 : decode cX12_buy 36 = .ok (.iastore, 1) := by decide +kernel
theorem dX12_buy_37 : decode cX12_buy 37 = .ok (.aload_n 0, 1) := by decide +kernel
theorem dX12_buy_38 : decode cX12_buy 38 = .ok (.getfield 97, 3) := by decide +kernel
theorem dX12_buy_41 : decode cX12_buy 41 = .ok (.bipush 22, 2) := by decide +kernel
theorem dX12_buy_43 : decode cX12_buy 43 = .ok (.iaload, 1) := by decide +kernel
theorem dX12_buy_44 : decode cX12_buy 44 = .ok (.ireturn, 1) := by decide +kernel
theorem dX12_pause_0 : decode cX12_pause 0 = .ok (.iload_n 1, 1) := by decide +kernel
theorem dX12_pause_1 : decode cX12_pause 1 = .ok (.iconst 1, 1) := by decide +kernel
theorem dX12_pause_2 : decode cX12_pause 2 = .ok (.bipush 60, 2) := by decide +kernel
theorem dX12_pause_4 : decode cX12_pause 4 = .ok (.invokestatic 418, 3) := by decide +kernel
theorem dX12_pause_7 : decode cX12_pause 7 = .ok (.ifCond .ne 5, 3) := by decide +kernel
theorem dX12_pause_10 : decode cX12_pause 10 = .ok (.iconst (-1), 1) := by decide +kernel
theorem dX12_pause_11 : decode cX12_pause 11 = .ok (.ireturn, 1) := by decide +kernel
theorem dX12_pause_12 : decode cX12_pause 12 = .ok (.aload_n 0, 1) := by decide +kernel
theorem dX12_pause_13 : decode cX12_pause 13 = .ok (.invokevirtual 458, 3) := by decide +kernel
theorem dX12_pause_16 : decode cX12_pause 16 = .ok (.aload_n 0, 1) := by decide +kernel
theorem dX12_pause_17 : decode cX12_pause 17 = .ok (.getfield 100, 3) := by decide +kernel
theorem dX12_pause_20 : decode cX12_pause 20 = .ok (.bipush 21, 2) := by decide +kernel
theorem dX12_pause_22 : decode cX12_pause 22 = .ok (.dup2, 1) := by decide +kernel
theorem dX12_pause_23 : decode cX12_pause 23 = .ok (.iaload, 1) := by decide +kernel
theorem dX12_pause_24 : decode cX12_pause 24 = .ok (.iload_n 1, 1) := by decide +kernel
theorem dX12_pause_25 : decode cX12_pause 25 = .ok (.iadd, 1) := by decide +kernel
theorem dX12_pause_26 : decode cX12_pause 26 = .ok (.iastore, 1) := by decide +kernel
theorem dX12_pause_27 : decode cX12_pause 27 = .ok (.aload_n 0, 1) := by decide +kernel
theorem dX12_pause_28 : decode cX12_pause 28 = .ok (.invokevirtual 433, 3) := by decide +kernel
theorem dX12_pause_31 : decode cX12_pause 31 = .ok (.istore_n 2, 1) := by decide +kernel
theorem dX12_pause_32 : decode cX12_pause 32 = .ok (.aload_n 0, 1) := by decide +kernel
theorem dX12_pause_33 : decode cX12_pause 33 = .ok (.invokevirtual 403, 3) := by decide +kernel
theorem dX12_pause_36 : decode cX12_pause 36 = .ok (.iload_n 2, 1) := by decide +kernel
theorem dX12_pause_37 : decode cX12_pause 37 = .ok (.ireturn, 1) := by decide +kernel
theorem dX12_changeNumbers_0 : decode cX12_changeNumbers 0 = .ok (.aload_n 0, 1) := by decide +kernel
theorem dX12_changeNumbers_1 : decode cX12_changeNumbers 1 = .ok (.getfield 100, 3) := by decide +kernel
theorem dX12_changeNumbers_4 : decode cX12_changeNumbers 4 = .ok (.bipush 14, 2) := by decide +kernel
theorem dX12_changeNumbers_6 : decode cX12_changeNumbers 6 = .ok (.iload_n 1, 1) := by decide +kernel
theorem dX12_changeNumbers_7 : decode cX12_changeNumbers 7 = .ok (.iadd, 1) := by decide +kernel
theorem dX12_changeNumbers_8 : decode cX12_changeNumbers 8 = .ok (.iaload, 1) := by decide +kernel
theorem dX12_changeNumbers_9 : decode cX12_changeNumbers 9 = .ok (.istore_n 3, 1) := by decide +kernel
theorem dX12_changeNumbers_10 : decode cX12_changeNumbers 10 = .ok (.aload_n 0, 1) := by decide +kernel
theorem dX12_changeNumbers_11 : decode cX12_changeNumbers 11 = .ok (.getfield 100, 3) := by decide +kernel
theorem dX12_changeNumbers_14 : decode cX12_changeNumbers 14 = .ok (.bipush 14, 2) := by decide +kernel
theorem dX12_changeNumbers_16 : decode cX12_changeNumbers 16 = .ok (.iload_n 1, 1) := by decide +kernel
theorem dX12_changeNumbers_17 : decode cX12_changeNumbers 17 = .ok (.iadd, 1) := by decide +kernel
theorem dX12_changeNumbers_18 : decode cX12_changeNumbers 18 = .ok (.aload_n 0, 1) := by decide +kernel
theorem dX12_changeNumbers_19 : decode cX12_changeNumbers 19 = .ok (.getfield 100, 3) := by decide +kernel
theorem dX12_changeNumbers_22 : decode cX12_changeNumbers 22 = .ok (.bipush 14, 2) := by decide +kernel
theorem dX12_changeNumbers_24 : decode cX12_changeNumbers 24 = .ok (.iload_n 2, 1) := by decide +kernel
theorem dX12_changeNumbers_25 : decode cX12_changeNumbers 25 = .ok (.iadd, 1) := by decide +kernel
theorem dX12_changeNumbers_26 : decode cX12_changeNumbers 26 = .ok (.iaload, 1) := by decide +kernel
theorem dX12_changeNumbers_27 : decode cX12_changeNumbers 27 = .ok (.iastore, 1) := by decide +kernel
theorem dX12_changeNumbers_28 : decode cX12_changeNumbers 28 = .ok (.aload_n 0, 1) := by decide +kernel
theorem dX12_changeNumbers_29 : decode cX12_changeNumbers 29 = .ok (.getfield 100, 3) := by decide +kernel
theorem dX12_changeNumbers_32 : decode cX12_changeNumbers 32 = .ok (.bipush 14, 2) := by decide +kernel
theorem dX12_changeNumbers_34 : decode cX12_changeNumbers 34 = .ok (.iload_n 2, 1) := by decide +kernel
theorem dX12_changeNumbers_35 : decode cX12_changeNumbers 35 = .ok (.iadd, 1) := by decide +kernel
theorem dX12_changeNumbers_36 : decode cX12_changeNumbers 36 = .ok (.iload_n 3, 1) := by decide +kernel
theorem dX12_changeNumbers_37 : decode cX12_changeNumbers 37 = .ok (.iastore, 1) := by decide +kernel
theorem dX12_changeNumbers_38 : decode cX12_changeNumbers 38 = .ok (.return_, 1) := by decide +kernel
theorem dX12_trade_0 : decode cX12_trade 0 = .ok (.aload_n 0, 1) := by decide +kernel
theorem dX12_trade_1 : decode cX12_trade 1 = .ok (.iload_n 1, 1) := by decide +kernel
theorem dX12_trade_2 : decode cX12_trade 2 = .ok (.invokevirtual 454, 3) := by decide +kernel
theorem dX12_trade_5 : decode cX12_trade 5 = .ok (.ifCond .eq 16, 3) := by decide +kernel
theorem dX12_trade_8 : decode cX12_trade 8 = .ok (.aload_n 0, 1) := by decide +kernel
theorem dX12_trade_9 : decode cX12_trade 9 = .ok (.iload_n 2, 1) := by decide +kernel
theorem dX12_trade_10 : decode cX12_trade 10 = .ok (.invokevirtual 454, 3) := by decide +kernel
theorem dX12_trade_13 : decode cX12_trade 13 = .ok (.ifCond .eq 8, 3) := by decide +kernel
theorem dX12_trade_16 : decode cX12_trade 16 = .ok (.iload_n 1, 1) := by decide +kernel
theorem dX12_trade_17 : decode cX12_trade 17 = .ok (.iload_n 2, 1) := by decide +kernel
theorem dX12_trade_18 : decode cX12_trade 18 = .ok (.if_icmp .ne 5, 3) := by decide +kernel
theorem dX12_trade_21 : decode cX12_trade 21 = .ok (.iconst (-1), 1) := by decide +kernel
theorem dX12_trade_22 : decode cX12_trade 22 = .ok (.ireturn, 1) := by decide +kernel
theorem dX12_trade_23 : decode cX12_trade 23 = .ok (.aload_n 0, 1) := by decide +kernel
theorem dX12_trade_24 : decode cX12_trade 24 = .ok (.invokevirtual 458, 3) := by decide +kernel
theorem dX12_trade_27 : decode cX12_trade 27 = .ok (.aload_n 0, 1) := by decide +kernel
theorem dX12_trade_28 : decode cX12_trade 28 = .ok (.iload_n 1, 1) := by decide +kernel
theorem dX12_trade_29 : decode cX12_trade 29 = .ok (.iload_n 2, 1) := by decide +kernel
theorem dX12_trade_30 : decode cX12_trade 30 = .ok (.invokevirtual 464, 3) := by decide +kernel
theorem dX12_trade_33 : decode cX12_trade 33 = .ok (.aload_n 0, 1) := by decide +kernel
theorem dX12_trade_34 : decode cX12_trade 34 = .ok (.invokevirtual 403, 3) := by decide +kernel
theorem dX12_trade_37 : decode cX12_trade 37 = .ok (.aload_n 0, 1) := by decide +kernel
theorem dX12_trade_38 : decode cX12_trade 38 = .ok (.getfield 97, 3) := by decide +kernel
theorem dX12_trade_41 : decode cX12_trade 41 = .ok (.bipush 14, 2) := by decide +kernel
theorem dX12_trade_43 : decode cX12_trade 43 = .ok (.iload_n 1, 1) := by decide +kernel
theorem dX12_trade_44 : decode cX12_trade 44 = .ok (.iadd, 1) := by decide +kernel
theorem dX12_trade_45 : decode cX12_trade 45 = .ok (.iaload, 1) := by decide +kernel
theorem dX12_trade_46 : decode cX12_trade 46 = .ok (.ireturn, 1) := by decide +kernel
theorem dX12_undo_0 : decode cX12_undo 0 = .ok (.aload_n 0, 1) := by decide +kernel
theorem dX12_undo_1 : decode cX12_undo 1 = .ok (.getfield 406, 3) := by decide +kernel
theorem dX12_undo_4 : decode cX12_undo 4 = .ok (.ifCond .ne 5, 3) := by decide +kernel
theorem dX12_undo_7 : decode cX12_undo 7 = .ok (.iconst 0, 1) := by decide +kernel
theorem dX12_undo_8 : decode cX12_undo 8 = .ok (.ireturn, 1) := by decide +kernel
theorem dX12_undo_9 : decode cX12_undo 9 = .ok (.aload_n 0, 1) := by decide +kernel
theorem dX12_undo_10 : decode cX12_undo 10 = .ok (.dup, 1) := by decide +kernel
theorem dX12_undo_11 : decode cX12_undo 11 = .ok (.getfield 406, 3) := by decide +kernel
theorem dX12_undo_14 : decode cX12_undo 14 = .ok (.iconst 1, 1) := by decide +kernel
theorem dX12_undo_15 : decode cX12_undo 15 = .ok (.isub, 1) := by decide +kernel
theorem dX12_undo_16 : decode cX12_undo 16 = .ok (.putfield 406, 3) := by decide +kernel
theorem dX12_undo_19 : decode cX12_undo 19 = .ok (.aload_n 0, 1) := by decide +kernel
theorem dX12_undo_20 : decode cX12_undo 20 = .ok (.dup, 1) := by decide +kernel
theorem dX12_undo_21 : decode cX12_undo 21 = .ok (.getfield 409, 3) := by decide +kernel
theorem dX12_undo_24 : decode cX12_undo 24 = .ok (.iconst 1, 1) := by decide +kernel
theorem dX12_undo_25 : decode cX12_undo 25 = .ok (.iadd, 1) := by decide +kernel
theorem dX12_undo_26 : decode cX12_undo 26 = .ok (.putfield 409, 3) := by decide +kernel
theorem dX12_undo_29 : decode cX12_undo 29 = .ok (.aload_n 0, 1) := by decide +kernel
theorem dX12_undo_30 : decode cX12_undo 30 = .ok (.bipush 24, 2) := by decide +kernel
theorem dX12_undo_32 : decode cX12_undo 32 = .ok (.aload_n 0, 1) := by decide +kernel
theorem dX12_undo_33 : decode cX12_undo 33 = .ok (.getfield 406, 3) := by decide +kernel
theorem dX12_undo_36 : decode cX12_undo 36 = .ok (.imul, 1) := by decide +kernel
theorem dX12_undo_37 : decode cX12_undo 37 = .ok (.invokevirtual 467, 3) := by decide +kernel
theorem dX12_undo_40 : decode cX12_undo 40 = .ok (.iconst 1, 1) := by decide +kernel
theorem dX12_undo_41 : decode cX12_undo 41 = .ok (.ireturn, 1) := by decide +kernel
theorem dX12_redo_0 : decode cX12_redo 0 = .ok (.aload_n 0, 1) := by decide +kernel
theorem dX12_redo_1 : decode cX12_redo 1 = .ok (.getfield 409, 3) := by decide +kernel
theorem dX12_redo_4 : decode cX12_redo 4 = .ok (.ifCond .ne 5, 3) := by decide +kernel
theorem dX12_redo_7 : decode cX12_redo 7 = .ok (.iconst 0, 1) := by decide +kernel
theorem dX12_redo_8 : decode cX12_redo 8 = .ok (.ireturn, 1) := by decide +kernel
theorem dX12_redo_9 : decode cX12_redo 9 = .ok (.aload_n 0, 1) := by decide +kernel
theorem dX12_redo_10 : decode cX12_redo 10 = .ok (.bipush 24, 2) := by decide +kernel
theorem dX12_redo_12 : decode cX12_redo 12 = .ok (.aload_n 0, 1) := by decide +kernel
theorem dX12_redo_13 : decode cX12_redo 13 = .ok (.getfield 406, 3) := by decide +kernel
theorem dX12_redo_16 : decode cX12_redo 16 = .ok (.imul, 1) := by decide +kernel
theorem dX12_redo_17 : decode cX12_redo 17 = .ok (.invokevirtual 467, 3) := by decide +kernel
theorem dX12_redo_20 : decode cX12_redo 20 = .ok (.aload_n 0, 1) := by decide +kernel
theorem dX12_redo_21 : decode cX12_redo 21 = .ok (.dup, 1) := by decide +kernel
theorem dX12_redo_22 : decode cX12_redo 22 = .ok (.getfield 406, 3) := by decide +kernel
theorem dX12_redo_25 : decode cX12_redo 25 = .ok (.iconst 1, 1) := by decide +kernel
theorem dX12_redo_26 : decode cX12_redo 26 = .ok (.iadd, 1) := by decide +kernel
theorem dX12_redo_27 : decode cX12_redo 27 = .ok (.putfield 406, 3) := by decide +kernel
theorem dX12_redo_30 : decode cX12_redo 30 = .ok (.aload_n 0, 1) := by decide +kernel
theorem dX12_redo_31 : decode cX12_redo 31 = .ok (.dup, 1) := by decide +kernel
theorem dX12_redo_32 : decode cX12_redo 32 = .ok (.getfield 409, 3) := by decide +kernel
theorem dX12_redo_35 : decode cX12_redo 35 = .ok (.iconst 1, 1) := by decide +kernel
theorem dX12_redo_36 : decode cX12_redo 36 = .ok (.isub, 1) := by decide +kernel
theorem dX12_redo_37 : decode cX12_redo 37 = .ok (.putfield 409, 3) := by decide +kernel
theorem dX12_redo_40 : decode cX12_redo 40 = .ok (.iconst 1, 1) := by decide +kernel
theorem dX12_redo_41 : decode cX12_redo 41 = .ok (.ireturn, 1) := by decide +kernel
theorem dX12_next_0 : decode cX12_next 0 = .ok (.aload_n 0, 1) := by decide +kernel
theorem dX12_next_1 : decode cX12_next 1 = .ok (.invokevirtual 445, 3) := by decide +kernel
theorem dX12_next_4 : decode cX12_next 4 = .ok (.aload_n 0, 1) := by decide +kernel
theorem dX12_next_5 : decode cX12_next 5 = .ok (.invokevirtual 439, 3) := by decide +kernel
theorem dX12_next_8 : decode cX12_next 8 = .ok (.ireturn, 1) := by decide +kernel
theorem dX12_queue_0 : decode cX12_queue 0 = .ok (.aload_n 0, 1) := by decide +kernel
theorem dX12_queue_1 : decode cX12_queue 1 = .ok (.invokevirtual 445, 3) := by decide +kernel
theorem dX12_queue_4 : decode cX12_queue 4 = .ok (.aload_n 0, 1) := by decide +kernel
theorem dX12_queue_5 : decode cX12_queue 5 = .ok (.iconst 0, 1) := by decide +kernel
theorem dX12_queue_6 : decode cX12_queue 6 = .ok (.invokevirtual 470, 3) := by decide +kernel
theorem dX12_queue_9 : decode cX12_queue 9 = .ok (.istore_n 1, 1) := by decide +kernel
theorem dX12_queue_10 : decode cX12_queue 10 = .ok (.aload_n 0, 1) := by decide +kernel
theorem dX12_queue_11 : decode cX12_queue 11 = .ok (.iconst 0, 1) := by decide +kernel
theorem dX12_queue_12 : decode cX12_queue 12 = .ok (.putfield 415, 3) := by decide +kernel
theorem dX12_queue_15 : decode cX12_queue 15 = .ok (.iload_n 1, 1) := by decide +kernel
theorem dX12_queue_16 : decode cX12_queue 16 = .ok (.ifCond .eq 86, 3) := by decide +kernel
theorem dX12_queue_19 : decode cX12_queue 19 = .ok (.iconst (-1), 1) := by decide +kernel
theorem dX12_queue_20 : decode cX12_queue 20 = .ok (.istore_n 2, 1) := by decide +kernel
theorem dX12_queue_21 : decode cX12_queue 21 = .ok (.iconst 0, 1) := by decide +kernel
theorem dX12_queue_22 : decode cX12_queue 22 = .ok (.istore_n 3, 1) := by decide +kernel
theorem dX12_queue_23 : decode cX12_queue 23 = .ok (.iload_n 3, 1) := by decide +kernel
theorem dX12_queue_24 : decode cX12_queue 24 = .ok (.aload_n 0, 1) := by decide +kernel
theorem dX12_queue_25 : decode cX12_queue 25 = .ok (.getfield 323, 3) := by decide +kernel
theorem dX12_queue_28 : decode cX12_queue 28 = .ok (.if_icmp .ge 43, 3) := by decide +kernel
theorem dX12_queue_31 : decode cX12_queue 31 = .ok (.iload_n 1, 1) := by decide +kernel
theorem dX12_queue_32 : decode cX12_queue 32 = .ok (.iload_n 3, 1) := by decide +kernel
theorem dX12_queue_33 : decode cX12_queue 33 = .ok (.ishr, 1) := by decide +kernel
theorem dX12_queue_34 : decode cX12_queue 34 = .ok (.iconst 1, 1) := by decide +kernel
theorem dX12_queue_35 : decode cX12_queue 35 = .ok (.iand, 1) := by decide +kernel
theorem dX12_queue_36 : decode cX12_queue 36 = .ok (.iconst 1, 1) := by decide +kernel
theorem dX12_queue_37 : decode cX12_queue 37 = .ok (.if_icmp .ne 28, 3) := by decide +kernel
theorem dX12_queue_40 : decode cX12_queue 40 = .ok (.iload_n 2, 1) := by decide +kernel
theorem dX12_queue_41 : decode cX12_queue 41 = .ok (.ifCond .lt 22, 3) := by decide +kernel
theorem dX12_queue_44 : decode cX12_queue 44 = .ok (.aload_n 0, 1) := by decide +kernel
theorem dX12_queue_45 : decode cX12_queue 45 = .ok (.iload_n 3, 1) := by decide +kernel
theorem dX12_queue_46 : decode cX12_queue 46 = .ok (.aload_n 0, 1) := by decide +kernel
theorem dX12_queue_47 : decode cX12_queue 47 = .ok (.iload_n 3, 1) := by decide +kernel
theorem dX12_queue_48 : decode cX12_queue 48 = .ok (.invokevirtual 426, 3) := by decide +kernel
theorem dX12_queue_51 : decode cX12_queue 51 = .ok (.iload_n 2, 1) := by decide +kernel
theorem dX12_queue_52 : decode cX12_queue 52 = .ok (.aload_n 0, 1) := by decide +kernel
theorem dX12_queue_53 : decode cX12_queue 53 = .ok (.iload_n 2, 1) := by decide +kernel
theorem dX12_queue_54 : decode cX12_queue 54 = .ok (.invokevirtual 426, 3) := by decide +kernel
theorem dX12_queue_57 : decode cX12_queue 57 = .ok (.invokevirtual 429, 3) := by decide +kernel
theorem dX12_queue_60 : decode cX12_queue 60 = .ok (.ifCond .eq 5, 3) := by decide +kernel
theorem dX12_queue_63 : decode cX12_queue 63 = .ok (.iload_n 3, 1) := by decide +kernel
theorem dX12_queue_64 : decode cX12_queue 64 = .ok (.istore_n 2, 1) := by decide +kernel
theorem dX12_queue_65 : decode cX12_queue 65 = .ok (.iinc 3 1, 3) := by decide +kernel
theorem dX12_queue_68 : decode cX12_queue 68 = .ok (.goto (-45), 3) := by decide +kernel
theorem dX12_queue_71 : decode cX12_queue 71 = .ok (.aload_n 0, 1) := by decide +kernel
theorem dX12_queue_72 : decode cX12_queue 72 = .ok (.getfield 112, 3) := by decide +kernel
theorem dX12_queue_75 : decode cX12_queue 75 = .ok (.aload_n 0, 1) := by decide +kernel
theorem dX12_queue_76 : decode cX12_queue 76 = .ok (.getfield 415, 3) := by decide +kernel
theorem dX12_queue_79 : decode cX12_queue 79 = .ok (.iload_n 2, 1) := by decide +kernel
theorem dX12_queue_80 : decode cX12_queue 80 = .ok (.iastore, 1) := by decide +kernel
theorem dX12_queue_81 : decode cX12_queue 81 = .ok (.aload_n 0, 1) := by decide +kernel
theorem dX12_queue_82 : decode cX12_queue 82 = .ok (.dup, 1) := by decide +kernel
theorem dX12_queue_83 : decode cX12_queue 83 = .ok (.getfield 415, 3) := by decide +kernel
theorem dX12_queue_86 : decode cX12_queue 86 = .ok (.iconst 1, 1) := by decide +kernel
theorem dX12_queue_87 : decode cX12_queue 87 = .ok (.iadd, 1) := by decide +kernel
theorem dX12_queue_88 : decode cX12_queue 88 = .ok (.putfield 415, 3) := by decide +kernel
theorem dX12_queue_91 : decode cX12_queue 91 = .ok (.iload_n 1, 1) := by decide +kernel
theorem dX12_queue_92 : decode cX12_queue 92 = .ok (.iconst 1, 1) := by decide +kernel
theorem dX12_queue_93 : decode cX12_queue 93 = .ok (.iload_n 2, 1) := by decide +kernel
theorem dX12_queue_94 : decode cX12_queue 94 = .ok (.ishl, 1) := by decide +kernel
theorem dX12_queue_95 : decode cX12_queue 95 = .ok (.iconst (-1), 1) := by decide +kernel
theorem dX12_queue_96 : decode cX12_queue 96 = .ok (.ixor, 1) := by decide +kernel
theorem dX12_queue_97 : decode cX12_queue 97 = .ok (.iand, 1) := by decide +kernel
theorem dX12_queue_98 : decode cX12_queue 98 = .ok (.istore_n 1, 1) := by decide +kernel
theorem dX12_queue_99 : decode cX12_queue 99 = .ok (.goto (-84), 3) := by decide +kernel
theorem dX12_queue_102 : decode cX12_queue 102 = .ok (.aload_n 0, 1) := by decide +kernel
theorem dX12_queue_103 : decode cX12_queue 103 = .ok (.getfield 415, 3) := by decide +kernel
theorem dX12_queue_106 : decode cX12_queue 106 = .ok (.ireturn, 1) := by decide +kernel
theorem dX12_dusk_0 : decode cX12_dusk 0 = .ok (.aload_n 0, 1) := by decide +kernel
theorem dX12_dusk_1 : decode cX12_dusk 1 = .ok (.invokevirtual 473, 3) := by decide +kernel
theorem dX12_dusk_4 : decode cX12_dusk 4 = .ok (.ireturn, 1) := by decide +kernel
theorem dX12_when_0 : decode cX12_when 0 = .ok (.aload_n 0, 1) := by decide +kernel
theorem dX12_when_1 : decode cX12_when 1 = .ok (.iload_n 1, 1) := by decide +kernel
theorem dX12_when_2 : decode cX12_when 2 = .ok (.invokevirtual 451, 3) := by decide +kernel
theorem dX12_when_5 : decode cX12_when 5 = .ok (.ifCond .ne 5, 3) := by decide +kernel
theorem dX12_when_8 : decode cX12_when 8 = .ok (.iconst (-1), 1) := by decide +kernel
theorem dX12_when_9 : decode cX12_when 9 = .ok (.ireturn, 1) := by decide +kernel
theorem dX12_when_10 : decode cX12_when 10 = .ok (.aload_n 0, 1) := by decide +kernel
theorem dX12_when_11 : decode cX12_when 11 = .ok (.invokevirtual 473, 3) := by decide +kernel
theorem dX12_when_14 : decode cX12_when 14 = .ok (.pop, 1) := by decide +kernel
theorem dX12_when_15 : decode cX12_when 15 = .ok (.iconst 0, 1) := by decide +kernel
theorem dX12_when_16 : decode cX12_when 16 = .ok (.istore_n 2, 1) := by decide +kernel
