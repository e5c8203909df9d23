theorem d_Md_get_156 : decode b_Md_get 156 = .ok (.iload_n 3, 1) := by decide +kernel
theorem d_Md_get_157 : decode b_Md_get 157 = .ok (.ixor, 1) := by decide +kernel
theorem d_Md_get_158 : decode b_Md_get 158 = .ok (.i2s, 1) := by decide +kernel
theorem d_Md_get_159 : decode b_Md_get 159 = .ok (.ireturn, 1) := by decide +kernel
theorem d_Md_get_160 : decode b_Md_get 160 = .ok (.iconst (-1), 1) := by decide +kernel
theorem d_Md_get_161 : decode b_Md_get 161 = .ok (.ireturn, 1) := by decide +kernel
theorem d_Md_get_162 : decode b_Md_get 162 = .ok (.iload_n 2, 1) := by decide +kernel
theorem d_Md_get_163 : decode b_Md_get 163 = .ok (.iconst 1, 1) := by decide +kernel
theorem d_Md_get_164 : decode b_Md_get 164 = .ok (.ishr, 1) := by decide +kernel
theorem d_Md_get_165 : decode b_Md_get 165 = .ok (.i2s, 1) := by decide +kernel
theorem d_Md_get_166 : decode b_Md_get 166 = .ok (.ireturn, 1) := by decide +kernel
theorem d_Md_get_167 : decode b_Md_get 167 = .ok (.aload_n 0, 1) := by decide +kernel
theorem d_Md_get_168 : decode b_Md_get 168 = .ok (.invokevirtual 153, 3) := by decide +kernel
theorem d_Md_get_171 : decode b_Md_get 171 = .ok (.ifCond .ge 7, 3) := by decide +kernel
theorem d_Md_get_174 : decode b_Md_get 174 = .ok (.iconst 0, 1) := by decide +kernel
theorem d_Md_get_175 : decode b_Md_get 175 = .ok (.goto 12, 3) := by decide +kernel
theorem d_Md_get_178 : decode b_Md_get 178 = .ok (.aload_n 0, 1) := by decide +kernel
theorem d_Md_get_179 : decode b_Md_get 179 = .ok (.getfield 20, 3) := by decide +kernel
theorem d_Md_get_182 : decode b_Md_get 182 = .ok (.aload_n 0, 1) := by decide +kernel
theorem d_Md_get_183 : decode b_Md_get 183 = .ok (.invokevirtual 153, 3) := by decide +kernel
theorem d_Md_get_186 : decode b_Md_get 186 = .ok (.saload, 1) := by decide +kernel
theorem d_Md_get_187 : decode b_Md_get 187 = .ok (.ireturn, 1) := by decide +kernel
theorem d_Md_get_188 : decode b_Md_get 188 = .ok (.iload_n 2, 1) := by decide +kernel
theorem d_Md_get_189 : decode b_Md_get 189 = .ok (.iconst (-1), 1) := by decide +kernel
theorem d_Md_get_190 : decode b_Md_get 190 = .ok (.ixor, 1) := by decide +kernel
theorem d_Md_get_191 : decode b_Md_get 191 = .ok (.i2s, 1) := by decide +kernel
theorem d_Md_get_192 : decode b_Md_get 192 = .ok (.ireturn, 1) := by decide +kernel
theorem d_Md_get_193 : decode b_Md_get 193 = .ok (.aload_n 0, 1) := by decide +kernel
theorem d_Md_get_194 : decode b_Md_get 194 = .ok (.getfield 128, 3) := by decide +kernel
theorem d_Md_get_197 : decode b_Md_get 197 = .ok (.i2s, 1) := by decide +kernel
theorem d_Md_get_198 : decode b_Md_get 198 = .ok (.ireturn, 1) := by decide +kernel
theorem d_Md_fail_0 : decode b_Md_fail 0 = .ok (.aload_n 0, 1) := by decide +kernel
theorem d_Md_fail_1 : decode b_Md_fail 1 = .ok (.aload_n 0, 1) := by decide +kernel
theorem d_Md_fail_2 : decode b_Md_fail 2 = .ok (.getfield 101, 3) := by decide +kernel
theorem d_Md_fail_5 : decode b_Md_fail 5 = .ok (.ifCond .ne 7, 3) := by decide +kernel
theorem d_Md_fail_8 : decode b_Md_fail 8 = .ok (.iload_n 1, 1) := by decide +kernel
theorem d_Md_fail_9 : decode b_Md_fail 9 = .ok (.goto 7, 3) := by decide +kernel
theorem d_Md_fail_12 : decode b_Md_fail 12 = .ok (.aload_n 0, 1) := by decide +kernel
theorem d_Md_fail_13 : decode b_Md_fail 13 = .ok (.getfield 101, 3) := by decide +kernel
theorem d_Md_fail_16 : decode b_Md_fail 16 = .ok (.putfield 101, 3) := by decide +kernel
theorem d_Md_fail_19 : decode b_Md_fail 19 = .ok (.aload_n 0, 1) := by decide +kernel
theorem d_Md_fail_20 : decode b_Md_fail 20 = .ok (.iconst 0, 1) := by decide +kernel
theorem d_Md_fail_21 : decode b_Md_fail 21 = .ok (.putfield 97, 3) := by decide +kernel
theorem d_Md_fail_24 : decode b_Md_fail 24 = .ok (.return_, 1) := by decide +kernel
theorem d_Md_put_0 : decode b_Md_put 0 = .ok (.iload_n 1, 1) := by decide +kernel
theorem d_Md_put_1 : decode b_Md_put 1 = .ok (.tableswitch 259 0 14 #[75, 78, 86, 86, 86, 86, 109, 109, 126, 145, 145, 186, 186, 220, 252], 75) := by decide +kernel
theorem d_Md_put_76 : decode b_Md_put 76 = .ok (.goto 189, 3) := by decide +kernel
theorem d_Md_put_79 : decode b_Md_put 79 = .ok (.aload_n 0, 1) := by decide +kernel
theorem d_Md_put_80 : decode b_Md_put 80 = .ok (.iconst 0, 1) := by decide +kernel
theorem d_Md_put_81 : decode b_Md_put 81 = .ok (.putfield 97, 3) := by decide +kernel
theorem d_Md_put_84 : decode b_Md_put 84 = .ok (.goto 181, 3) := by decide +kernel
theorem d_Md_put_87 : decode b_Md_put 87 = .ok (.aload_n 0, 1) := by decide +kernel
theorem d_Md_put_88 : decode b_Md_put 88 = .ok (.getfield 13, 3) := by decide +kernel
theorem d_Md_put_91 : decode b_Md_put 91 = .ok (.bipush 32, 2) := by decide +kernel
theorem d_Md_put_93 : decode b_Md_put 93 = .ok (.iload_n 1, 1) := by decide +kernel
theorem d_Md_put_94 : decode b_Md_put 94 = .ok (.iconst 2, 1) := by decide +kernel
theorem d_Md_put_95 : decode b_Md_put 95 = .ok (.isub, 1) := by decide +kernel
theorem d_Md_put_96 : decode b_Md_put 96 = .ok (.imul, 1) := by decide +kernel
theorem d_Md_put_97 : decode b_Md_put 97 = .ok (.aload_n 0, 1) := by decide +kernel
theorem d_Md_put_98 : decode b_Md_put 98 = .ok (.getfield 128, 3) := by decide +kernel
theorem d_Md_put_101 : decode b_Md_put 101 = .ok (.bipush 32, 2) := by decide +kernel
theorem d_Md_put_103 : decode b_Md_put 103 = .ok (.irem, 1) := by decide +kernel
theorem d_Md_put_104 : decode b_Md_put 104 = .ok (.iadd, 1) := by decide +kernel
theorem d_Md_put_105 : decode b_Md_put 105 = .ok (.iload_n 2, 1) := by decide +kernel
theorem d_Md_put_106 : decode b_Md_put 106 = .ok (.sastore, 1) := by decide +kernel
theorem d_Md_put_107 : decode b_Md_put 107 = .ok (.goto 158, 3) := by decide +kernel
theorem d_Md_put_110 : decode b_Md_put 110 = .ok (.aload_n 0, 1) := by decide +kernel
theorem d_Md_put_111 : decode b_Md_put 111 = .ok (.getfield 13, 3) := by decide +kernel
theorem d_Md_put_114 : decode b_Md_put 114 = .ok (.sipush 128, 3) := by decide +kernel
theorem d_Md_put_117 : decode b_Md_put 117 = .ok (.iload_n 1, 1) := by decide +kernel
theorem d_Md_put_118 : decode b_Md_put 118 = .ok (.iadd, 1) := by decide +kernel
theorem d_Md_put_119 : decode b_Md_put 119 = .ok (.bipush 6, 2) := by decide +kernel
theorem d_Md_put_121 : decode b_Md_put 121 = .ok (.isub, 1) := by decide +kernel
theorem d_Md_put_122 : decode b_Md_put 122 = .ok (.iload_n 2, 1) := by decide +kernel
theorem d_Md_put_123 : decode b_Md_put 123 = .ok (.sastore, 1) := by decide +kernel
theorem d_Md_put_124 : decode b_Md_put 124 = .ok (.goto 141, 3) := by decide +kernel
theorem d_Md_put_127 : decode b_Md_put 127 = .ok (.aload_n 0, 1) := by decide +kernel
theorem d_Md_put_128 : decode b_Md_put 128 = .ok (.getfield 13, 3) := by decide +kernel
theorem d_Md_put_131 : decode b_Md_put 131 = .ok (.sipush 130, 3) := by decide +kernel
theorem d_Md_put_134 : decode b_Md_put 134 = .ok (.aload_n 0, 1) := by decide +kernel
theorem d_Md_put_135 : decode b_Md_put 135 = .ok (.getfield 128, 3) := by decide +kernel
theorem d_Md_put_138 : decode b_Md_put 138 = .ok (.iconst 2, 1) := by decide +kernel
theorem d_Md_put_139 : decode b_Md_put 139 = .ok (.irem, 1) := by decide +kernel
theorem d_Md_put_140 : decode b_Md_put 140 = .ok (.iadd, 1) := by decide +kernel
theorem d_Md_put_141 : decode b_Md_put 141 = .ok (.iload_n 2, 1) := by decide +kernel
theorem d_Md_put_142 : decode b_Md_put 142 = .ok (.sastore, 1) := by decide +kernel
theorem d_Md_put_143 : decode b_Md_put 143 = .ok (.goto 122, 3) := by decide +kernel
theorem d_Md_put_146 : decode b_Md_put 146 = .ok (.aload_n 0, 1) := by decide +kernel
theorem d_Md_put_147 : decode b_Md_put 147 = .ok (.getfield 13, 3) := by decide +kernel
theorem d_Md_put_150 : decode b_Md_put 150 = .ok (.sipush 128, 3) := by decide +kernel
theorem d_Md_put_153 : decode b_Md_put 153 = .ok (.iload_n 1, 1) := by decide +kernel
theorem d_Md_put_154 : decode b_Md_put 154 = .ok (.bipush 9, 2) := by decide +kernel
theorem d_Md_put_156 : decode b_Md_put 156 = .ok (.if_icmp .ne 16, 3) := by decide +kernel
theorem d_Md_put_159 : decode b_Md_put 159 = .ok (.aload_n 0, 1) := by decide +kernel
theorem d_Md_put_160 : decode b_Md_put 160 = .ok (.getfield 13, 3) := by decide +kernel
theorem d_Md_put_163 : decode b_Md_put 163 = .ok (.sipush 128, 3) := by decide +kernel
theorem d_Md_put_166 : decode b_Md_put 166 = .ok (.saload, 1) := by decide +kernel
theorem d_Md_put_167 : decode b_Md_put 167 = .ok (.iload_n 2, 1) := by decide +kernel
theorem d_Md_put_168 : decode b_Md_put 168 = .ok (.iadd, 1) := by decide +kernel
theorem d_Md_put_169 : decode b_Md_put 169 = .ok (.goto 13, 3) := by decide +kernel
theorem d_Md_put_172 : decode b_Md_put 172 = .ok (.aload_n 0, 1) := by decide +kernel
theorem d_Md_put_173 : decode b_Md_put 173 = .ok (.getfield 13, 3) := by decide +kernel
theorem d_Md_put_176 : decode b_Md_put 176 = .ok (.sipush 128, 3) := by decide +kernel
theorem d_Md_put_179 : decode b_Md_put 179 = .ok (.saload, 1) := by decide +kernel
theorem d_Md_put_180 : decode b_Md_put 180 = .ok (.iload_n 2, 1) := by decide +kernel
theorem d_Md_put_181 : decode b_Md_put 181 = .ok (.isub, 1) := by decide +kernel
theorem d_Md_put_182 : decode b_Md_put 182 = .ok (.i2s, 1) := by decide +kernel
theorem d_Md_put_183 : decode b_Md_put 183 = .ok (.sastore, 1) := by decide +kernel
theorem d_Md_put_184 : decode b_Md_put 184 = .ok (.goto 81, 3) := by decide +kernel
theorem d_Md_put_187 : decode b_Md_put 187 = .ok (.aload_n 0, 1) := by decide +kernel
theorem d_Md_put_188 : decode b_Md_put 188 = .ok (.iload_n 1, 1) := by decide +kernel
theorem d_Md_put_189 : decode b_Md_put 189 = .ok (.bipush 11, 2) := by decide +kernel
theorem d_Md_put_191 : decode b_Md_put 191 = .ok (.if_icmp .ne 15, 3) := by decide +kernel
theorem d_Md_put_194 : decode b_Md_put 194 = .ok (.iload_n 2, 1) := by decide +kernel
theorem d_Md_put_195 : decode b_Md_put 195 = .ok (.ifCond .ge 7, 3) := by decide +kernel
theorem d_Md_put_198 : decode b_Md_put 198 = .ok (.iconst 1, 1) := by decide +kernel
theorem d_Md_put_199 : decode b_Md_put 199 = .ok (.goto 16, 3) := by decide +kernel
theorem d_Md_put_202 : decode b_Md_put 202 = .ok (.iconst 0, 1) := by decide +kernel
theorem d_Md_put_203 : decode b_Md_put 203 = .ok (.goto 12, 3) := by decide +kernel
theorem d_Md_put_206 : decode b_Md_put 206 = .ok (.iload_n 2, 1) := by decide +kernel
theorem d_Md_put_207 : decode b_Md_put 207 = .ok (.ifCond .eq 7, 3) := by decide +kernel
theorem d_Md_put_210 : decode b_Md_put 210 = .ok (.iconst 1, 1) := by decide +kernel
theorem d_Md_put_211 : decode b_Md_put 211 = .ok (.goto 4, 3) := by decide +kernel
theorem d_Md_put_214 : decode b_Md_put 214 = .ok (.iconst 0, 1) := by decide +kernel
theorem d_Md_put_215 : decode b_Md_put 215 = .ok (.invokevirtual 157, 3) := by decide +kernel
theorem d_Md_put_218 : decode b_Md_put 218 = .ok (.goto 47, 3) := by decide +kernel
theorem d_Md_put_221 : decode b_Md_put 221 = .ok (.aload_n 0, 1) := by decide +kernel
theorem d_Md_put_222 : decode b_Md_put 222 = .ok (.bipush 17, 2) := by decide +kernel
theorem d_Md_put_224 : decode b_Md_put 224 = .ok (.putfield 104, 3) := by decide +kernel
theorem d_Md_put_227 : decode b_Md_put 227 = .ok (.aload_n 0, 1) := by decide +kernel
theorem d_Md_put_228 : decode b_Md_put 228 = .ok (.iload_n 2, 1) := by decide +kernel
theorem d_Md_put_229 : decode b_Md_put 229 = .ok (.putfield 161, 3) := by decide +kernel
theorem d_Md_put_232 : decode b_Md_put 232 = .ok (.aload_n 0, 1) := by decide +kernel
theorem d_Md_put_233 : decode b_Md_put 233 = .ok (.getfield 13, 3) := by decide +kernel
theorem d_Md_put_236 : decode b_Md_put 236 = .ok (.sipush 130, 3) := by decide +kernel
theorem d_Md_put_239 : decode b_Md_put 239 = .ok (.iconst 0, 1) := by decide +kernel
theorem d_Md_put_240 : decode b_Md_put 240 = .ok (.sastore, 1) := by decide +kernel
theorem d_Md_put_241 : decode b_Md_put 241 = .ok (.aload_n 0, 1) := by decide +kernel
theorem d_Md_put_242 : decode b_Md_put 242 = .ok (.getfield 13, 3) := by decide +kernel
theorem d_Md_put_245 : decode b_Md_put 245 = .ok (.sipush 131, 3) := by decide +kernel
theorem d_Md_put_248 : decode b_Md_put 248 = .ok (.iconst 0, 1) := by decide +kernel
theorem d_Md_put_249 : decode b_Md_put 249 = .ok (.sastore, 1) := by decide +kernel
theorem d_Md_put_250 : decode b_Md_put 250 = .ok (.goto 15, 3) := by decide +kernel
theorem d_Md_put_253 : decode b_Md_put 253 = .ok (.aload_n 0, 1) := by decide +kernel
theorem d_Md_put_254 : decode b_Md_put 254 = .ok (.invokevirtual 164, 3) := by decide +kernel
theorem d_Md_put_257 : decode b_Md_put 257 = .ok (.goto 8, 3) := by decide +kernel
theorem d_Md_put_260 : decode b_Md_put 260 = .ok (.aload_n 0, 1) := by decide +kernel
theorem d_Md_put_261 : decode b_Md_put 261 = .ok (.iload_n 2, 1) := by decide +kernel
theorem d_Md_put_262 : decode b_Md_put 262 = .ok (.invokevirtual 167, 3) := by decide +kernel
theorem d_Md_put_265 : decode b_Md_put 265 = .ok (.return_, 1) := by decide +kernel
theorem d_Md_discriminate_0 : decode b_Md_discriminate 0 = .ok (.iload_n 1, 1) := by decide +kernel
theorem d_Md_discriminate_1 : decode b_Md_discriminate 1 = .ok (.ifCond .eq 21, 3) := by decide +kernel
theorem d_Md_discriminate_4 : decode b_Md_discriminate 4 = .ok (.aload_n 0, 1) := by decide +kernel
theorem d_Md_discriminate_5 : decode b_Md_discriminate 5 = .ok (.getfield 150, 3) := by decide +kernel
theorem d_Md_discriminate_8 : decode b_Md_discriminate 8 = .ok (.ifCond .ne 14, 3) := by decide +kernel
theorem d_Md_discriminate_11 : decode b_Md_discriminate 11 = .ok (.aload_n 0, 1) := by decide +kernel
theorem d_Md_discriminate_12 : decode b_Md_discriminate 12 = .ok (.getfield 131, 3) := by decide +kernel
theorem d_Md_discriminate_15 : decode b_Md_discriminate 15 = .ok (.aload_n 0, 1) := by decide +kernel
theorem d_Md_discriminate_16 : decode b_Md_discriminate 16 = .ok (.getfield 128, 3) := by decide +kernel
theorem d_Md_discriminate_19 : decode b_Md_discriminate 19 = .ok (.if_icmp .gt 4, 3) := by decide +kernel
theorem d_Md_discriminate_22 : decode b_Md_discriminate 22 = .ok (.return_, 1) := by decide +kernel
theorem d_Md_discriminate_23 : decode b_Md_discriminate 23 = .ok (.aload_n 0, 1) := by decide +kernel
theorem d_Md_discriminate_24 : decode b_Md_discriminate 24 = .ok (.iconst 1, 1) := by decide +kernel
theorem d_Md_discriminate_25 : decode b_Md_discriminate 25 = .ok (.putfield 150, 3) := by decide +kernel
theorem d_Md_discriminate_28 : decode b_Md_discriminate 28 = .ok (.aload_n 0, 1) := by decide +kernel
theorem d_Md_discriminate_29 : decode b_Md_discriminate 29 = .ok (.dup, 1) := by decide +kernel
theorem d_Md_discriminate_30 : decode b_Md_discriminate 30 = .ok (.getfield 131, 3) := by decide +kernel
theorem d_Md_discriminate_33 : decode b_Md_discriminate 33 = .ok (.iconst 1, 1) := by decide +kernel
theorem d_Md_discriminate_34 : decode b_Md_discriminate 34 = .ok (.iadd, 1) := by decide +kernel
theorem d_Md_discriminate_35 : decode b_Md_discriminate 35 = .ok (.putfield 131, 3) := by decide +kernel
theorem d_Md_discriminate_38 : decode b_Md_discriminate 38 = .ok (.return_, 1) := by decide +kernel
theorem d_Md_feed_0 : decode b_Md_feed 0 = .ok (.aload_n 0, 1) := by decide +kernel
theorem d_Md_feed_1 : decode b_Md_feed 1 = .ok (.getfield 94, 3) := by decide +kernel
theorem d_Md_feed_4 : decode b_Md_feed 4 = .ok (.bipush 12, 2) := by decide +kernel
theorem d_Md_feed_6 : decode b_Md_feed 6 = .ok (.if_icmp .lt 25, 3) := by decide +kernel
theorem d_Md_feed_9 : decode b_Md_feed 9 = .ok (.aload_n 0, 1) := by decide +kernel
theorem d_Md_feed_10 : decode b_Md_feed 10 = .ok (.getfield 23, 3) := by decide +kernel
theorem d_Md_feed_13 : decode b_Md_feed 13 = .ok (.ifCond .lt 24, 3) := by decide +kernel
theorem d_Md_feed_16 : decode b_Md_feed 16 = .ok (.aload_n 0, 1) := by decide +kernel
theorem d_Md_feed_17 : decode b_Md_feed 17 = .ok (.getfield 128, 3) := by decide +kernel
theorem d_Md_feed_20 : decode b_Md_feed 20 = .ok (.aload_n 0, 1) := by decide +kernel
theorem d_Md_feed_21 : decode b_Md_feed 21 = .ok (.getfield 23, 3) := by decide +kernel
theorem d_Md_feed_24 : decode b_Md_feed 24 = .ok (.sipush 130, 3) := by decide +kernel
theorem d_Md_feed_27 : decode b_Md_feed 27 = .ok (.iadd, 1) := by decide +kernel
theorem d_Md_feed_28 : decode b_Md_feed 28 = .ok (.if_icmp .gt 9, 3) := by decide +kernel
theorem d_Md_feed_31 : decode b_Md_feed 31 = .ok (.aload_n 0, 1) := by decide +kernel
theorem d_Md_feed_32 : decode b_Md_feed 32 = .ok (.iconst 2, 1) := by decide +kernel
theorem d_Md_feed_33 : decode b_Md_feed 33 = .ok (.invokevirtual 171, 3) := by decide +kernel
theorem d_Md_feed_36 : decode b_Md_feed 36 = .ok (.return_, 1) := by decide +kernel
theorem d_Md_feed_37 : decode b_Md_feed 37 = .ok (.iconst 0, 1) := by decide +kernel
theorem d_Md_feed_38 : decode b_Md_feed 38 = .ok (.istore_n 1, 1) := by decide +kernel
theorem d_Md_feed_39 : decode b_Md_feed 39 = .ok (.iload_n 1, 1) := by decide +kernel
theorem d_Md_feed_40 : decode b_Md_feed 40 = .ok (.bipush 12, 2) := by decide +kernel
theorem d_Md_feed_42 : decode b_Md_feed 42 = .ok (.if_icmp .ge 21, 3) := by decide +kernel
theorem d_Md_feed_45 : decode b_Md_feed 45 = .ok (.aload_n 0, 1) := by decide +kernel
theorem d_Md_feed_46 : decode b_Md_feed 46 = .ok (.getfield 20, 3) := by decide +kernel
theorem d_Md_feed_49 : decode b_Md_feed 49 = .ok (.iload_n 1, 1) := by decide +kernel
theorem d_Md_feed_50 : decode b_Md_feed 50 = .ok (.aload_n 0, 1) := by decide +kernel
theorem d_Md_feed_51 : decode b_Md_feed 51 = .ok (.getfield 17, 3) := by decide +kernel
theorem d_Md_feed_54 : decode b_Md_feed 54 = .ok (.iload_n 1, 1) := by decide +kernel
theorem d_Md_feed_55 : decode b_Md_feed 55 = .ok (.saload, 1) := by decide +kernel
theorem d_Md_feed_56 : decode b_Md_feed 56 = .ok (.sastore, 1) := by decide +kernel
theorem d_Md_feed_57 : decode b_Md_feed 57 = .ok (.iinc 1 1, 3) := by decide +kernel
theorem d_Md_feed_60 : decode b_Md_feed 60 = .ok (.goto (-21), 3) := by decide +kernel
theorem d_Md_feed_63 : decode b_Md_feed 63 = .ok (.aload_n 0, 1) := by decide +kernel
theorem d_Md_feed_64 : decode b_Md_feed 64 = .ok (.dup, 1) := by decide +kernel
theorem d_Md_feed_65 : decode b_Md_feed 65 = .ok (.getfield 94, 3) := by decide +kernel
theorem d_Md_feed_68 : decode b_Md_feed 68 = .ok (.bipush 12, 2) := by decide +kernel
theorem d_Md_feed_70 : decode b_Md_feed 70 = .ok (.isub, 1) := by decide +kernel
theorem d_Md_feed_71 : decode b_Md_feed 71 = .ok (.putfield 94, 3) := by decide +kernel
theorem d_Md_feed_74 : decode b_Md_feed 74 = .ok (.iconst 0, 1) := by decide +kernel
theorem d_Md_feed_75 : decode b_Md_feed 75 = .ok (.istore_n 1, 1) := by decide +kernel
theorem d_Md_feed_76 : decode b_Md_feed 76 = .ok (.iload_n 1, 1) := by decide +kernel
theorem d_Md_feed_77 : decode b_Md_feed 77 = .ok (.aload_n 0, 1) := by decide +kernel
theorem d_Md_feed_78 : decode b_Md_feed 78 = .ok (.getfield 94, 3) := by decide +kernel
theorem d_Md_feed_81 : decode b_Md_feed 81 = .ok (.if_icmp .ge 24, 3) := by decide +kernel
theorem d_Md_feed_84 : decode b_Md_feed 84 = .ok (.aload_n 0, 1) := by decide +kernel
theorem d_Md_feed_85 : decode b_Md_feed 85 = .ok (.getfield 17, 3) := by decide +kernel
theorem d_Md_feed_88 : decode b_Md_feed 88 = .ok (.iload_n 1, 1) := by decide +kernel
theorem d_Md_feed_89 : decode b_Md_feed 89 = .ok (.aload_n 0, 1) := by decide +kernel
theorem d_Md_feed_90 : decode b_Md_feed 90 = .ok (.getfield 17, 3) := by decide +kernel
theorem d_Md_feed_93 : decode b_Md_feed 93 = .ok (.iload_n 1, 1) := by decide +kernel
theorem d_Md_feed_94 : decode b_Md_feed 94 = .ok (.bipush 12, 2) := by decide +kernel
theorem d_Md_feed_96 : decode b_Md_feed 96 = .ok (.iadd, 1) := by decide +kernel
theorem d_Md_feed_97 : decode b_Md_feed 97 = .ok (.saload, 1) := by decide +kernel
theorem d_Md_feed_98 : decode b_Md_feed 98 = .ok (.sastore, 1) := by decide +kernel
theorem d_Md_feed_99 : decode b_Md_feed 99 = .ok (.iinc 1 1, 3) := by decide +kernel
theorem d_Md_feed_102 : decode b_Md_feed 102 = .ok (.goto (-26), 3) := by decide +kernel
theorem d_Md_feed_105 : decode b_Md_feed 105 = .ok (.aload_n 0, 1) := by decide +kernel
theorem d_Md_feed_106 : decode b_Md_feed 106 = .ok (.aload_n 0, 1) := by decide +kernel
theorem d_Md_feed_107 : decode b_Md_feed 107 = .ok (.getfield 128, 3) := by decide +kernel
theorem d_Md_feed_110 : decode b_Md_feed 110 = .ok (.putfield 23, 3) := by decide +kernel
theorem d_Md_feed_113 : decode b_Md_feed 113 = .ok (.aload_n 0, 1) := by decide +kernel
theorem d_Md_feed_114 : decode b_Md_feed 114 = .ok (.iconst 0, 1) := by decide +kernel
theorem d_Md_feed_115 : decode b_Md_feed 115 = .ok (.putfield 175, 3) := by decide +kernel
theorem d_Md_feed_118 : decode b_Md_feed 118 = .ok (.return_, 1) := by decide +kernel
theorem d_Md_press_0 : decode b_Md_press 0 = .ok (.aload_n 0, 1) := by decide +kernel
theorem d_Md_press_1 : decode b_Md_press 1 = .ok (.getfield 178, 3) := by decide +kernel
theorem d_Md_press_4 : decode b_Md_press 4 = .ok (.bipush 60, 2) := by decide +kernel
theorem d_Md_press_6 : decode b_Md_press 6 = .ok (.if_icmp .eq 17, 3) := by decide +kernel
theorem d_Md_press_9 : decode b_Md_press 9 = .ok (.aload_n 0, 1) := by decide +kernel
theorem d_Md_press_10 : decode b_Md_press 10 = .ok (.getfield 128, 3) := by decide +kernel
theorem d_Md_press_13 : decode b_Md_press 13 = .ok (.aload_n 0, 1) := by decide +kernel
theorem d_Md_press_14 : decode b_Md_press 14 = .ok (.getfield 30, 3) := by decide +kernel
theorem d_Md_press_17 : decode b_Md_press 17 = .ok (.isub, 1) := by decide +kernel
theorem d_Md_press_18 : decode b_Md_press 18 = .ok (.bipush 6, 2) := by decide +kernel
theorem d_Md_press_20 : decode b_Md_press 20 = .ok (.if_icmp .ge 9, 3) := by decide +kernel
theorem d_Md_press_23 : decode b_Md_press 23 = .ok (.aload_n 0, 1) := by decide +kernel
theorem d_Md_press_24 : decode b_Md_press 24 = .ok (.iconst 3, 1) := by decide +kernel
theorem d_Md_press_25 : decode b_Md_press 25 = .ok (.invokevirtual 171, 3) := by decide +kernel
theorem d_Md_press_28 : decode b_Md_press 28 = .ok (.return_, 1) := by decide +kernel
theorem d_Md_press_29 : decode b_Md_press 29 = .ok (.aload_n 0, 1) := by decide +kernel
theorem d_Md_press_30 : decode b_Md_press 30 = .ok (.getfield 27, 3) := by decide +kernel
theorem d_Md_press_33 : decode b_Md_press 33 = .ok (.aload_n 0, 1) := by decide +kernel
theorem d_Md_press_34 : decode b_Md_press 34 = .ok (.getfield 178, 3) := by decide +kernel
theorem d_Md_press_37 : decode b_Md_press 37 = .ok (.iload_n 1, 1) := by decide +kernel
theorem d_Md_press_38 : decode b_Md_press 38 = .ok (.sastore, 1) := by decide +kernel
theorem d_Md_press_39 : decode b_Md_press 39 = .ok (.aload_n 0, 1) := by decide +kernel
theorem d_Md_press_40 : decode b_Md_press 40 = .ok (.dup, 1) := by decide +kernel
theorem d_Md_press_41 : decode b_Md_press 41 = .ok (.getfield 178, 3) := by decide +kernel
theorem d_Md_press_44 : decode b_Md_press 44 = .ok (.iconst 1, 1) := by decide +kernel
theorem d_Md_press_45 : decode b_Md_press 45 = .ok (.iadd, 1) := by decide +kernel
theorem d_Md_press_46 : decode b_Md_press 46 = .ok (.putfield 178, 3) := by decide +kernel
theorem d_Md_press_49 : decode b_Md_press 49 = .ok (.aload_n 0, 1) := by decide +kernel
theorem d_Md_press_50 : decode b_Md_press 50 = .ok (.aload_n 0, 1) := by decide +kernel
theorem d_Md_press_51 : decode b_Md_press 51 = .ok (.getfield 128, 3) := by decide +kernel
theorem d_Md_press_54 : decode b_Md_press 54 = .ok (.putfield 30, 3) := by decide +kernel
theorem d_Md_press_57 : decode b_Md_press 57 = .ok (.return_, 1) := by decide +kernel
theorem d_Md_current_0 : decode b_Md_current 0 = .ok (.aload_n 0, 1) := by decide +kernel
theorem d_Md_current_1 : decode b_Md_current 1 = .ok (.getfield 128, 3) := by decide +kernel
theorem d_Md_current_4 : decode b_Md_current 4 = .ok (.aload_n 0, 1) := by decide +kernel
theorem d_Md_current_5 : decode b_Md_current 5 = .ok (.getfield 116, 3) := by decide +kernel
theorem d_Md_current_8 : decode b_Md_current 8 = .ok (.if_icmp .lt 21, 3) := by decide +kernel
theorem d_Md_current_11 : decode b_Md_current 11 = .ok (.aload_n 0, 1) := by decide +kernel
theorem d_Md_current_12 : decode b_Md_current 12 = .ok (.getfield 128, 3) := by decide +kernel
theorem d_Md_current_15 : decode b_Md_current 15 = .ok (.aload_n 0, 1) := by decide +kernel
theorem d_Md_current_16 : decode b_Md_current 16 = .ok (.getfield 119, 3) := by decide +kernel
theorem d_Md_current_19 : decode b_Md_current 19 = .ok (.if_icmp .gt 10, 3) := by decide +kernel
theorem d_Md_current_22 : decode b_Md_current 22 = .ok (.aload_n 0, 1) := by decide +kernel
theorem d_Md_current_23 : decode b_Md_current 23 = .ok (.getfield 141, 3) := by decide +kernel
theorem d_Md_current_26 : decode b_Md_current 26 = .ok (.goto 33, 3) := by decide +kernel
theorem d_Md_current_29 : decode b_Md_current 29 = .ok (.aload_n 0, 1) := by decide +kernel
theorem d_Md_current_30 : decode b_Md_current 30 = .ok (.getfield 128, 3) := by decide +kernel
theorem d_Md_current_33 : decode b_Md_current 33 = .ok (.aload_n 0, 1) := by decide +kernel
theorem d_Md_current_34 : decode b_Md_current 34 = .ok (.getfield 122, 3) := by decide +kernel
theorem d_Md_current_37 : decode b_Md_current 37 = .ok (.if_icmp .lt 21, 3) := by decide +kernel
theorem d_Md_current_40 : decode b_Md_current 40 = .ok (.aload_n 0, 1) := by decide +kernel
theorem d_Md_current_41 : decode b_Md_current 41 = .ok (.getfield 128, 3) := by decide +kernel
theorem d_Md_current_44 : decode b_Md_current 44 = .ok (.aload_n 0, 1) := by decide +kernel
theorem d_Md_current_45 : decode b_Md_current 45 = .ok (.getfield 125, 3) := by decide +kernel
theorem d_Md_current_48 : decode b_Md_current 48 = .ok (.if_icmp .gt 10, 3) := by decide +kernel
theorem d_Md_current_51 : decode b_Md_current 51 = .ok (.aload_n 0, 1) := by decide +kernel
theorem d_Md_current_52 : decode b_Md_current 52 = .ok (.getfield 144, 3) := by decide +kernel
theorem d_Md_current_55 : decode b_Md_current 55 = .ok (.goto 4, 3) := by decide +kernel
theorem d_Md_current_58 : decode b_Md_current 58 = .ok (.iconst (-1), 1) := by decide +kernel
theorem d_Md_current_59 : decode b_Md_current 59 = .ok (.ireturn, 1) := by decide +kernel
theorem d_Md_cycle_0 : decode b_Md_cycle 0 = .ok (.aload_n 0, 1) := by decide +kernel
theorem d_Md_cycle_1 : decode b_Md_cycle 1 = .ok (.getfield 128, 3) := by decide +kernel
theorem d_Md_cycle_4 : decode b_Md_cycle 4 = .ok (.aload_n 0, 1) := by decide +kernel
theorem d_Md_cycle_5 : decode b_Md_cycle 5 = .ok (.getfield 131, 3) := by decide +kernel
theorem d_Md_cycle_8 : decode b_Md_cycle 8 = .ok (.if_icmp .ne 7, 3) := by decide +kernel
theorem d_Md_cycle_11 : decode b_Md_cycle 11 = .ok (.aload_n 0, 1) := by decide +kernel
theorem d_Md_cycle_12 : decode b_Md_cycle 12 = .ok (.invokevirtual 181, 3) := by decide +kernel
theorem d_Md_cycle_15 : decode b_Md_cycle 15 = .ok (.aload_n 0, 1) := by decide +kernel
theorem d_Md_cycle_16 : decode b_Md_cycle 16 = .ok (.invokevirtual 153, 3) := by decide +kernel
theorem d_Md_cycle_19 : decode b_Md_cycle 19 = .ok (.istore_n 1, 1) := by decide +kernel
theorem d_Md_cycle_20 : decode b_Md_cycle 20 = .ok (.aload_n 0, 1) := by decide +kernel
theorem d_Md_cycle_21 : decode b_Md_cycle 21 = .ok (.getfield 128, 3) := by decide +kernel
theorem d_Md_cycle_24 : decode b_Md_cycle 24 = .ok (.aload_n 0, 1) := by decide +kernel
theorem d_Md_cycle_25 : decode b_Md_cycle 25 = .ok (.getfield 23, 3) := by decide +kernel
theorem d_Md_cycle_28 : decode b_Md_cycle 28 = .ok (.isub, 1) := by decide +kernel
theorem d_Md_cycle_29 : decode b_Md_cycle 29 = .ok (.bipush 40, 2) := by decide +kernel
theorem d_Md_cycle_31 : decode b_Md_cycle 31 = .ok (.isub, 1) := by decide +kernel
theorem d_Md_cycle_32 : decode b_Md_cycle 32 = .ok (.istore_n 2, 1) := by decide +kernel
theorem d_Md_cycle_33 : decode b_Md_cycle 33 = .ok (.aload_n 0, 1) := by decide +kernel
theorem d_Md_cycle_34 : decode b_Md_cycle 34 = .ok (.aload_n 0, 1) := by decide +kernel
theorem d_Md_cycle_35 : decode b_Md_cycle 35 = .ok (.getfield 175, 3) := by decide +kernel
theorem d_Md_cycle_38 : decode b_Md_cycle 38 = .ok (.ifCond .eq 18, 3) := by decide +kernel
theorem d_Md_cycle_41 : decode b_Md_cycle 41 = .ok (.iload_n 1, 1) := by decide +kernel
theorem d_Md_cycle_42 : decode b_Md_cycle 42 = .ok (.ifCond .lt 10, 3) := by decide +kernel
theorem d_Md_cycle_45 : decode b_Md_cycle 45 = .ok (.iload_n 2, 1) := by decide +kernel
theorem d_Md_cycle_46 : decode b_Md_cycle 46 = .ok (.bipush 8, 2) := by decide +kernel
theorem d_Md_cycle_48 : decode b_Md_cycle 48 = .ok (.irem, 1) := by decide +kernel
theorem d_Md_cycle_49 : decode b_Md_cycle 49 = .ok (.ifCond .eq 7, 3) := by decide +kernel
theorem d_Md_cycle_52 : decode b_Md_cycle 52 = .ok (.iconst 1, 1) := by decide +kernel
theorem d_Md_cycle_53 : decode b_Md_cycle 53 = .ok (.goto 4, 3) := by decide +kernel
theorem d_Md_cycle_56 : decode b_Md_cycle 56 = .ok (.iconst 0, 1) := by decide +kernel
theorem d_Md_cycle_57 : decode b_Md_cycle 57 = .ok (.putfield 175, 3) := by decide +kernel
theorem d_Md_cycle_60 : decode b_Md_cycle 60 = .ok (.aload_n 0, 1) := by decide +kernel
theorem d_Md_cycle_61 : decode b_Md_cycle 61 = .ok (.getfield 128, 3) := by decide +kernel
theorem d_Md_cycle_64 : decode b_Md_cycle 64 = .ok (.aload_n 0, 1) := by decide +kernel
theorem d_Md_cycle_65 : decode b_Md_cycle 65 = .ok (.getfield 116, 3) := by decide +kernel
theorem d_Md_cycle_68 : decode b_Md_cycle 68 = .ok (.if_icmp .lt 18, 3) := by decide +kernel
theorem d_Md_cycle_71 : decode b_Md_cycle 71 = .ok (.aload_n 0, 1) := by decide +kernel
theorem d_Md_cycle_72 : decode b_Md_cycle 72 = .ok (.getfield 128, 3) := by decide +kernel
theorem d_Md_cycle_75 : decode b_Md_cycle 75 = .ok (.aload_n 0, 1) := by decide +kernel
theorem d_Md_cycle_76 : decode b_Md_cycle 76 = .ok (.getfield 119, 3) := by decide +kernel
theorem d_Md_cycle_79 : decode b_Md_cycle 79 = .ok (.if_icmp .gt 7, 3) := by decide +kernel
theorem d_Md_cycle_82 : decode b_Md_cycle 82 = .ok (.iconst 1, 1) := by decide +kernel
theorem d_Md_cycle_83 : decode b_Md_cycle 83 = .ok (.goto 4, 3) := by decide +kernel
theorem d_Md_cycle_86 : decode b_Md_cycle 86 = .ok (.iconst 0, 1) := by decide +kernel
theorem d_Md_cycle_87 : decode b_Md_cycle 87 = .ok (.istore_n 3, 1) := by decide +kernel
theorem d_Md_cycle_88 : decode b_Md_cycle 88 = .ok (.aload_n 0, 1) := by decide +kernel
theorem d_Md_cycle_89 : decode b_Md_cycle 89 = .ok (.invokevirtual 184, 3) := by decide +kernel
theorem d_Md_cycle_92 : decode b_Md_cycle 92 = .ok (.istore 4, 2) := by decide +kernel
theorem d_Md_cycle_94 : decode b_Md_cycle 94 = .ok (.iload 4, 2) := by decide +kernel
theorem d_Md_cycle_96 : decode b_Md_cycle 96 = .ok (.ifCond .lt 85, 3) := by decide +kernel
theorem d_Md_cycle_99 : decode b_Md_cycle 99 = .ok (.aload_n 0, 1) := by decide +kernel
theorem d_Md_cycle_100 : decode b_Md_cycle 100 = .ok (.iload 4, 2) := by decide +kernel
theorem d_Md_cycle_102 : decode b_Md_cycle 102 = .ok (.bipush 15, 2) := by decide +kernel
theorem d_Md_cycle_104 : decode b_Md_cycle 104 = .ok (.iand, 1) := by decide +kernel
theorem d_Md_cycle_105 : decode b_Md_cycle 105 = .ok (.invokevirtual 187, 3) := by decide +kernel
theorem d_Md_cycle_108 : decode b_Md_cycle 108 = .ok (.istore 5, 2) := by decide +kernel
theorem d_Md_cycle_110 : decode b_Md_cycle 110 = .ok (.aload_n 0, 1) := by decide +kernel
theorem d_Md_cycle_111 : decode b_Md_cycle 111 = .ok (.aload_n 0, 1) := by decide +kernel
theorem d_Md_cycle_112 : decode b_Md_cycle 112 = .ok (.getfield 175, 3) := by decide +kernel
theorem d_Md_cycle_115 : decode b_Md_cycle 115 = .ok (.ifCond .ne 17, 3) := by decide +kernel
theorem d_Md_cycle_118 : decode b_Md_cycle 118 = .ok (.iload_n 1, 1) := by decide +kernel
theorem d_Md_cycle_119 : decode b_Md_cycle 119 = .ok (.ifCond .lt 17, 3) := by decide +kernel
theorem d_Md_cycle_122 : decode b_Md_cycle 122 = .ok (.iload 4, 2) := by decide +kernel
theorem d_Md_cycle_124 : decode b_Md_cycle 124 = .ok (.bipush 15, 2) := by decide +kernel
theorem d_Md_cycle_126 : decode b_Md_cycle 126 = .ok (.iand, 1) := by decide +kernel
theorem d_Md_cycle_127 : decode b_Md_cycle 127 = .ok (.bipush 13, 2) := by decide +kernel
theorem d_Md_cycle_129 : decode b_Md_cycle 129 = .ok (.if_icmp .ne 7, 3) := by decide +kernel
theorem d_Md_cycle_132 : decode b_Md_cycle 132 = .ok (.iconst 1, 1) := by decide +kernel
theorem d_Md_cycle_133 : decode b_Md_cycle 133 = .ok (.goto 4, 3) := by decide +kernel
theorem d_Md_cycle_136 : decode b_Md_cycle 136 = .ok (.iconst 0, 1) := by decide +kernel
theorem d_Md_cycle_137 : decode b_Md_cycle 137 = .ok (.putfield 175, 3) := by decide +kernel
theorem d_Md_cycle_140 : decode b_Md_cycle 140 = .ok (.iload_n 3, 1) := by decide +kernel
theorem d_Md_cycle_141 : decode b_Md_cycle 141 = .ok (.ifCond .ne 27, 3) := by decide +kernel
theorem d_Md_cycle_144 : decode b_Md_cycle 144 = .ok (.iload 4, 2) := by decide +kernel
theorem d_Md_cycle_146 : decode b_Md_cycle 146 = .ok (.iconst 4, 1) := by decide +kernel
theorem d_Md_cycle_147 : decode b_Md_cycle 147 = .ok (.ishr, 1) := by decide +kernel
theorem d_Md_cycle_148 : decode b_Md_cycle 148 = .ok (.bipush 15, 2) := by decide +kernel
theorem d_Md_cycle_150 : decode b_Md_cycle 150 = .ok (.iand, 1) := by decide +kernel
theorem d_Md_cycle_151 : decode b_Md_cycle 151 = .ok (.bipush 11, 2) := by decide +kernel
theorem d_Md_cycle_153 : decode b_Md_cycle 153 = .ok (.if_icmp .eq 28, 3) := by decide +kernel
theorem d_Md_cycle_156 : decode b_Md_cycle 156 = .ok (.iload 4, 2) := by decide +kernel
theorem d_Md_cycle_158 : decode b_Md_cycle 158 = .ok (.iconst 4, 1) := by decide +kernel
theorem d_Md_cycle_159 : decode b_Md_cycle 159 = .ok (.ishr, 1) := by decide +kernel
theorem d_Md_cycle_160 : decode b_Md_cycle 160 = .ok (.bipush 15, 2) := by decide +kernel
theorem d_Md_cycle_162 : decode b_Md_cycle 162 = .ok (.iand, 1) := by decide +kernel
theorem d_Md_cycle_163 : decode b_Md_cycle 163 = .ok (.bipush 12, 2) := by decide +kernel
theorem d_Md_cycle_165 : decode b_Md_cycle 165 = .ok (.if_icmp .eq 16, 3) := by decide +kernel
theorem d_Md_cycle_168 : decode b_Md_cycle 168 = .ok (.aload_n 0, 1) := by decide +kernel
theorem d_Md_cycle_169 : decode b_Md_cycle 169 = .ok (.iload 4, 2) := by decide +kernel
theorem d_Md_cycle_171 : decode b_Md_cycle 171 = .ok (.iconst 4, 1) := by decide +kernel
theorem d_Md_cycle_172 : decode b_Md_cycle 172 = .ok (.ishr, 1) := by decide +kernel
theorem d_Md_cycle_173 : decode b_Md_cycle 173 = .ok (.bipush 15, 2) := by decide +kernel
theorem d_Md_cycle_175 : decode b_Md_cycle 175 = .ok (.iand, 1) := by decide +kernel
theorem d_Md_cycle_176 : decode b_Md_cycle 176 = .ok (.iload 5, 2) := by decide +kernel
theorem d_Md_cycle_178 : decode b_Md_cycle 178 = .ok (.invokevirtual 191, 3) := by decide +kernel
theorem d_Md_cycle_181 : decode b_Md_cycle 181 = .ok (.aload_n 0, 1) := by decide +kernel
theorem d_Md_cycle_182 : decode b_Md_cycle 182 = .ok (.invokevirtual 195, 3) := by decide +kernel
theorem d_Md_cycle_185 : decode b_Md_cycle 185 = .ok (.iload_n 1, 1) := by decide +kernel
theorem d_Md_cycle_186 : decode b_Md_cycle 186 = .ok (.ifCond .lt 23, 3) := by decide +kernel
theorem d_Md_cycle_189 : decode b_Md_cycle 189 = .ok (.iload_n 2, 1) := by decide +kernel
theorem d_Md_cycle_190 : decode b_Md_cycle 190 = .ok (.bipush 8, 2) := by decide +kernel
theorem d_Md_cycle_192 : decode b_Md_cycle 192 = .ok (.irem, 1) := by decide +kernel
theorem d_Md_cycle_193 : decode b_Md_cycle 193 = .ok (.iconst 2, 1) := by decide +kernel
theorem d_Md_cycle_194 : decode b_Md_cycle 194 = .ok (.if_icmp .ne 15, 3) := by decide +kernel
theorem d_Md_cycle_197 : decode b_Md_cycle 197 = .ok (.aload_n 0, 1) := by decide +kernel
theorem d_Md_cycle_198 : decode b_Md_cycle 198 = .ok (.getfield 175, 3) := by decide +kernel
theorem d_Md_cycle_201 : decode b_Md_cycle 201 = .ok (.ifCond .ne 8, 3) := by decide +kernel
theorem d_Md_cycle_204 : decode b_Md_cycle 204 = .ok (.aload_n 0, 1) := by decide +kernel
theorem d_Md_cycle_205 : decode b_Md_cycle 205 = .ok (.iconst 1, 1) := by decide +kernel
theorem d_Md_cycle_206 : decode b_Md_cycle 206 = .ok (.invokevirtual 171, 3) := by decide +kernel
theorem d_Md_cycle_209 : decode b_Md_cycle 209 = .ok (.aload_n 0, 1) := by decide +kernel
theorem d_Md_cycle_210 : decode b_Md_cycle 210 = .ok (.dup, 1) := by decide +kernel
theorem d_Md_cycle_211 : decode b_Md_cycle 211 = .ok (.getfield 128, 3) := by decide +kernel
theorem d_Md_cycle_214 : decode b_Md_cycle 214 = .ok (.iconst 1, 1) := by decide +kernel
theorem d_Md_cycle_215 : decode b_Md_cycle 215 = .ok (.iadd, 1) := by decide +kernel
theorem d_Md_cycle_216 : decode b_Md_cycle 216 = .ok (.putfield 128, 3) := by decide +kernel
theorem d_Md_cycle_219 : decode b_Md_cycle 219 = .ok (.return_, 1) := by decide +kernel
theorem d_Md_multiply_0 : decode b_Md_multiply 0 = .ok (.aload_n 0, 1) := by decide +kernel
theorem d_Md_multiply_1 : decode b_Md_multiply 1 = .ok (.getfield 104, 3) := by decide +kernel
theorem d_Md_multiply_4 : decode b_Md_multiply 4 = .ok (.ifCond .ne 4, 3) := by decide +kernel
theorem d_Md_multiply_7 : decode b_Md_multiply 7 = .ok (.return_, 1) := by decide +kernel
theorem d_Md_multiply_8 : decode b_Md_multiply 8 = .ok (.aload_n 0, 1) := by decide +kernel
theorem d_Md_multiply_9 : decode b_Md_multiply 9 = .ok (.dup, 1) := by decide +kernel
theorem d_Md_multiply_10 : decode b_Md_multiply 10 = .ok (.getfield 104, 3) := by decide +kernel
theorem d_Md_multiply_13 : decode b_Md_multiply 13 = .ok (.iconst 1, 1) := by decide +kernel
theorem d_Md_multiply_14 : decode b_Md_multiply 14 = .ok (.isub, 1) := by decide +kernel
theorem d_Md_multiply_15 : decode b_Md_multiply 15 = .ok (.putfield 104, 3) := by decide +kernel
theorem d_Md_multiply_18 : decode b_Md_multiply 18 = .ok (.aload_n 0, 1) := by decide +kernel
theorem d_Md_multiply_19 : decode b_Md_multiply 19 = .ok (.getfield 104, 3) := by decide +kernel
theorem d_Md_multiply_22 : decode b_Md_multiply 22 = .ok (.bipush 16, 2) := by decide +kernel
theorem d_Md_multiply_24 : decode b_Md_multiply 24 = .ok (.if_icmp .ne 4, 3) := by decide +kernel
theorem d_Md_multiply_27 : decode b_Md_multiply 27 = .ok (.return_, 1) := by decide +kernel
theorem d_Md_multiply_28 : decode b_Md_multiply 28 = .ok (.aload_n 0, 1) := by decide +kernel
theorem d_Md_multiply_29 : decode b_Md_multiply 29 = .ok (.getfield 13, 3) := by decide +kernel
theorem d_Md_multiply_32 : decode b_Md_multiply 32 = .ok (.sipush 131, 3) := by decide +kernel
theorem d_Md_multiply_35 : decode b_Md_multiply 35 = .ok (.saload, 1) := by decide +kernel
theorem d_Md_multiply_36 : decode b_Md_multiply 36 = .ok (.bipush 16, 2) := by decide +kernel
theorem d_Md_multiply_38 : decode b_Md_multiply 38 = .ok (.ishl, 1) := by decide +kernel
theorem d_Md_multiply_39 : decode b_Md_multiply 39 = .ok (.aload_n 0, 1) := by decide +kernel
theorem d_Md_multiply_40 : decode b_Md_multiply 40 = .ok (.getfield 13, 3) := by decide +kernel
theorem d_Md_multiply_43 : decode b_Md_multiply 43 = .ok (.sipush 130, 3) := by decide +kernel
theorem d_Md_multiply_46 : decode b_Md_multiply 46 = .ok (.saload, 1) := by decide +kernel
theorem d_Md_multiply_47 : decode b_Md_multiply 47 = .ok (.ldc 198, 2) := by decide +kernel
theorem d_Md_multiply_49 : decode b_Md_multiply 49 = .ok (.iand, 1) := by decide +kernel
theorem d_Md_multiply_50 : decode b_Md_multiply 50 = .ok (.ior, 1) := by decide +kernel
theorem d_Md_multiply_51 : decode b_Md_multiply 51 = .ok (.istore_n 1, 1) := by decide +kernel
theorem d_Md_multiply_52 : decode b_Md_multiply 52 = .ok (.iconst 2, 1) := by decide +kernel
theorem d_Md_multiply_53 : decode b_Md_multiply 53 = .ok (.iload_n 1, 1) := by decide +kernel
theorem d_Md_multiply_54 : decode b_Md_multiply 54 = .ok (.imul, 1) := by decide +kernel
theorem d_Md_multiply_55 : decode b_Md_multiply 55 = .ok (.aload_n 0, 1) := by decide +kernel
theorem d_Md_multiply_56 : decode b_Md_multiply 56 = .ok (.getfield 161, 3) := by decide +kernel
theorem d_Md_multiply_59 : decode b_Md_multiply 59 = .ok (.ifCond .ge 14, 3) := by decide +kernel
theorem d_Md_multiply_62 : decode b_Md_multiply 62 = .ok (.aload_n 0, 1) := by decide +kernel
theorem d_Md_multiply_63 : decode b_Md_multiply 63 = .ok (.getfield 13, 3) := by decide +kernel
theorem d_Md_multiply_66 : decode b_Md_multiply 66 = .ok (.sipush 129, 3) := by decide +kernel
theorem d_Md_multiply_69 : decode b_Md_multiply 69 = .ok (.saload, 1) := by decide +kernel
theorem d_Md_multiply_70 : decode b_Md_multiply 70 = .ok (.goto 4, 3) := by decide +kernel
theorem d_Md_multiply_73 : decode b_Md_multiply 73 = .ok (.iconst 0, 1) := by decide +kernel
theorem d_Md_multiply_74 : decode b_Md_multiply 74 = .ok (.iadd, 1) := by decide +kernel
theorem d_Md_multiply_75 : decode b_Md_multiply 75 = .ok (.istore_n 1, 1) := by decide +kernel
theorem d_Md_multiply_76 : decode b_Md_multiply 76 = .ok (.aload_n 0, 1) := by decide +kernel
theorem d_Md_multiply_77 : decode b_Md_multiply 77 = .ok (.getfield 13, 3) := by decide +kernel
theorem d_Md_multiply_80 : decode b_Md_multiply 80 = .ok (.sipush 130, 3) := by decide +kernel
theorem d_Md_multiply_83 : decode b_Md_multiply 83 = .ok (.iload_n 1, 1) := by decide +kernel
theorem d_Md_multiply_84 : decode b_Md_multiply 84 = .ok (.i2s, 1) := by decide +kernel
theorem d_Md_multiply_85 : decode b_Md_multiply 85 = .ok (.sastore, 1) := by decide +kernel
theorem d_Md_multiply_86 : decode b_Md_multiply 86 = .ok (.aload_n 0, 1) := by decide +kernel
theorem d_Md_multiply_87 : decode b_Md_multiply 87 = .ok (.getfield 13, 3) := by decide +kernel
theorem d_Md_multiply_90 : decode b_Md_multiply 90 = .ok (.sipush 131, 3) := by decide +kernel
theorem d_Md_multiply_93 : decode b_Md_multiply 93 = .ok (.iload_n 1, 1) := by decide +kernel
theorem d_Md_multiply_94 : decode b_Md_multiply 94 = .ok (.bipush 16, 2) := by decide +kernel
theorem d_Md_multiply_96 : decode b_Md_multiply 96 = .ok (.ishr, 1) := by decide +kernel
theorem d_Md_multiply_97 : decode b_Md_multiply 97 = .ok (.i2s, 1) := by decide +kernel
theorem d_Md_multiply_98 : decode b_Md_multiply 98 = .ok (.sastore, 1) := by decide +kernel
theorem d_Md_multiply_99 : decode b_Md_multiply 99 = .ok (.aload_n 0, 1) := by decide +kernel
theorem d_Md_multiply_100 : decode b_Md_multiply 100 = .ok (.aload_n 0, 1) := by decide +kernel
theorem d_Md_multiply_101 : decode b_Md_multiply 101 = .ok (.getfield 161, 3) := by decide +kernel
theorem d_Md_multiply_104 : decode b_Md_multiply 104 = .ok (.iconst 1, 1) := by decide +kernel
theorem d_Md_multiply_105 : decode b_Md_multiply 105 = .ok (.ishl, 1) := by decide +kernel
theorem d_Md_multiply_106 : decode b_Md_multiply 106 = .ok (.i2s, 1) := by decide +kernel
theorem d_Md_multiply_107 : decode b_Md_multiply 107 = .ok (.putfield 161, 3) := by decide +kernel
theorem d_Md_multiply_110 : decode b_Md_multiply 110 = .ok (.return_, 1) := by decide +kernel
theorem d_Md_run_0 : decode b_Md_run 0 = .ok (.iload_n 1, 1) := by decide +kernel
theorem d_Md_run_1 : decode b_Md_run 1 = .ok (.ifCond .lt 10, 3) := by decide +kernel
theorem d_Md_run_4 : decode b_Md_run 4 = .ok (.iload_n 1, 1) := by decide +kernel
theorem d_Md_run_5 : decode b_Md_run 5 = .ok (.sipush 2000, 3) := by decide +kernel
theorem d_Md_run_8 : decode b_Md_run 8 = .ok (.if_icmp .le 5, 3) := by decide +kernel
theorem d_Md_run_11 : decode b_Md_run 11 = .ok (.iconst (-1), 1) := by decide +kernel
theorem d_Md_run_12 : decode b_Md_run 12 = .ok (.ireturn, 1) := by decide +kernel
theorem d_Md_run_13 : decode b_Md_run 13 = .ok (.iconst 0, 1) := by decide +kernel
theorem d_Md_run_14 : decode b_Md_run 14 = .ok (.istore_n 2, 1) := by decide +kernel
theorem d_Md_run_15 : decode b_Md_run 15 = .ok (.iload_n 2, 1) := by decide +kernel
theorem d_Md_run_16 : decode b_Md_run 16 = .ok (.iload_n 1, 1) := by decide +kernel
theorem d_Md_run_17 : decode b_Md_run 17 = .ok (.if_icmp .ge 20, 3) := by decide +kernel
theorem d_Md_run_20 : decode b_Md_run 20 = .ok (.aload_n 0, 1) := by decide +kernel
theorem d_Md_run_21 : decode b_Md_run 21 = .ok (.getfield 97, 3) := by decide +kernel
theorem d_Md_run_24 : decode b_Md_run 24 = .ok (.ifCond .eq 13, 3) := by decide +kernel
theorem d_Md_run_27 : decode b_Md_run 27 = .ok (.aload_n 0, 1) := by decide +kernel
theorem d_Md_run_28 : decode b_Md_run 28 = .ok (.invokevirtual 199, 3) := by decide +kernel
theorem d_Md_run_31 : decode b_Md_run 31 = .ok (.iinc 2 1, 3) := by decide +kernel
theorem d_Md_run_34 : decode b_Md_run 34 = .ok (.goto (-19), 3) := by decide +kernel
theorem d_Md_run_37 : decode b_Md_run 37 = .ok (.iload_n 2, 1) := by decide +kernel
theorem d_Md_run_38 : decode b_Md_run 38 = .ok (.ireturn, 1) := by decide +kernel
theorem d_Md_look_0 : decode b_Md_look 0 = .ok (.iload_n 1, 1) := by decide +kernel
theorem d_Md_look_1 : decode b_Md_look 1 = .ok (.tableswitch 126 0 8 #[51, 64, 69, 74, 90, 106, 111, 116, 121], 51) := by decide +kernel
theorem d_Md_look_52 : decode b_Md_look 52 = .ok (.aload_n 0, 1) := by decide +kernel
theorem d_Md_look_53 : decode b_Md_look 53 = .ok (.getfield 97, 3) := by decide +kernel
theorem d_Md_look_56 : decode b_Md_look 56 = .ok (.ifCond .eq 7, 3) := by decide +kernel
theorem d_Md_look_59 : decode b_Md_look 59 = .ok (.iconst 1, 1) := by decide +kernel
theorem d_Md_look_60 : decode b_Md_look 60 = .ok (.goto 4, 3) := by decide +kernel
theorem d_Md_look_63 : decode b_Md_look 63 = .ok (.iconst 0, 1) := by decide +kernel
theorem d_Md_look_64 : decode b_Md_look 64 = .ok (.ireturn, 1) := by decide +kernel
theorem d_Md_look_65 : decode b_Md_look 65 = .ok (.aload_n 0, 1) := by decide +kernel
theorem d_Md_look_66 : decode b_Md_look 66 = .ok (.getfield 101, 3) := by decide +kernel
theorem d_Md_look_69 : decode b_Md_look 69 = .ok (.ireturn, 1) := by decide +kernel
theorem d_Md_look_70 : decode b_Md_look 70 = .ok (.aload_n 0, 1) := by decide +kernel
theorem d_Md_look_71 : decode b_Md_look 71 = .ok (.getfield 128, 3) := by decide +kernel
theorem d_Md_look_74 : decode b_Md_look 74 = .ok (.ireturn, 1) := by decide +kernel
theorem d_Md_look_75 : decode b_Md_look 75 = .ok (.aload_n 0, 1) := by decide +kernel
theorem d_Md_look_76 : decode b_Md_look 76 = .ok (.getfield 107, 3) := by decide +kernel
theorem d_Md_look_79 : decode b_Md_look 79 = .ok (.ifCond .ne 7, 3) := by decide +kernel
theorem d_Md_look_82 : decode b_Md_look 82 = .ok (.iconst (-1), 1) := by decide +kernel
theorem d_Md_look_83 : decode b_Md_look 83 = .ok (.goto 7, 3) := by decide +kernel
theorem d_Md_look_86 : decode b_Md_look 86 = .ok (.aload_n 0, 1) := by decide +kernel
theorem d_Md_look_87 : decode b_Md_look 87 = .ok (.getfield 110, 3) := by decide +kernel
theorem d_Md_look_90 : decode b_Md_look 90 = .ok (.ireturn, 1) := by decide +kernel
theorem d_Md_look_91 : decode b_Md_look 91 = .ok (.aload_n 0, 1) := by decide +kernel
theorem d_Md_look_92 : decode b_Md_look 92 = .ok (.getfield 107, 3) := by decide +kernel
theorem d_Md_look_95 : decode b_Md_look 95 = .ok (.ifCond .ne 7, 3) := by decide +kernel
theorem d_Md_look_98 : decode b_Md_look 98 = .ok (.iconst (-1), 1) := by decide +kernel
theorem d_Md_look_99 : decode b_Md_look 99 = .ok (.goto 7, 3) := by decide +kernel
theorem d_Md_look_102 : decode b_Md_look 102 = .ok (.aload_n 0, 1) := by decide +kernel
theorem d_Md_look_103 : decode b_Md_look 103 = .ok (.getfield 113, 3) := by decide +kernel
theorem d_Md_look_106 : decode b_Md_look 106 = .ok (.ireturn, 1) := by decide +kernel
theorem d_Md_look_107 : decode b_Md_look 107 = .ok (.aload_n 0, 1) := by decide +kernel
theorem d_Md_look_108 : decode b_Md_look 108 = .ok (.getfield 107, 3) := by decide +kernel
theorem d_Md_look_111 : decode b_Md_look 111 = .ok (.ireturn, 1) := by decide +kernel
theorem d_Md_look_112 : decode b_Md_look 112 = .ok (.aload_n 0, 1) := by decide +kernel
theorem d_Md_look_113 : decode b_Md_look 113 = .ok (.getfield 94, 3) := by decide +kernel
theorem d_Md_look_116 : decode b_Md_look 116 = .ok (.ireturn, 1) := by decide +kernel
theorem d_Md_look_117 : decode b_Md_look 117 = .ok (.aload_n 0, 1) := by decide +kernel
theorem d_Md_look_118 : decode b_Md_look 118 = .ok (.getfield 178, 3) := by decide +kernel
theorem d_Md_look_121 : decode b_Md_look 121 = .ok (.ireturn, 1) := by decide +kernel
theorem d_Md_look_122 : decode b_Md_look 122 = .ok (.aload_n 0, 1) := by decide +kernel
theorem d_Md_look_123 : decode b_Md_look 123 = .ok (.getfield 104, 3) := by decide +kernel
theorem d_Md_look_126 : decode b_Md_look 126 = .ok (.ireturn, 1) := by decide +kernel
theorem d_Md_look_127 : decode b_Md_look 127 = .ok (.iconst (-1), 1) := by decide +kernel
theorem d_Md_look_128 : decode b_Md_look 128 = .ok (.ireturn, 1) := by decide +kernel
theorem d_Md_peek_0 : decode b_Md_peek 0 = .ok (.iload_n 1, 1) := by decide +kernel
theorem d_Md_peek_1 : decode b_Md_peek 1 = .ok (.iload_n 2, 1) := by decide +kernel
theorem d_Md_peek_2 : decode b_Md_peek 2 = .ok (.invokestatic 87, 3) := by decide +kernel
theorem d_Md_peek_5 : decode b_Md_peek 5 = .ok (.istore_n 3, 1) := by decide +kernel
theorem d_Md_peek_6 : decode b_Md_peek 6 = .ok (.iload_n 3, 1) := by decide +kernel
theorem d_Md_peek_7 : decode b_Md_peek 7 = .ok (.ifCond .ge 7, 3) := by decide +kernel
theorem d_Md_peek_10 : decode b_Md_peek 10 = .ok (.iconst 0, 1) := by decide +kernel
theorem d_Md_peek_11 : decode b_Md_peek 11 = .ok (.goto 9, 3) := by decide +kernel
theorem d_Md_peek_14 : decode b_Md_peek 14 = .ok (.aload_n 0, 1) := by decide +kernel
theorem d_Md_peek_15 : decode b_Md_peek 15 = .ok (.getfield 13, 3) := by decide +kernel
theorem d_Md_peek_18 : decode b_Md_peek 18 = .ok (.iload_n 3, 1) := by decide +kernel
theorem d_Md_peek_19 : decode b_Md_peek 19 = .ok (.saload, 1) := by decide +kernel
theorem d_Md_peek_20 : decode b_Md_peek 20 = .ok (.ireturn, 1) := by decide +kernel
theorem d_Md_read_II_0 : decode b_Md_read_II 0 = .ok (.iload_n 1, 1) := by decide +kernel
theorem d_Md_read_II_1 : decode b_Md_read_II 1 = .ok (.iload_n 2, 1) := by decide +kernel
theorem d_Md_read_II_2 : decode b_Md_read_II 2 = .ok (.invokestatic 82, 3) := by decide +kernel
theorem d_Md_read_II_5 : decode b_Md_read_II 5 = .ok (.ifCond .eq 17, 3) := by decide +kernel
theorem d_Md_read_II_8 : decode b_Md_read_II 8 = .ok (.aload_n 0, 1) := by decide +kernel
theorem d_Md_read_II_9 : decode b_Md_read_II 9 = .ok (.getfield 7, 3) := by decide +kernel
theorem d_Md_read_II_12 : decode b_Md_read_II 12 = .ok (.bipush 32, 2) := by decide +kernel
theorem d_Md_read_II_14 : decode b_Md_read_II 14 = .ok (.iload_n 1, 1) := by decide +kernel
theorem d_Md_read_II_15 : decode b_Md_read_II 15 = .ok (.imul, 1) := by decide +kernel
theorem d_Md_read_II_16 : decode b_Md_read_II 16 = .ok (.iload_n 2, 1) := by decide +kernel
theorem d_Md_read_II_17 : decode b_Md_read_II 17 = .ok (.iadd, 1) := by decide +kernel
theorem d_Md_read_II_18 : decode b_Md_read_II 18 = .ok (.iaload, 1) := by decide +kernel
theorem d_Md_read_II_19 : decode b_Md_read_II 19 = .ok (.goto 4, 3) := by decide +kernel
theorem d_Md_read_II_22 : decode b_Md_read_II 22 = .ok (.iconst (-1), 1) := by decide +kernel
theorem d_Md_read_II_23 : decode b_Md_read_II 23 = .ok (.ireturn, 1) := by decide +kernel
theorem d_Md_punched_0 : decode b_Md_punched 0 = .ok (.iload_n 1, 1) := by decide +kernel
theorem d_Md_punched_1 : decode b_Md_punched 1 = .ok (.ifCond .lt 11, 3) := by decide +kernel
theorem d_Md_punched_4 : decode b_Md_punched 4 = .ok (.iload_n 1, 1) := by decide +kernel
theorem d_Md_punched_5 : decode b_Md_punched 5 = .ok (.aload_n 0, 1) := by decide +kernel
theorem d_Md_punched_6 : decode b_Md_punched 6 = .ok (.getfield 178, 3) := by decide +kernel
theorem d_Md_punched_9 : decode b_Md_punched 9 = .ok (.if_icmp .lt 7, 3) := by decide +kernel
theorem d_Md_punched_12 : decode b_Md_punched 12 = .ok (.iconst 0, 1) := by decide +kernel
theorem d_Md_punched_13 : decode b_Md_punched 13 = .ok (.goto 9, 3) := by decide +kernel
theorem d_Md_punched_16 : decode b_Md_punched 16 = .ok (.aload_n 0, 1) := by decide +kernel
theorem d_Md_punched_17 : decode b_Md_punched 17 = .ok (.getfield 27, 3) := by decide +kernel
theorem d_Md_punched_20 : decode b_Md_punched 20 = .ok (.iload_n 1, 1) := by decide +kernel
theorem d_Md_punched_21 : decode b_Md_punched 21 = .ok (.saload, 1) := by decide +kernel
theorem d_Md_punched_22 : decode b_Md_punched 22 = .ok (.ireturn, 1) := by decide +kernel
theorem d_Md_isVariable_0 : decode b_Md_isVariable 0 = .ok (.iload_n 0, 1) := by decide +kernel
theorem d_Md_isVariable_1 : decode b_Md_isVariable 1 = .ok (.ifCond .lt 13, 3) := by decide +kernel
theorem d_Md_isVariable_4 : decode b_Md_isVariable 4 = .ok (.iload_n 0, 1) := by decide +kernel
theorem d_Md_isVariable_5 : decode b_Md_isVariable 5 = .ok (.bipush 16, 2) := by decide +kernel
theorem d_Md_isVariable_7 : decode b_Md_isVariable 7 = .ok (.if_icmp .ge 7, 3) := by decide +kernel
theorem d_Md_isVariable_10 : decode b_Md_isVariable 10 = .ok (.iconst 1, 1) := by decide +kernel
theorem d_Md_isVariable_11 : decode b_Md_isVariable 11 = .ok (.goto 4, 3) := by decide +kernel
theorem d_Md_isVariable_14 : decode b_Md_isVariable 14 = .ok (.iconst 0, 1) := by decide +kernel
theorem d_Md_isVariable_15 : decode b_Md_isVariable 15 = .ok (.ireturn, 1) := by decide +kernel
theorem d_Md_statement_0 : decode b_Md_statement 0 = .ok (.iload_n 1, 1) := by decide +kernel
theorem d_Md_statement_1 : decode b_Md_statement 1 = .ok (.ifCond .lt 52, 3) := by decide +kernel
theorem d_Md_statement_4 : decode b_Md_statement 4 = .ok (.iload_n 1, 1) := by decide +kernel
theorem d_Md_statement_5 : decode b_Md_statement 5 = .ok (.bipush 6, 2) := by decide +kernel
theorem d_Md_statement_7 : decode b_Md_statement 7 = .ok (.if_icmp .gt 46, 3) := by decide +kernel
theorem d_Md_statement_10 : decode b_Md_statement 10 = .ok (.iload_n 2, 1) := by decide +kernel
theorem d_Md_statement_11 : decode b_Md_statement 11 = .ok (.invokestatic 202, 3) := by decide +kernel
theorem d_Md_statement_14 : decode b_Md_statement 14 = .ok (.ifCond .eq 39, 3) := by decide +kernel
theorem d_Md_statement_17 : decode b_Md_statement 17 = .ok (.iload_n 3, 1) := by decide +kernel
theorem d_Md_statement_18 : decode b_Md_statement 18 = .ok (.invokestatic 202, 3) := by decide +kernel
theorem d_Md_statement_21 : decode b_Md_statement 21 = .ok (.ifCond .eq 32, 3) := by decide +kernel
theorem d_Md_statement_24 : decode b_Md_statement 24 = .ok (.iload 4, 2) := by decide +kernel
theorem d_Md_statement_26 : decode b_Md_statement 26 = .ok (.invokestatic 202, 3) := by decide +kernel
theorem d_Md_statement_29 : decode b_Md_statement 29 = .ok (.ifCond .eq 24, 3) := by decide +kernel
theorem d_Md_statement_32 : decode b_Md_statement 32 = .ok (.iload_n 1, 1) := by decide +kernel
theorem d_Md_statement_33 : decode b_Md_statement 33 = .ok (.iconst 4, 1) := by decide +kernel
theorem d_Md_statement_34 : decode b_Md_statement 34 = .ok (.if_icmp .ne 15, 3) := by decide +kernel
theorem d_Md_statement_37 : decode b_Md_statement 37 = .ok (.iload 5, 2) := by decide +kernel
theorem d_Md_statement_39 : decode b_Md_statement 39 = .ok (.ifCond .lt 14, 3) := by decide +kernel
theorem d_Md_statement_42 : decode b_Md_statement 42 = .ok (.iload 5, 2) := by decide +kernel
theorem d_Md_statement_44 : decode b_Md_statement 44 = .ok (.bipush 11, 2) := by decide +kernel
theorem d_Md_statement_46 : decode b_Md_statement 46 = .ok (.if_icmp .gt 7, 3) := by decide +kernel
theorem d_Md_statement_49 : decode b_Md_statement 49 = .ok (.iconst 1, 1) := by decide +kernel
theorem d_Md_statement_50 : decode b_Md_statement 50 = .ok (.goto 4, 3) := by decide +kernel
theorem d_Md_statement_53 : decode b_Md_statement 53 = .ok (.iconst 0, 1) := by decide +kernel
theorem d_Md_statement_54 : decode b_Md_statement 54 = .ok (.istore 6, 2) := by decide +kernel
theorem d_Md_statement_56 : decode b_Md_statement 56 = .ok (.aload_n 0, 1) := by decide +kernel
theorem d_Md_statement_57 : decode b_Md_statement 57 = .ok (.getfield 206, 3) := by decide +kernel
theorem d_Md_statement_60 : decode b_Md_statement 60 = .ok (.bipush 12, 2) := by decide +kernel
theorem d_Md_statement_62 : decode b_Md_statement 62 = .ok (.if_icmp .eq 8, 3) := by decide +kernel
theorem d_Md_statement_65 : decode b_Md_statement 65 = .ok (.iload 6, 2) := by decide +kernel
theorem d_Md_statement_67 : decode b_Md_statement 67 = .ok (.ifCond .ne 5, 3) := by decide +kernel
theorem d_Md_statement_70 : decode b_Md_statement 70 = .ok (.iconst (-1), 1) := by decide +kernel
theorem d_Md_statement_71 : decode b_Md_statement 71 = .ok (.ireturn, 1) := by decide +kernel
theorem d_Md_statement_72 : decode b_Md_statement 72 = .ok (.aload_n 0, 1) := by decide +kernel
theorem d_Md_statement_73 : decode b_Md_statement 73 = .ok (.getfield 33, 3) := by decide +kernel
theorem d_Md_statement_76 : decode b_Md_statement 76 = .ok (.aload_n 0, 1) := by decide +kernel
theorem d_Md_statement_77 : decode b_Md_statement 77 = .ok (.getfield 206, 3) := by decide +kernel
theorem d_Md_statement_80 : decode b_Md_statement 80 = .ok (.iload_n 1, 1) := by decide +kernel
theorem d_Md_statement_81 : decode b_Md_statement 81 = .ok (.iastore, 1) := by decide +kernel
theorem d_Md_statement_82 : decode b_Md_statement 82 = .ok (.aload_n 0, 1) := by decide +kernel
theorem d_Md_statement_83 : decode b_Md_statement 83 = .ok (.getfield 36, 3) := by decide +kernel
theorem d_Md_statement_86 : decode b_Md_statement 86 = .ok (.aload_n 0, 1) := by decide +kernel
theorem d_Md_statement_87 : decode b_Md_statement 87 = .ok (.getfield 206, 3) := by decide +kernel
theorem d_Md_statement_90 : decode b_Md_statement 90 = .ok (.iload_n 2, 1) := by decide +kernel
theorem d_Md_statement_91 : decode b_Md_statement 91 = .ok (.iastore, 1) := by decide +kernel
theorem d_Md_statement_92 : decode b_Md_statement 92 = .ok (.aload_n 0, 1) := by decide +kernel
theorem d_Md_statement_93 : decode b_Md_statement 93 = .ok (.getfield 39, 3) := by decide +kernel
theorem d_Md_statement_96 : decode b_Md_statement 96 = .ok (.aload_n 0, 1) := by decide +kernel
theorem d_Md_statement_97 : decode b_Md_statement 97 = .ok (.getfield 206, 3) := by decide +kernel
theorem d_Md_statement_100 : decode b_Md_statement 100 = .ok (.iload_n 3, 1) := by decide +kernel
theorem d_Md_statement_101 : decode b_Md_statement 101 = .ok (.iastore, 1) := by decide +kernel
theorem d_Md_statement_102 : decode b_Md_statement 102 = .ok (.aload_n 0, 1) := by decide +kernel
theorem d_Md_statement_103 : decode b_Md_statement 103 = .ok (.getfield 42, 3) := by decide +kernel
theorem d_Md_statement_106 : decode b_Md_statement 106 = .ok (.aload_n 0, 1) := by decide +kernel
theorem d_Md_statement_107 : decode b_Md_statement 107 = .ok (.getfield 206, 3) := by decide +kernel
theorem d_Md_statement_110 : decode b_Md_statement 110 = .ok (.iload 4, 2) := by decide +kernel
theorem d_Md_statement_112 : decode b_Md_statement 112 = .ok (.iastore, 1) := by decide +kernel
theorem d_Md_statement_113 : decode b_Md_statement 113 = .ok (.aload_n 0, 1) := by decide +kernel
theorem d_Md_statement_114 : decode b_Md_statement 114 = .ok (.getfield 45, 3) := by decide +kernel
theorem d_Md_statement_117 : decode b_Md_statement 117 = .ok (.aload_n 0, 1) := by decide +kernel
theorem d_Md_statement_118 : decode b_Md_statement 118 = .ok (.getfield 206, 3) := by decide +kernel
theorem d_Md_statement_121 : decode b_Md_statement 121 = .ok (.iload 5, 2) := by decide +kernel
theorem d_Md_statement_123 : decode b_Md_statement 123 = .ok (.iastore, 1) := by decide +kernel
theorem d_Md_statement_124 : decode b_Md_statement 124 = .ok (.aload_n 0, 1) := by decide +kernel
theorem d_Md_statement_125 : decode b_Md_statement 125 = .ok (.dup, 1) := by decide +kernel
theorem d_Md_statement_126 : decode b_Md_statement 126 = .ok (.getfield 206, 3) := by decide +kernel
theorem d_Md_statement_129 : decode b_Md_statement 129 = .ok (.iconst 1, 1) := by decide +kernel
theorem d_Md_statement_130 : decode b_Md_statement 130 = .ok (.iadd, 1) := by decide +kernel
theorem d_Md_statement_131 : decode b_Md_statement 131 = .ok (.putfield 206, 3) := by decide +kernel
theorem d_Md_statement_134 : decode b_Md_statement 134 = .ok (.aload_n 0, 1) := by decide +kernel
theorem d_Md_statement_135 : decode b_Md_statement 135 = .ok (.getfield 206, 3) := by decide +kernel
theorem d_Md_statement_138 : decode b_Md_statement 138 = .ok (.iconst 1, 1) := by decide +kernel
theorem d_Md_statement_139 : decode b_Md_statement 139 = .ok (.isub, 1) := by decide +kernel
theorem d_Md_statement_140 : decode b_Md_statement 140 = .ok (.ireturn, 1) := by decide +kernel
theorem d_Md_clear_0 : decode b_Md_clear 0 = .ok (.aload_n 0, 1) := by decide +kernel
theorem d_Md_clear_1 : decode b_Md_clear 1 = .ok (.iconst 0, 1) := by decide +kernel
theorem d_Md_clear_2 : decode b_Md_clear 2 = .ok (.putfield 206, 3) := by decide +kernel
theorem d_Md_clear_5 : decode b_Md_clear 5 = .ok (.return_, 1) := by decide +kernel
theorem d_Md_list_0 : decode b_Md_list 0 = .ok (.aload_n 0, 1) := by decide +kernel
theorem d_Md_list_1 : decode b_Md_list 1 = .ok (.getfield 48, 3) := by decide +kernel
theorem d_Md_list_4 : decode b_Md_list 4 = .ok (.aload_n 0, 1) := by decide +kernel
theorem d_Md_list_5 : decode b_Md_list 5 = .ok (.getfield 209, 3) := by decide +kernel
theorem d_Md_list_8 : decode b_Md_list 8 = .ok (.iload_n 1, 1) := by decide +kernel
theorem d_Md_list_9 : decode b_Md_list 9 = .ok (.iastore, 1) := by decide +kernel
theorem d_Md_list_10 : decode b_Md_list 10 = .ok (.aload_n 0, 1) := by decide +kernel
theorem d_Md_list_11 : decode b_Md_list 11 = .ok (.getfield 51, 3) := by decide +kernel
theorem d_Md_list_14 : decode b_Md_list 14 = .ok (.aload_n 0, 1) := by decide +kernel
theorem d_Md_list_15 : decode b_Md_list 15 = .ok (.getfield 209, 3) := by decide +kernel
theorem d_Md_list_18 : decode b_Md_list 18 = .ok (.iload_n 2, 1) := by decide +kernel
theorem d_Md_list_19 : decode b_Md_list 19 = .ok (.iastore, 1) := by decide +kernel
theorem d_Md_list_20 : decode b_Md_list 20 = .ok (.aload_n 0, 1) := by decide +kernel
theorem d_Md_list_21 : decode b_Md_list 21 = .ok (.getfield 54, 3) := by decide +kernel
theorem d_Md_list_24 : decode b_Md_list 24 = .ok (.aload_n 0, 1) := by decide +kernel
theorem d_Md_list_25 : decode b_Md_list 25 = .ok (.getfield 209, 3) := by decide +kernel
theorem d_Md_list_28 : decode b_Md_list 28 = .ok (.iload_n 3, 1) := by decide +kernel
theorem d_Md_list_29 : decode b_Md_list 29 = .ok (.iastore, 1) := by decide +kernel
theorem d_Md_list_30 : decode b_Md_list 30 = .ok (.aload_n 0, 1) := by decide +kernel
theorem d_Md_list_31 : decode b_Md_list 31 = .ok (.getfield 57, 3) := by decide +kernel
theorem d_Md_list_34 : decode b_Md_list 34 = .ok (.aload_n 0, 1) := by decide +kernel
theorem d_Md_list_35 : decode b_Md_list 35 = .ok (.getfield 209, 3) := by decide +kernel
theorem d_Md_list_38 : decode b_Md_list 38 = .ok (.iload 4, 2) := by decide +kernel
theorem d_Md_list_40 : decode b_Md_list 40 = .ok (.iastore, 1) := by decide +kernel
theorem d_Md_list_41 : decode b_Md_list 41 = .ok (.aload_n 0, 1) := by decide +kernel
theorem d_Md_list_42 : decode b_Md_list 42 = .ok (.dup, 1) := by decide +kernel
theorem d_Md_list_43 : decode b_Md_list 43 = .ok (.getfield 209, 3) := by decide +kernel
theorem d_Md_list_46 : decode b_Md_list 46 = .ok (.iconst 1, 1) := by decide +kernel
theorem d_Md_list_47 : decode b_Md_list 47 = .ok (.iadd, 1) := by decide +kernel
theorem d_Md_list_48 : decode b_Md_list 48 = .ok (.putfield 209, 3) := by decide +kernel
theorem d_Md_list_51 : decode b_Md_list 51 = .ok (.return_, 1) := by decide +kernel
theorem d_Md_listAll_0 : decode b_Md_listAll 0 = .ok (.aload_n 0, 1) := by decide +kernel
theorem d_Md_listAll_1 : decode b_Md_listAll 1 = .ok (.iconst 0, 1) := by decide +kernel
theorem d_Md_listAll_2 : decode b_Md_listAll 2 = .ok (.putfield 209, 3) := by decide +kernel
theorem d_Md_listAll_5 : decode b_Md_listAll 5 = .ok (.iconst 0, 1) := by decide +kernel
theorem d_Md_listAll_6 : decode b_Md_listAll 6 = .ok (.istore_n 1, 1) := by decide +kernel
theorem d_Md_listAll_7 : decode b_Md_listAll 7 = .ok (.iload_n 1, 1) := by decide +kernel
theorem d_Md_listAll_8 : decode b_Md_listAll 8 = .ok (.aload_n 0, 1) := by decide +kernel
theorem d_Md_listAll_9 : decode b_Md_listAll 9 = .ok (.getfield 206, 3) := by decide +kernel
theorem d_Md_listAll_12 : decode b_Md_listAll 12 = .ok (.if_icmp .ge 202, 3) := by decide +kernel
theorem d_Md_listAll_15 : decode b_Md_listAll 15 = .ok (.aload_n 0, 1) := by decide +kernel
theorem d_Md_listAll_16 : decode b_Md_listAll 16 = .ok (.getfield 36, 3) := by decide +kernel
theorem d_Md_listAll_19 : decode b_Md_listAll 19 = .ok (.iload_n 1, 1) := by decide +kernel
theorem d_Md_listAll_20 : decode b_Md_listAll 20 = .ok (.iaload, 1) := by decide +kernel
theorem d_Md_listAll_21 : decode b_Md_listAll 21 = .ok (.istore_n 2, 1) := by decide +kernel
theorem d_Md_listAll_22 : decode b_Md_listAll 22 = .ok (.aload_n 0, 1) := by decide +kernel
theorem d_Md_listAll_23 : decode b_Md_listAll 23 = .ok (.getfield 39, 3) := by decide +kernel
theorem d_Md_listAll_26 : decode b_Md_listAll 26 = .ok (.iload_n 1, 1) := by decide +kernel
theorem d_Md_listAll_27 : decode b_Md_listAll 27 = .ok (.iaload, 1) := by decide +kernel
theorem d_Md_listAll_28 : decode b_Md_listAll 28 = .ok (.istore_n 3, 1) := by decide +kernel
theorem d_Md_listAll_29 : decode b_Md_listAll 29 = .ok (.aload_n 0, 1) := by decide +kernel
theorem d_Md_listAll_30 : decode b_Md_listAll 30 = .ok (.getfield 42, 3) := by decide +kernel
theorem d_Md_listAll_33 : decode b_Md_listAll 33 = .ok (.iload_n 1, 1) := by decide +kernel
theorem d_Md_listAll_34 : decode b_Md_listAll 34 = .ok (.iaload, 1) := by decide +kernel
theorem d_Md_listAll_35 : decode b_Md_listAll 35 = .ok (.istore 4, 2) := by decide +kernel
theorem d_Md_listAll_37 : decode b_Md_listAll 37 = .ok (.aload_n 0, 1) := by decide +kernel
theorem d_Md_listAll_38 : decode b_Md_listAll 38 = .ok (.getfield 33, 3) := by decide +kernel
theorem d_Md_listAll_41 : decode b_Md_listAll 41 = .ok (.iload_n 1, 1) := by decide +kernel
theorem d_Md_listAll_42 : decode b_Md_listAll 42 = .ok (.iaload, 1) := by decide +kernel
theorem d_Md_listAll_43 : decode b_Md_listAll 43 = .ok (.tableswitch 157 0 5 #[37, 37, 82, 104, 116, 144], 37) := by decide +kernel
theorem d_Md_listAll_80 : decode b_Md_listAll 80 = .ok (.aload_n 0, 1) := by decide +kernel
theorem d_Md_listAll_81 : decode b_Md_listAll 81 = .ok (.iconst 2, 1) := by decide +kernel
theorem d_Md_listAll_82 : decode b_Md_listAll 82 = .ok (.bipush 6, 2) := by decide +kernel
theorem d_Md_listAll_84 : decode b_Md_listAll 84 = .ok (.iload_n 2, 1) := by decide +kernel
theorem d_Md_listAll_85 : decode b_Md_listAll 85 = .ok (.iload_n 1, 1) := by decide +kernel
theorem d_Md_listAll_86 : decode b_Md_listAll 86 = .ok (.invokevirtual 212, 3) := by decide +kernel
theorem d_Md_listAll_89 : decode b_Md_listAll 89 = .ok (.aload_n 0, 1) := by decide +kernel
theorem d_Md_listAll_90 : decode b_Md_listAll 90 = .ok (.iconst 2, 1) := by decide +kernel
theorem d_Md_listAll_91 : decode b_Md_listAll 91 = .ok (.aload_n 0, 1) := by decide +kernel
theorem d_Md_listAll_92 : decode b_Md_listAll 92 = .ok (.getfield 33, 3) := by decide +kernel
theorem d_Md_listAll_95 : decode b_Md_listAll 95 = .ok (.iload_n 1, 1) := by decide +kernel
theorem d_Md_listAll_96 : decode b_Md_listAll 96 = .ok (.iaload, 1) := by decide +kernel
theorem d_Md_listAll_97 : decode b_Md_listAll 97 = .ok (.ifCond .ne 8, 3) := by decide +kernel
theorem d_Md_listAll_100 : decode b_Md_listAll 100 = .ok (.bipush 9, 2) := by decide +kernel
theorem d_Md_listAll_102 : decode b_Md_listAll 102 = .ok (.goto 5, 3) := by decide +kernel
theorem d_Md_listAll_105 : decode b_Md_listAll 105 = .ok (.bipush 10, 2) := by decide +kernel
theorem d_Md_listAll_107 : decode b_Md_listAll 107 = .ok (.iload_n 3, 1) := by decide +kernel
theorem d_Md_listAll_108 : decode b_Md_listAll 108 = .ok (.iload_n 1, 1) := by decide +kernel
theorem d_Md_listAll_109 : decode b_Md_listAll 109 = .ok (.invokevirtual 212, 3) := by decide +kernel
theorem d_Md_listAll_112 : decode b_Md_listAll 112 = .ok (.aload_n 0, 1) := by decide +kernel
theorem d_Md_listAll_113 : decode b_Md_listAll 113 = .ok (.bipush 6, 2) := by decide +kernel
theorem d_Md_listAll_115 : decode b_Md_listAll 115 = .ok (.iconst 2, 1) := by decide +kernel
theorem d_Md_listAll_116 : decode b_Md_listAll 116 = .ok (.iload 4, 2) := by decide +kernel
theorem d_Md_listAll_118 : decode b_Md_listAll 118 = .ok (.iload_n 1, 1) := by decide +kernel
theorem d_Md_listAll_119 : decode b_Md_listAll 119 = .ok (.invokevirtual 212, 3) := by decide +kernel
theorem d_Md_listAll_122 : decode b_Md_listAll 122 = .ok (.goto 86, 3) := by decide +kernel
theorem d_Md_listAll_125 : decode b_Md_listAll 125 = .ok (.aload_n 0, 1) := by decide +kernel
theorem d_Md_listAll_126 : decode b_Md_listAll 126 = .ok (.iconst 2, 1) := by decide +kernel
theorem d_Md_listAll_127 : decode b_Md_listAll 127 = .ok (.bipush 6, 2) := by decide +kernel
theorem d_Md_listAll_129 : decode b_Md_listAll 129 = .ok (.iload_n 2, 1) := by decide +kernel
theorem d_Md_listAll_130 : decode b_Md_listAll 130 = .ok (.iload_n 1, 1) := by decide +kernel
theorem d_Md_listAll_131 : decode b_Md_listAll 131 = .ok (.invokevirtual 212, 3) := by decide +kernel
theorem d_Md_listAll_134 : decode b_Md_listAll 134 = .ok (.aload_n 0, 1) := by decide +kernel
theorem d_Md_listAll_135 : decode b_Md_listAll 135 = .ok (.bipush 6, 2) := by decide +kernel
theorem d_Md_listAll_137 : decode b_Md_listAll 137 = .ok (.iconst 2, 1) := by decide +kernel
theorem d_Md_listAll_138 : decode b_Md_listAll 138 = .ok (.iload 4, 2) := by decide +kernel
theorem d_Md_listAll_140 : decode b_Md_listAll 140 = .ok (.iload_n 1, 1) := by decide +kernel
theorem d_Md_listAll_141 : decode b_Md_listAll 141 = .ok (.invokevirtual 212, 3) := by decide +kernel
theorem d_Md_listAll_144 : decode b_Md_listAll 144 = .ok (.goto 64, 3) := by decide +kernel
theorem d_Md_listAll_147 : decode b_Md_listAll 147 = .ok (.aload_n 0, 1) := by decide +kernel
theorem d_Md_listAll_148 : decode b_Md_listAll 148 = .ok (.iconst 2, 1) := by decide +kernel
theorem d_Md_listAll_149 : decode b_Md_listAll 149 = .ok (.bipush 15, 2) := by decide +kernel
theorem d_Md_listAll_151 : decode b_Md_listAll 151 = .ok (.iload_n 2, 1) := by decide +kernel
theorem d_Md_listAll_152 : decode b_Md_listAll 152 = .ok (.iload_n 1, 1) := by decide +kernel
theorem d_Md_listAll_153 : decode b_Md_listAll 153 = .ok (.invokevirtual 212, 3) := by decide +kernel
theorem d_Md_listAll_156 : decode b_Md_listAll 156 = .ok (.goto 52, 3) := by decide +kernel
theorem d_Md_listAll_159 : decode b_Md_listAll 159 = .ok (.aload_n 0, 1) := by decide +kernel
theorem d_Md_listAll_160 : decode b_Md_listAll 160 = .ok (.iconst 2, 1) := by decide +kernel
theorem d_Md_listAll_161 : decode b_Md_listAll 161 = .ok (.bipush 11, 2) := by decide +kernel
theorem d_Md_listAll_163 : decode b_Md_listAll 163 = .ok (.iload_n 2, 1) := by decide +kernel
theorem d_Md_listAll_164 : decode b_Md_listAll 164 = .ok (.iload_n 1, 1) := by decide +kernel
theorem d_Md_listAll_165 : decode b_Md_listAll 165 = .ok (.invokevirtual 212, 3) := by decide +kernel
theorem d_Md_listAll_168 : decode b_Md_listAll 168 = .ok (.aload_n 0, 1) := by decide +kernel
theorem d_Md_listAll_169 : decode b_Md_listAll 169 = .ok (.iconst 0, 1) := by decide +kernel
theorem d_Md_listAll_170 : decode b_Md_listAll 170 = .ok (.iconst 0, 1) := by decide +kernel
theorem d_Md_listAll_171 : decode b_Md_listAll 171 = .ok (.iconst (-1), 1) := by decide +kernel
theorem d_Md_listAll_172 : decode b_Md_listAll 172 = .ok (.iload_n 1, 1) := by decide +kernel
theorem d_Md_listAll_173 : decode b_Md_listAll 173 = .ok (.invokevirtual 212, 3) := by decide +kernel
theorem d_Md_listAll_176 : decode b_Md_listAll 176 = .ok (.aload_n 0, 1) := by decide +kernel
theorem d_Md_listAll_177 : decode b_Md_listAll 177 = .ok (.iconst 0, 1) := by decide +kernel
theorem d_Md_listAll_178 : decode b_Md_listAll 178 = .ok (.iconst 0, 1) := by decide +kernel
theorem d_Md_listAll_179 : decode b_Md_listAll 179 = .ok (.iconst (-1), 1) := by decide +kernel
theorem d_Md_listAll_180 : decode b_Md_listAll 180 = .ok (.iload_n 1, 1) := by decide +kernel
theorem d_Md_listAll_181 : decode b_Md_listAll 181 = .ok (.invokevirtual 212, 3) := by decide +kernel
theorem d_Md_listAll_184 : decode b_Md_listAll 184 = .ok (.goto 24, 3) := by decide +kernel
theorem d_Md_listAll_187 : decode b_Md_listAll 187 = .ok (.aload_n 0, 1) := by decide +kernel
