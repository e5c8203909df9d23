theorem d_Mc_move_13 : decode b_Mc_move 13 = .ok (.lookupswitch 61 #[(11, 27), (12, 44)], 27) := by decide +kernel
theorem d_Mc_move_40 : decode b_Mc_move 40 = .ok (.aload_n 0, 1) := by decide +kernel
theorem d_Mc_move_41 : decode b_Mc_move 41 = .ok (.aload_n 1, 1) := by decide +kernel
theorem d_Mc_move_42 : decode b_Mc_move 42 = .ok (.iload_n 2, 1) := by decide +kernel
theorem d_Mc_move_43 : decode b_Mc_move 43 = .ok (.ifCond .ge 7, 3) := by decide +kernel
theorem d_Mc_move_46 : decode b_Mc_move 46 = .ok (.iconst 1, 1) := by decide +kernel
theorem d_Mc_move_47 : decode b_Mc_move 47 = .ok (.goto 4, 3) := by decide +kernel
theorem d_Mc_move_50 : decode b_Mc_move 50 = .ok (.iconst 0, 1) := by decide +kernel
theorem d_Mc_move_51 : decode b_Mc_move 51 = .ok (.invokevirtual 119, 3) := by decide +kernel
theorem d_Mc_move_54 : decode b_Mc_move 54 = .ok (.goto 29, 3) := by decide +kernel
theorem d_Mc_move_57 : decode b_Mc_move 57 = .ok (.aload_n 0, 1) := by decide +kernel
theorem d_Mc_move_58 : decode b_Mc_move 58 = .ok (.aload_n 1, 1) := by decide +kernel
theorem d_Mc_move_59 : decode b_Mc_move 59 = .ok (.iload_n 2, 1) := by decide +kernel
theorem d_Mc_move_60 : decode b_Mc_move 60 = .ok (.ifCond .eq 7, 3) := by decide +kernel
theorem d_Mc_move_63 : decode b_Mc_move 63 = .ok (.iconst 1, 1) := by decide +kernel
theorem d_Mc_move_64 : decode b_Mc_move 64 = .ok (.goto 4, 3) := by decide +kernel
theorem d_Mc_move_67 : decode b_Mc_move 67 = .ok (.iconst 0, 1) := by decide +kernel
theorem d_Mc_move_68 : decode b_Mc_move 68 = .ok (.invokevirtual 119, 3) := by decide +kernel
theorem d_Mc_move_71 : decode b_Mc_move 71 = .ok (.goto 12, 3) := by decide +kernel
theorem d_Mc_move_74 : decode b_Mc_move 74 = .ok (.aload_n 0, 1) := by decide +kernel
theorem d_Mc_move_75 : decode b_Mc_move 75 = .ok (.iload_n 2, 1) := by decide +kernel
theorem d_Mc_move_76 : decode b_Mc_move 76 = .ok (.aload_n 1, 1) := by decide +kernel
theorem d_Mc_move_77 : decode b_Mc_move 77 = .ok (.getfield 116, 3) := by decide +kernel
theorem d_Mc_move_80 : decode b_Mc_move 80 = .ok (.invokevirtual 123, 3) := by decide +kernel
theorem d_Mc_move_83 : decode b_Mc_move 83 = .ok (.return_, 1) := by decide +kernel
theorem d_Mc_discriminate_0 : decode b_Mc_discriminate 0 = .ok (.iload_n 2, 1) := by decide +kernel
theorem d_Mc_discriminate_1 : decode b_Mc_discriminate 1 = .ok (.ifCond .eq 21, 3) := by decide +kernel
theorem d_Mc_discriminate_4 : decode b_Mc_discriminate 4 = .ok (.aload_n 1, 1) := by decide +kernel
theorem d_Mc_discriminate_5 : decode b_Mc_discriminate 5 = .ok (.aload_n 0, 1) := by decide +kernel
theorem d_Mc_discriminate_6 : decode b_Mc_discriminate 6 = .ok (.getfield 33, 3) := by decide +kernel
theorem d_Mc_discriminate_9 : decode b_Mc_discriminate 9 = .ok (.if_acmp .ne 13, 3) := by decide +kernel
theorem d_Mc_discriminate_12 : decode b_Mc_discriminate 12 = .ok (.aload_n 0, 1) := by decide +kernel
theorem d_Mc_discriminate_13 : decode b_Mc_discriminate 13 = .ok (.aload_n 1, 1) := by decide +kernel
theorem d_Mc_discriminate_14 : decode b_Mc_discriminate 14 = .ok (.getfield 106, 3) := by decide +kernel
theorem d_Mc_discriminate_17 : decode b_Mc_discriminate 17 = .ok (.iconst 1, 1) := by decide +kernel
theorem d_Mc_discriminate_18 : decode b_Mc_discriminate 18 = .ok (.iadd, 1) := by decide +kernel
theorem d_Mc_discriminate_19 : decode b_Mc_discriminate 19 = .ok (.putfield 60, 3) := by decide +kernel
theorem d_Mc_discriminate_22 : decode b_Mc_discriminate 22 = .ok (.return_, 1) := by decide +kernel
theorem d_Mc_sourceWord_0 : decode b_Mc_sourceWord 0 = .ok (.aload_n 0, 1) := by decide +kernel
theorem d_Mc_sourceWord_1 : decode b_Mc_sourceWord 1 = .ok (.getfield 9, 3) := by decide +kernel
theorem d_Mc_sourceWord_4 : decode b_Mc_sourceWord 4 = .ok (.getfield 127, 3) := by decide +kernel
theorem d_Mc_sourceWord_7 : decode b_Mc_sourceWord 7 = .ok (.sipush 128, 3) := by decide +kernel
theorem d_Mc_sourceWord_10 : decode b_Mc_sourceWord 10 = .ok (.saload, 1) := by decide +kernel
theorem d_Mc_sourceWord_11 : decode b_Mc_sourceWord 11 = .ok (.istore_n 2, 1) := by decide +kernel
theorem d_Mc_sourceWord_12 : decode b_Mc_sourceWord 12 = .ok (.aload_n 0, 1) := by decide +kernel
theorem d_Mc_sourceWord_13 : decode b_Mc_sourceWord 13 = .ok (.getfield 9, 3) := by decide +kernel
theorem d_Mc_sourceWord_16 : decode b_Mc_sourceWord 16 = .ok (.getfield 127, 3) := by decide +kernel
theorem d_Mc_sourceWord_19 : decode b_Mc_sourceWord 19 = .ok (.sipush 129, 3) := by decide +kernel
theorem d_Mc_sourceWord_22 : decode b_Mc_sourceWord 22 = .ok (.saload, 1) := by decide +kernel
theorem d_Mc_sourceWord_23 : decode b_Mc_sourceWord 23 = .ok (.istore_n 3, 1) := by decide +kernel
theorem d_Mc_sourceWord_24 : decode b_Mc_sourceWord 24 = .ok (.iload_n 1, 1) := by decide +kernel
theorem d_Mc_sourceWord_25 : decode b_Mc_sourceWord 25 = .ok (.tableswitch 123 0 15 #[79, 81, 123, 123, 123, 123, 123, 123, 123, 83, 88, 93, 95, 100, 112, 117], 79) := by decide +kernel
theorem d_Mc_sourceWord_104 : decode b_Mc_sourceWord 104 = .ok (.iconst 0, 1) := by decide +kernel
theorem d_Mc_sourceWord_105 : decode b_Mc_sourceWord 105 = .ok (.ireturn, 1) := by decide +kernel
theorem d_Mc_sourceWord_106 : decode b_Mc_sourceWord 106 = .ok (.iconst 1, 1) := by decide +kernel
theorem d_Mc_sourceWord_107 : decode b_Mc_sourceWord 107 = .ok (.ireturn, 1) := by decide +kernel
theorem d_Mc_sourceWord_108 : decode b_Mc_sourceWord 108 = .ok (.iload_n 2, 1) := by decide +kernel
theorem d_Mc_sourceWord_109 : decode b_Mc_sourceWord 109 = .ok (.iload_n 3, 1) := by decide +kernel
theorem d_Mc_sourceWord_110 : decode b_Mc_sourceWord 110 = .ok (.iand, 1) := by decide +kernel
theorem d_Mc_sourceWord_111 : decode b_Mc_sourceWord 111 = .ok (.i2s, 1) := by decide +kernel
theorem d_Mc_sourceWord_112 : decode b_Mc_sourceWord 112 = .ok (.ireturn, 1) := by decide +kernel
theorem d_Mc_sourceWord_113 : decode b_Mc_sourceWord 113 = .ok (.iload_n 2, 1) := by decide +kernel
theorem d_Mc_sourceWord_114 : decode b_Mc_sourceWord 114 = .ok (.iload_n 3, 1) := by decide +kernel
theorem d_Mc_sourceWord_115 : decode b_Mc_sourceWord 115 = .ok (.ixor, 1) := by decide +kernel
theorem d_Mc_sourceWord_116 : decode b_Mc_sourceWord 116 = .ok (.i2s, 1) := by decide +kernel
theorem d_Mc_sourceWord_117 : decode b_Mc_sourceWord 117 = .ok (.ireturn, 1) := by decide +kernel
theorem d_Mc_sourceWord_118 : decode b_Mc_sourceWord 118 = .ok (.iconst (-1), 1) := by decide +kernel
theorem d_Mc_sourceWord_119 : decode b_Mc_sourceWord 119 = .ok (.ireturn, 1) := by decide +kernel
theorem d_Mc_sourceWord_120 : decode b_Mc_sourceWord 120 = .ok (.iload_n 2, 1) := by decide +kernel
theorem d_Mc_sourceWord_121 : decode b_Mc_sourceWord 121 = .ok (.iconst 1, 1) := by decide +kernel
theorem d_Mc_sourceWord_122 : decode b_Mc_sourceWord 122 = .ok (.ishr, 1) := by decide +kernel
theorem d_Mc_sourceWord_123 : decode b_Mc_sourceWord 123 = .ok (.i2s, 1) := by decide +kernel
theorem d_Mc_sourceWord_124 : decode b_Mc_sourceWord 124 = .ok (.ireturn, 1) := by decide +kernel
theorem d_Mc_sourceWord_125 : decode b_Mc_sourceWord 125 = .ok (.aload_n 0, 1) := by decide +kernel
theorem d_Mc_sourceWord_126 : decode b_Mc_sourceWord 126 = .ok (.getfield 15, 3) := by decide +kernel
theorem d_Mc_sourceWord_129 : decode b_Mc_sourceWord 129 = .ok (.aload_n 0, 1) := by decide +kernel
theorem d_Mc_sourceWord_130 : decode b_Mc_sourceWord 130 = .ok (.getfield 57, 3) := by decide +kernel
theorem d_Mc_sourceWord_133 : decode b_Mc_sourceWord 133 = .ok (.invokevirtual 131, 3) := by decide +kernel
theorem d_Mc_sourceWord_136 : decode b_Mc_sourceWord 136 = .ok (.ireturn, 1) := by decide +kernel
theorem d_Mc_sourceWord_137 : decode b_Mc_sourceWord 137 = .ok (.iload_n 2, 1) := by decide +kernel
theorem d_Mc_sourceWord_138 : decode b_Mc_sourceWord 138 = .ok (.iconst (-1), 1) := by decide +kernel
theorem d_Mc_sourceWord_139 : decode b_Mc_sourceWord 139 = .ok (.ixor, 1) := by decide +kernel
theorem d_Mc_sourceWord_140 : decode b_Mc_sourceWord 140 = .ok (.i2s, 1) := by decide +kernel
theorem d_Mc_sourceWord_141 : decode b_Mc_sourceWord 141 = .ok (.ireturn, 1) := by decide +kernel
theorem d_Mc_sourceWord_142 : decode b_Mc_sourceWord 142 = .ok (.aload_n 0, 1) := by decide +kernel
theorem d_Mc_sourceWord_143 : decode b_Mc_sourceWord 143 = .ok (.getfield 57, 3) := by decide +kernel
theorem d_Mc_sourceWord_146 : decode b_Mc_sourceWord 146 = .ok (.i2s, 1) := by decide +kernel
theorem d_Mc_sourceWord_147 : decode b_Mc_sourceWord 147 = .ok (.ireturn, 1) := by decide +kernel
theorem d_Mc_sourceWord_148 : decode b_Mc_sourceWord 148 = .ok (.aload_n 0, 1) := by decide +kernel
theorem d_Mc_sourceWord_149 : decode b_Mc_sourceWord 149 = .ok (.getfield 9, 3) := by decide +kernel
theorem d_Mc_sourceWord_152 : decode b_Mc_sourceWord 152 = .ok (.getfield 127, 3) := by decide +kernel
theorem d_Mc_sourceWord_155 : decode b_Mc_sourceWord 155 = .ok (.iload_n 1, 1) := by decide +kernel
theorem d_Mc_sourceWord_156 : decode b_Mc_sourceWord 156 = .ok (.aload_n 0, 1) := by decide +kernel
theorem d_Mc_sourceWord_157 : decode b_Mc_sourceWord 157 = .ok (.getfield 57, 3) := by decide +kernel
theorem d_Mc_sourceWord_160 : decode b_Mc_sourceWord 160 = .ok (.invokestatic 134, 3) := by decide +kernel
theorem d_Mc_sourceWord_163 : decode b_Mc_sourceWord 163 = .ok (.saload, 1) := by decide +kernel
theorem d_Mc_sourceWord_164 : decode b_Mc_sourceWord 164 = .ok (.ireturn, 1) := by decide +kernel
theorem d_Mc_deliver_0 : decode b_Mc_deliver 0 = .ok (.iload_n 2, 1) := by decide +kernel
theorem d_Mc_deliver_1 : decode b_Mc_deliver 1 = .ok (.tableswitch 188 0 15 #[79, 82, 188, 188, 188, 188, 188, 188, 188, 90, 109, 188, 188, 128, 143, 165], 79) := by decide +kernel
theorem d_Mc_deliver_80 : decode b_Mc_deliver 80 = .ok (.goto 126, 3) := by decide +kernel
theorem d_Mc_deliver_83 : decode b_Mc_deliver 83 = .ok (.aload_n 0, 1) := by decide +kernel
theorem d_Mc_deliver_84 : decode b_Mc_deliver 84 = .ok (.iconst 0, 1) := by decide +kernel
theorem d_Mc_deliver_85 : decode b_Mc_deliver 85 = .ok (.putfield 47, 3) := by decide +kernel
theorem d_Mc_deliver_88 : decode b_Mc_deliver 88 = .ok (.goto 118, 3) := by decide +kernel
theorem d_Mc_deliver_91 : decode b_Mc_deliver 91 = .ok (.aload_n 0, 1) := by decide +kernel
theorem d_Mc_deliver_92 : decode b_Mc_deliver 92 = .ok (.getfield 9, 3) := by decide +kernel
theorem d_Mc_deliver_95 : decode b_Mc_deliver 95 = .ok (.getfield 127, 3) := by decide +kernel
theorem d_Mc_deliver_98 : decode b_Mc_deliver 98 = .ok (.sipush 128, 3) := by decide +kernel
theorem d_Mc_deliver_101 : decode b_Mc_deliver 101 = .ok (.dup2, 1) := by decide +kernel
theorem d_Mc_deliver_102 : decode b_Mc_deliver 102 = .ok (.saload, 1) := by decide +kernel
theorem d_Mc_deliver_103 : decode b_Mc_deliver 103 = .ok (.iload_n 1, 1) := by decide +kernel
theorem d_Mc_deliver_104 : decode b_Mc_deliver 104 = .ok (.iadd, 1) := by decide +kernel
theorem d_Mc_deliver_105 : decode b_Mc_deliver 105 = .ok (.i2s, 1) := by decide +kernel
theorem d_Mc_deliver_106 : decode b_Mc_deliver 106 = .ok (.sastore, 1) := by decide +kernel
theorem d_Mc_deliver_107 : decode b_Mc_deliver 107 = .ok (.goto 99, 3) := by decide +kernel
theorem d_Mc_deliver_110 : decode b_Mc_deliver 110 = .ok (.aload_n 0, 1) := by decide +kernel
theorem d_Mc_deliver_111 : decode b_Mc_deliver 111 = .ok (.getfield 9, 3) := by decide +kernel
theorem d_Mc_deliver_114 : decode b_Mc_deliver 114 = .ok (.getfield 127, 3) := by decide +kernel
theorem d_Mc_deliver_117 : decode b_Mc_deliver 117 = .ok (.sipush 128, 3) := by decide +kernel
theorem d_Mc_deliver_120 : decode b_Mc_deliver 120 = .ok (.dup2, 1) := by decide +kernel
theorem d_Mc_deliver_121 : decode b_Mc_deliver 121 = .ok (.saload, 1) := by decide +kernel
theorem d_Mc_deliver_122 : decode b_Mc_deliver 122 = .ok (.iload_n 1, 1) := by decide +kernel
theorem d_Mc_deliver_123 : decode b_Mc_deliver 123 = .ok (.isub, 1) := by decide +kernel
theorem d_Mc_deliver_124 : decode b_Mc_deliver 124 = .ok (.i2s, 1) := by decide +kernel
theorem d_Mc_deliver_125 : decode b_Mc_deliver 125 = .ok (.sastore, 1) := by decide +kernel
theorem d_Mc_deliver_126 : decode b_Mc_deliver 126 = .ok (.goto 80, 3) := by decide +kernel
theorem d_Mc_deliver_129 : decode b_Mc_deliver 129 = .ok (.aload_n 0, 1) := by decide +kernel
theorem d_Mc_deliver_130 : decode b_Mc_deliver 130 = .ok (.getfield 26, 3) := by decide +kernel
theorem d_Mc_deliver_133 : decode b_Mc_deliver 133 = .ok (.iload_n 1, 1) := by decide +kernel
theorem d_Mc_deliver_134 : decode b_Mc_deliver 134 = .ok (.aload_n 0, 1) := by decide +kernel
theorem d_Mc_deliver_135 : decode b_Mc_deliver 135 = .ok (.getfield 9, 3) := by decide +kernel
theorem d_Mc_deliver_138 : decode b_Mc_deliver 138 = .ok (.invokevirtual 138, 3) := by decide +kernel
theorem d_Mc_deliver_141 : decode b_Mc_deliver 141 = .ok (.goto 65, 3) := by decide +kernel
theorem d_Mc_deliver_144 : decode b_Mc_deliver 144 = .ok (.aload_n 0, 1) := by decide +kernel
theorem d_Mc_deliver_145 : decode b_Mc_deliver 145 = .ok (.getfield 15, 3) := by decide +kernel
theorem d_Mc_deliver_148 : decode b_Mc_deliver 148 = .ok (.aload_n 0, 1) := by decide +kernel
theorem d_Mc_deliver_149 : decode b_Mc_deliver 149 = .ok (.getfield 57, 3) := by decide +kernel
theorem d_Mc_deliver_152 : decode b_Mc_deliver 152 = .ok (.invokevirtual 142, 3) := by decide +kernel
theorem d_Mc_deliver_155 : decode b_Mc_deliver 155 = .ok (.ifCond .ne 51, 3) := by decide +kernel
theorem d_Mc_deliver_158 : decode b_Mc_deliver 158 = .ok (.aload_n 0, 1) := by decide +kernel
theorem d_Mc_deliver_159 : decode b_Mc_deliver 159 = .ok (.iconst 2, 1) := by decide +kernel
theorem d_Mc_deliver_160 : decode b_Mc_deliver 160 = .ok (.invokevirtual 92, 3) := by decide +kernel
theorem d_Mc_deliver_163 : decode b_Mc_deliver 163 = .ok (.goto 43, 3) := by decide +kernel
theorem d_Mc_deliver_166 : decode b_Mc_deliver 166 = .ok (.aload_n 0, 1) := by decide +kernel
theorem d_Mc_deliver_167 : decode b_Mc_deliver 167 = .ok (.getfield 19, 3) := by decide +kernel
theorem d_Mc_deliver_170 : decode b_Mc_deliver 170 = .ok (.iload_n 1, 1) := by decide +kernel
theorem d_Mc_deliver_171 : decode b_Mc_deliver 171 = .ok (.aload_n 0, 1) := by decide +kernel
theorem d_Mc_deliver_172 : decode b_Mc_deliver 172 = .ok (.getfield 57, 3) := by decide +kernel
theorem d_Mc_deliver_175 : decode b_Mc_deliver 175 = .ok (.invokevirtual 145, 3) := by decide +kernel
theorem d_Mc_deliver_178 : decode b_Mc_deliver 178 = .ok (.ifCond .ne 28, 3) := by decide +kernel
theorem d_Mc_deliver_181 : decode b_Mc_deliver 181 = .ok (.aload_n 0, 1) := by decide +kernel
theorem d_Mc_deliver_182 : decode b_Mc_deliver 182 = .ok (.iconst 3, 1) := by decide +kernel
theorem d_Mc_deliver_183 : decode b_Mc_deliver 183 = .ok (.invokevirtual 92, 3) := by decide +kernel
theorem d_Mc_deliver_186 : decode b_Mc_deliver 186 = .ok (.goto 20, 3) := by decide +kernel
theorem d_Mc_deliver_189 : decode b_Mc_deliver 189 = .ok (.aload_n 0, 1) := by decide +kernel
theorem d_Mc_deliver_190 : decode b_Mc_deliver 190 = .ok (.getfield 9, 3) := by decide +kernel
theorem d_Mc_deliver_193 : decode b_Mc_deliver 193 = .ok (.getfield 127, 3) := by decide +kernel
theorem d_Mc_deliver_196 : decode b_Mc_deliver 196 = .ok (.iload_n 2, 1) := by decide +kernel
theorem d_Mc_deliver_197 : decode b_Mc_deliver 197 = .ok (.aload_n 0, 1) := by decide +kernel
theorem d_Mc_deliver_198 : decode b_Mc_deliver 198 = .ok (.getfield 57, 3) := by decide +kernel
theorem d_Mc_deliver_201 : decode b_Mc_deliver 201 = .ok (.invokestatic 134, 3) := by decide +kernel
theorem d_Mc_deliver_204 : decode b_Mc_deliver 204 = .ok (.iload_n 1, 1) := by decide +kernel
theorem d_Mc_deliver_205 : decode b_Mc_deliver 205 = .ok (.sastore, 1) := by decide +kernel
theorem d_Mc_deliver_206 : decode b_Mc_deliver 206 = .ok (.return_, 1) := by decide +kernel
theorem d_Mu_init_0 : decode b_Mu_init 0 = .ok (.aload_n 0, 1) := by decide +kernel
theorem d_Mu_init_1 : decode b_Mu_init 1 = .ok (.invokespecial 1, 3) := by decide +kernel
theorem d_Mu_init_4 : decode b_Mu_init 4 = .ok (.return_, 1) := by decide +kernel
theorem d_Mu_rest_0 : decode b_Mu_rest 0 = .ok (.aload_n 0, 1) := by decide +kernel
theorem d_Mu_rest_1 : decode b_Mu_rest 1 = .ok (.iconst 0, 1) := by decide +kernel
theorem d_Mu_rest_2 : decode b_Mu_rest 2 = .ok (.putfield 7, 3) := by decide +kernel
theorem d_Mu_rest_5 : decode b_Mu_rest 5 = .ok (.return_, 1) := by decide +kernel
theorem d_Mu_begin_0 : decode b_Mu_begin 0 = .ok (.aload_n 0, 1) := by decide +kernel
theorem d_Mu_begin_1 : decode b_Mu_begin 1 = .ok (.iload_n 1, 1) := by decide +kernel
theorem d_Mu_begin_2 : decode b_Mu_begin 2 = .ok (.putfield 13, 3) := by decide +kernel
theorem d_Mu_begin_5 : decode b_Mu_begin 5 = .ok (.aload_n 0, 1) := by decide +kernel
theorem d_Mu_begin_6 : decode b_Mu_begin 6 = .ok (.bipush 16, 2) := by decide +kernel
theorem d_Mu_begin_8 : decode b_Mu_begin 8 = .ok (.putfield 7, 3) := by decide +kernel
theorem d_Mu_begin_11 : decode b_Mu_begin 11 = .ok (.aload_n 0, 1) := by decide +kernel
theorem d_Mu_begin_12 : decode b_Mu_begin 12 = .ok (.iconst 1, 1) := by decide +kernel
theorem d_Mu_begin_13 : decode b_Mu_begin 13 = .ok (.putfield 16, 3) := by decide +kernel
theorem d_Mu_begin_16 : decode b_Mu_begin 16 = .ok (.aload_n 2, 1) := by decide +kernel
theorem d_Mu_begin_17 : decode b_Mu_begin 17 = .ok (.iconst 0, 1) := by decide +kernel
theorem d_Mu_begin_18 : decode b_Mu_begin 18 = .ok (.invokevirtual 20, 3) := by decide +kernel
theorem d_Mu_begin_21 : decode b_Mu_begin 21 = .ok (.return_, 1) := by decide +kernel
theorem d_Mu_endCycle_0 : decode b_Mu_endCycle 0 = .ok (.aload_n 0, 1) := by decide +kernel
theorem d_Mu_endCycle_1 : decode b_Mu_endCycle 1 = .ok (.getfield 16, 3) := by decide +kernel
theorem d_Mu_endCycle_4 : decode b_Mu_endCycle 4 = .ok (.ifCond .eq 9, 3) := by decide +kernel
theorem d_Mu_endCycle_7 : decode b_Mu_endCycle 7 = .ok (.aload_n 0, 1) := by decide +kernel
theorem d_Mu_endCycle_8 : decode b_Mu_endCycle 8 = .ok (.iconst 0, 1) := by decide +kernel
theorem d_Mu_endCycle_9 : decode b_Mu_endCycle 9 = .ok (.putfield 16, 3) := by decide +kernel
theorem d_Mu_endCycle_12 : decode b_Mu_endCycle 12 = .ok (.return_, 1) := by decide +kernel
theorem d_Mu_endCycle_13 : decode b_Mu_endCycle 13 = .ok (.aload_n 0, 1) := by decide +kernel
theorem d_Mu_endCycle_14 : decode b_Mu_endCycle 14 = .ok (.getfield 7, 3) := by decide +kernel
theorem d_Mu_endCycle_17 : decode b_Mu_endCycle 17 = .ok (.ifCond .ne 4, 3) := by decide +kernel
theorem d_Mu_endCycle_20 : decode b_Mu_endCycle 20 = .ok (.return_, 1) := by decide +kernel
theorem d_Mu_endCycle_21 : decode b_Mu_endCycle 21 = .ok (.aload_n 0, 1) := by decide +kernel
theorem d_Mu_endCycle_22 : decode b_Mu_endCycle 22 = .ok (.getfield 13, 3) := by decide +kernel
theorem d_Mu_endCycle_25 : decode b_Mu_endCycle 25 = .ok (.ldc 26, 2) := by decide +kernel
theorem d_Mu_endCycle_27 : decode b_Mu_endCycle 27 = .ok (.iand, 1) := by decide +kernel
theorem d_Mu_endCycle_28 : decode b_Mu_endCycle 28 = .ok (.ifCond .eq 7, 3) := by decide +kernel
theorem d_Mu_endCycle_31 : decode b_Mu_endCycle 31 = .ok (.iconst 1, 1) := by decide +kernel
theorem d_Mu_endCycle_32 : decode b_Mu_endCycle 32 = .ok (.goto 4, 3) := by decide +kernel
theorem d_Mu_endCycle_35 : decode b_Mu_endCycle 35 = .ok (.iconst 0, 1) := by decide +kernel
theorem d_Mu_endCycle_36 : decode b_Mu_endCycle 36 = .ok (.istore_n 2, 1) := by decide +kernel
theorem d_Mu_endCycle_37 : decode b_Mu_endCycle 37 = .ok (.aload_n 1, 1) := by decide +kernel
theorem d_Mu_endCycle_38 : decode b_Mu_endCycle 38 = .ok (.iconst 2, 1) := by decide +kernel
theorem d_Mu_endCycle_39 : decode b_Mu_endCycle 39 = .ok (.aload_n 1, 1) := by decide +kernel
theorem d_Mu_endCycle_40 : decode b_Mu_endCycle 40 = .ok (.invokevirtual 27, 3) := by decide +kernel
theorem d_Mu_endCycle_43 : decode b_Mu_endCycle 43 = .ok (.imul, 1) := by decide +kernel
theorem d_Mu_endCycle_44 : decode b_Mu_endCycle 44 = .ok (.iload_n 2, 1) := by decide +kernel
theorem d_Mu_endCycle_45 : decode b_Mu_endCycle 45 = .ok (.ifCond .eq 14, 3) := by decide +kernel
theorem d_Mu_endCycle_48 : decode b_Mu_endCycle 48 = .ok (.aload_n 1, 1) := by decide +kernel
theorem d_Mu_endCycle_49 : decode b_Mu_endCycle 49 = .ok (.getfield 31, 3) := by decide +kernel
theorem d_Mu_endCycle_52 : decode b_Mu_endCycle 52 = .ok (.sipush 129, 3) := by decide +kernel
theorem d_Mu_endCycle_55 : decode b_Mu_endCycle 55 = .ok (.saload, 1) := by decide +kernel
theorem d_Mu_endCycle_56 : decode b_Mu_endCycle 56 = .ok (.goto 4, 3) := by decide +kernel
theorem d_Mu_endCycle_59 : decode b_Mu_endCycle 59 = .ok (.iconst 0, 1) := by decide +kernel
theorem d_Mu_endCycle_60 : decode b_Mu_endCycle 60 = .ok (.iadd, 1) := by decide +kernel
theorem d_Mu_endCycle_61 : decode b_Mu_endCycle 61 = .ok (.invokevirtual 20, 3) := by decide +kernel
theorem d_Mu_endCycle_64 : decode b_Mu_endCycle 64 = .ok (.aload_n 0, 1) := by decide +kernel
theorem d_Mu_endCycle_65 : decode b_Mu_endCycle 65 = .ok (.aload_n 0, 1) := by decide +kernel
theorem d_Mu_endCycle_66 : decode b_Mu_endCycle 66 = .ok (.getfield 13, 3) := by decide +kernel
theorem d_Mu_endCycle_69 : decode b_Mu_endCycle 69 = .ok (.iconst 1, 1) := by decide +kernel
theorem d_Mu_endCycle_70 : decode b_Mu_endCycle 70 = .ok (.ishl, 1) := by decide +kernel
theorem d_Mu_endCycle_71 : decode b_Mu_endCycle 71 = .ok (.putfield 13, 3) := by decide +kernel
theorem d_Mu_endCycle_74 : decode b_Mu_endCycle 74 = .ok (.aload_n 0, 1) := by decide +kernel
theorem d_Mu_endCycle_75 : decode b_Mu_endCycle 75 = .ok (.dup, 1) := by decide +kernel
theorem d_Mu_endCycle_76 : decode b_Mu_endCycle 76 = .ok (.getfield 7, 3) := by decide +kernel
theorem d_Mu_endCycle_79 : decode b_Mu_endCycle 79 = .ok (.iconst 1, 1) := by decide +kernel
theorem d_Mu_endCycle_80 : decode b_Mu_endCycle 80 = .ok (.isub, 1) := by decide +kernel
theorem d_Mu_endCycle_81 : decode b_Mu_endCycle 81 = .ok (.putfield 7, 3) := by decide +kernel
theorem d_Mu_endCycle_84 : decode b_Mu_endCycle 84 = .ok (.return_, 1) := by decide +kernel
theorem d_Pl_init_0 : decode b_Pl_init 0 = .ok (.aload_n 0, 1) := by decide +kernel
theorem d_Pl_init_1 : decode b_Pl_init 1 = .ok (.invokespecial 3, 3) := by decide +kernel
theorem d_Pl_init_4 : decode b_Pl_init 4 = .ok (.aload_n 0, 1) := by decide +kernel
theorem d_Pl_init_5 : decode b_Pl_init 5 = .ok (.bipush 64, 2) := by decide +kernel
theorem d_Pl_init_7 : decode b_Pl_init 7 = .ok (.newarray .int, 2) := by decide +kernel
theorem d_Pl_init_9 : decode b_Pl_init 9 = .ok (.putfield 9, 3) := by decide +kernel
theorem d_Pl_init_12 : decode b_Pl_init 12 = .ok (.aload_n 0, 1) := by decide +kernel
theorem d_Pl_init_13 : decode b_Pl_init 13 = .ok (.bipush 32, 2) := by decide +kernel
theorem d_Pl_init_15 : decode b_Pl_init 15 = .ok (.newarray .int, 2) := by decide +kernel
theorem d_Pl_init_17 : decode b_Pl_init 17 = .ok (.putfield 15, 3) := by decide +kernel
theorem d_Pl_init_20 : decode b_Pl_init 20 = .ok (.aload_n 0, 1) := by decide +kernel
theorem d_Pl_init_21 : decode b_Pl_init 21 = .ok (.bipush 16, 2) := by decide +kernel
theorem d_Pl_init_23 : decode b_Pl_init 23 = .ok (.newarray .int, 2) := by decide +kernel
theorem d_Pl_init_25 : decode b_Pl_init 25 = .ok (.putfield 18, 3) := by decide +kernel
theorem d_Pl_init_28 : decode b_Pl_init 28 = .ok (.aload_n 0, 1) := by decide +kernel
theorem d_Pl_init_29 : decode b_Pl_init 29 = .ok (.bipush 12, 2) := by decide +kernel
theorem d_Pl_init_31 : decode b_Pl_init 31 = .ok (.newarray .int, 2) := by decide +kernel
theorem d_Pl_init_33 : decode b_Pl_init 33 = .ok (.putfield 21, 3) := by decide +kernel
theorem d_Pl_init_36 : decode b_Pl_init 36 = .ok (.aload_n 0, 1) := by decide +kernel
theorem d_Pl_init_37 : decode b_Pl_init 37 = .ok (.bipush 12, 2) := by decide +kernel
theorem d_Pl_init_39 : decode b_Pl_init 39 = .ok (.newarray .int, 2) := by decide +kernel
theorem d_Pl_init_41 : decode b_Pl_init 41 = .ok (.putfield 24, 3) := by decide +kernel
theorem d_Pl_init_44 : decode b_Pl_init 44 = .ok (.aload_n 0, 1) := by decide +kernel
theorem d_Pl_init_45 : decode b_Pl_init 45 = .ok (.getfield 18, 3) := by decide +kernel
theorem d_Pl_init_48 : decode b_Pl_init 48 = .ok (.iconst (-1), 1) := by decide +kernel
theorem d_Pl_init_49 : decode b_Pl_init 49 = .ok (.invokestatic 27, 3) := by decide +kernel
theorem d_Pl_init_52 : decode b_Pl_init 52 = .ok (.aload_n 0, 1) := by decide +kernel
theorem d_Pl_init_53 : decode b_Pl_init 53 = .ok (.getfield 21, 3) := by decide +kernel
theorem d_Pl_init_56 : decode b_Pl_init 56 = .ok (.iconst (-1), 1) := by decide +kernel
theorem d_Pl_init_57 : decode b_Pl_init 57 = .ok (.invokestatic 27, 3) := by decide +kernel
theorem d_Pl_init_60 : decode b_Pl_init 60 = .ok (.return_, 1) := by decide +kernel
theorem d_Pl_placeAll_0 : decode b_Pl_placeAll 0 = .ok (.aload_n 0, 1) := by decide +kernel
theorem d_Pl_placeAll_1 : decode b_Pl_placeAll 1 = .ok (.invokevirtual 33, 3) := by decide +kernel
theorem d_Pl_placeAll_4 : decode b_Pl_placeAll 4 = .ok (.iconst 0, 1) := by decide +kernel
theorem d_Pl_placeAll_5 : decode b_Pl_placeAll 5 = .ok (.istore_n 2, 1) := by decide +kernel
theorem d_Pl_placeAll_6 : decode b_Pl_placeAll 6 = .ok (.iload_n 2, 1) := by decide +kernel
theorem d_Pl_placeAll_7 : decode b_Pl_placeAll 7 = .ok (.aload_n 1, 1) := by decide +kernel
theorem d_Pl_placeAll_8 : decode b_Pl_placeAll 8 = .ok (.getfield 36, 3) := by decide +kernel
theorem d_Pl_placeAll_11 : decode b_Pl_placeAll 11 = .ok (.if_icmp .ge 25, 3) := by decide +kernel
theorem d_Pl_placeAll_14 : decode b_Pl_placeAll 14 = .ok (.aload_n 0, 1) := by decide +kernel
theorem d_Pl_placeAll_15 : decode b_Pl_placeAll 15 = .ok (.getfield 21, 3) := by decide +kernel
theorem d_Pl_placeAll_18 : decode b_Pl_placeAll 18 = .ok (.iload_n 2, 1) := by decide +kernel
theorem d_Pl_placeAll_19 : decode b_Pl_placeAll 19 = .ok (.aload_n 0, 1) := by decide +kernel
theorem d_Pl_placeAll_20 : decode b_Pl_placeAll 20 = .ok (.invokevirtual 42, 3) := by decide +kernel
theorem d_Pl_placeAll_23 : decode b_Pl_placeAll 23 = .ok (.iastore, 1) := by decide +kernel
theorem d_Pl_placeAll_24 : decode b_Pl_placeAll 24 = .ok (.aload_n 0, 1) := by decide +kernel
theorem d_Pl_placeAll_25 : decode b_Pl_placeAll 25 = .ok (.aload_n 1, 1) := by decide +kernel
theorem d_Pl_placeAll_26 : decode b_Pl_placeAll 26 = .ok (.iload_n 2, 1) := by decide +kernel
theorem d_Pl_placeAll_27 : decode b_Pl_placeAll 27 = .ok (.invokevirtual 46, 3) := by decide +kernel
theorem d_Pl_placeAll_30 : decode b_Pl_placeAll 30 = .ok (.iinc 2 1, 3) := by decide +kernel
theorem d_Pl_placeAll_33 : decode b_Pl_placeAll 33 = .ok (.goto (-27), 3) := by decide +kernel
theorem d_Pl_placeAll_36 : decode b_Pl_placeAll 36 = .ok (.aload_n 1, 1) := by decide +kernel
theorem d_Pl_placeAll_37 : decode b_Pl_placeAll 37 = .ok (.invokevirtual 50, 3) := by decide +kernel
theorem d_Pl_placeAll_40 : decode b_Pl_placeAll 40 = .ok (.ifCond .ne 7, 3) := by decide +kernel
theorem d_Pl_placeAll_43 : decode b_Pl_placeAll 43 = .ok (.aload_n 0, 1) := by decide +kernel
theorem d_Pl_placeAll_44 : decode b_Pl_placeAll 44 = .ok (.invokevirtual 54, 3) := by decide +kernel
theorem d_Pl_placeAll_47 : decode b_Pl_placeAll 47 = .ok (.aload_n 0, 1) := by decide +kernel
theorem d_Pl_placeAll_48 : decode b_Pl_placeAll 48 = .ok (.getfield 57, 3) := by decide +kernel
theorem d_Pl_placeAll_51 : decode b_Pl_placeAll 51 = .ok (.ifCond .eq 12, 3) := by decide +kernel
theorem d_Pl_placeAll_54 : decode b_Pl_placeAll 54 = .ok (.aload_n 0, 1) := by decide +kernel
theorem d_Pl_placeAll_55 : decode b_Pl_placeAll 55 = .ok (.aload_n 1, 1) := by decide +kernel
theorem d_Pl_placeAll_56 : decode b_Pl_placeAll 56 = .ok (.invokevirtual 61, 3) := by decide +kernel
theorem d_Pl_placeAll_59 : decode b_Pl_placeAll 59 = .ok (.aload_n 0, 1) := by decide +kernel
theorem d_Pl_placeAll_60 : decode b_Pl_placeAll 60 = .ok (.invokevirtual 65, 3) := by decide +kernel
theorem d_Pl_placeAll_63 : decode b_Pl_placeAll 63 = .ok (.aload_n 0, 1) := by decide +kernel
theorem d_Pl_placeAll_64 : decode b_Pl_placeAll 64 = .ok (.getfield 57, 3) := by decide +kernel
theorem d_Pl_placeAll_67 : decode b_Pl_placeAll 67 = .ok (.ireturn, 1) := by decide +kernel
theorem d_Pl_forget_0 : decode b_Pl_forget 0 = .ok (.aload_n 0, 1) := by decide +kernel
theorem d_Pl_forget_1 : decode b_Pl_forget 1 = .ok (.getfield 9, 3) := by decide +kernel
theorem d_Pl_forget_4 : decode b_Pl_forget 4 = .ok (.iconst (-1), 1) := by decide +kernel
theorem d_Pl_forget_5 : decode b_Pl_forget 5 = .ok (.invokestatic 27, 3) := by decide +kernel
theorem d_Pl_forget_8 : decode b_Pl_forget 8 = .ok (.aload_n 0, 1) := by decide +kernel
theorem d_Pl_forget_9 : decode b_Pl_forget 9 = .ok (.getfield 15, 3) := by decide +kernel
theorem d_Pl_forget_12 : decode b_Pl_forget 12 = .ok (.iconst (-1), 1) := by decide +kernel
theorem d_Pl_forget_13 : decode b_Pl_forget 13 = .ok (.invokestatic 27, 3) := by decide +kernel
theorem d_Pl_forget_16 : decode b_Pl_forget 16 = .ok (.aload_n 0, 1) := by decide +kernel
theorem d_Pl_forget_17 : decode b_Pl_forget 17 = .ok (.getfield 18, 3) := by decide +kernel
theorem d_Pl_forget_20 : decode b_Pl_forget 20 = .ok (.iconst (-1), 1) := by decide +kernel
theorem d_Pl_forget_21 : decode b_Pl_forget 21 = .ok (.invokestatic 27, 3) := by decide +kernel
theorem d_Pl_forget_24 : decode b_Pl_forget 24 = .ok (.aload_n 0, 1) := by decide +kernel
theorem d_Pl_forget_25 : decode b_Pl_forget 25 = .ok (.getfield 21, 3) := by decide +kernel
theorem d_Pl_forget_28 : decode b_Pl_forget 28 = .ok (.iconst (-1), 1) := by decide +kernel
theorem d_Pl_forget_29 : decode b_Pl_forget 29 = .ok (.invokestatic 27, 3) := by decide +kernel
theorem d_Pl_forget_32 : decode b_Pl_forget 32 = .ok (.aload_n 0, 1) := by decide +kernel
theorem d_Pl_forget_33 : decode b_Pl_forget 33 = .ok (.getfield 24, 3) := by decide +kernel
theorem d_Pl_forget_36 : decode b_Pl_forget 36 = .ok (.iconst (-1), 1) := by decide +kernel
theorem d_Pl_forget_37 : decode b_Pl_forget 37 = .ok (.invokestatic 27, 3) := by decide +kernel
theorem d_Pl_forget_40 : decode b_Pl_forget 40 = .ok (.aload_n 0, 1) := by decide +kernel
theorem d_Pl_forget_41 : decode b_Pl_forget 41 = .ok (.iconst 0, 1) := by decide +kernel
theorem d_Pl_forget_42 : decode b_Pl_forget 42 = .ok (.putfield 68, 3) := by decide +kernel
theorem d_Pl_forget_45 : decode b_Pl_forget 45 = .ok (.aload_n 0, 1) := by decide +kernel
theorem d_Pl_forget_46 : decode b_Pl_forget 46 = .ok (.iconst (-1), 1) := by decide +kernel
theorem d_Pl_forget_47 : decode b_Pl_forget 47 = .ok (.putfield 71, 3) := by decide +kernel
theorem d_Pl_forget_50 : decode b_Pl_forget 50 = .ok (.aload_n 0, 1) := by decide +kernel
theorem d_Pl_forget_51 : decode b_Pl_forget 51 = .ok (.iconst 0, 1) := by decide +kernel
theorem d_Pl_forget_52 : decode b_Pl_forget 52 = .ok (.putfield 74, 3) := by decide +kernel
theorem d_Pl_forget_55 : decode b_Pl_forget 55 = .ok (.aload_n 0, 1) := by decide +kernel
theorem d_Pl_forget_56 : decode b_Pl_forget 56 = .ok (.iconst 1, 1) := by decide +kernel
theorem d_Pl_forget_57 : decode b_Pl_forget 57 = .ok (.putfield 57, 3) := by decide +kernel
theorem d_Pl_forget_60 : decode b_Pl_forget 60 = .ok (.return_, 1) := by decide +kernel
theorem d_Pl_placeStatement_0 : decode b_Pl_placeStatement 0 = .ok (.aload_n 1, 1) := by decide +kernel
theorem d_Pl_placeStatement_1 : decode b_Pl_placeStatement 1 = .ok (.getfield 75, 3) := by decide +kernel
theorem d_Pl_placeStatement_4 : decode b_Pl_placeStatement 4 = .ok (.iload_n 2, 1) := by decide +kernel
theorem d_Pl_placeStatement_5 : decode b_Pl_placeStatement 5 = .ok (.iaload, 1) := by decide +kernel
theorem d_Pl_placeStatement_6 : decode b_Pl_placeStatement 6 = .ok (.istore_n 3, 1) := by decide +kernel
theorem d_Pl_placeStatement_7 : decode b_Pl_placeStatement 7 = .ok (.aload_n 1, 1) := by decide +kernel
theorem d_Pl_placeStatement_8 : decode b_Pl_placeStatement 8 = .ok (.getfield 78, 3) := by decide +kernel
theorem d_Pl_placeStatement_11 : decode b_Pl_placeStatement 11 = .ok (.iload_n 2, 1) := by decide +kernel
theorem d_Pl_placeStatement_12 : decode b_Pl_placeStatement 12 = .ok (.iaload, 1) := by decide +kernel
theorem d_Pl_placeStatement_13 : decode b_Pl_placeStatement 13 = .ok (.istore 4, 2) := by decide +kernel
theorem d_Pl_placeStatement_15 : decode b_Pl_placeStatement 15 = .ok (.aload_n 1, 1) := by decide +kernel
theorem d_Pl_placeStatement_16 : decode b_Pl_placeStatement 16 = .ok (.getfield 81, 3) := by decide +kernel
theorem d_Pl_placeStatement_19 : decode b_Pl_placeStatement 19 = .ok (.iload_n 2, 1) := by decide +kernel
theorem d_Pl_placeStatement_20 : decode b_Pl_placeStatement 20 = .ok (.iaload, 1) := by decide +kernel
theorem d_Pl_placeStatement_21 : decode b_Pl_placeStatement 21 = .ok (.tableswitch 164 0 5 #[39, 72, 105, 125, 136, 152], 39) := by decide +kernel
theorem d_Pl_placeStatement_60 : decode b_Pl_placeStatement 60 = .ok (.aload_n 0, 1) := by decide +kernel
theorem d_Pl_placeStatement_61 : decode b_Pl_placeStatement 61 = .ok (.iconst 2, 1) := by decide +kernel
theorem d_Pl_placeStatement_62 : decode b_Pl_placeStatement 62 = .ok (.bipush 6, 2) := by decide +kernel
theorem d_Pl_placeStatement_64 : decode b_Pl_placeStatement 64 = .ok (.iload_n 3, 1) := by decide +kernel
theorem d_Pl_placeStatement_65 : decode b_Pl_placeStatement 65 = .ok (.invokevirtual 84, 3) := by decide +kernel
theorem d_Pl_placeStatement_68 : decode b_Pl_placeStatement 68 = .ok (.aload_n 0, 1) := by decide +kernel
theorem d_Pl_placeStatement_69 : decode b_Pl_placeStatement 69 = .ok (.iconst 2, 1) := by decide +kernel
theorem d_Pl_placeStatement_70 : decode b_Pl_placeStatement 70 = .ok (.bipush 9, 2) := by decide +kernel
theorem d_Pl_placeStatement_72 : decode b_Pl_placeStatement 72 = .ok (.aload_n 1, 1) := by decide +kernel
theorem d_Pl_placeStatement_73 : decode b_Pl_placeStatement 73 = .ok (.getfield 88, 3) := by decide +kernel
theorem d_Pl_placeStatement_76 : decode b_Pl_placeStatement 76 = .ok (.iload_n 2, 1) := by decide +kernel
theorem d_Pl_placeStatement_77 : decode b_Pl_placeStatement 77 = .ok (.iaload, 1) := by decide +kernel
theorem d_Pl_placeStatement_78 : decode b_Pl_placeStatement 78 = .ok (.invokevirtual 84, 3) := by decide +kernel
theorem d_Pl_placeStatement_81 : decode b_Pl_placeStatement 81 = .ok (.aload_n 0, 1) := by decide +kernel
theorem d_Pl_placeStatement_82 : decode b_Pl_placeStatement 82 = .ok (.bipush 6, 2) := by decide +kernel
theorem d_Pl_placeStatement_84 : decode b_Pl_placeStatement 84 = .ok (.iconst 2, 1) := by decide +kernel
theorem d_Pl_placeStatement_85 : decode b_Pl_placeStatement 85 = .ok (.iload 4, 2) := by decide +kernel
theorem d_Pl_placeStatement_87 : decode b_Pl_placeStatement 87 = .ok (.invokevirtual 84, 3) := by decide +kernel
theorem d_Pl_placeStatement_90 : decode b_Pl_placeStatement 90 = .ok (.goto 99, 3) := by decide +kernel
theorem d_Pl_placeStatement_93 : decode b_Pl_placeStatement 93 = .ok (.aload_n 0, 1) := by decide +kernel
theorem d_Pl_placeStatement_94 : decode b_Pl_placeStatement 94 = .ok (.iconst 2, 1) := by decide +kernel
theorem d_Pl_placeStatement_95 : decode b_Pl_placeStatement 95 = .ok (.bipush 6, 2) := by decide +kernel
theorem d_Pl_placeStatement_97 : decode b_Pl_placeStatement 97 = .ok (.iload_n 3, 1) := by decide +kernel
theorem d_Pl_placeStatement_98 : decode b_Pl_placeStatement 98 = .ok (.invokevirtual 84, 3) := by decide +kernel
theorem d_Pl_placeStatement_101 : decode b_Pl_placeStatement 101 = .ok (.aload_n 0, 1) := by decide +kernel
theorem d_Pl_placeStatement_102 : decode b_Pl_placeStatement 102 = .ok (.iconst 2, 1) := by decide +kernel
theorem d_Pl_placeStatement_103 : decode b_Pl_placeStatement 103 = .ok (.bipush 10, 2) := by decide +kernel
theorem d_Pl_placeStatement_105 : decode b_Pl_placeStatement 105 = .ok (.aload_n 1, 1) := by decide +kernel
theorem d_Pl_placeStatement_106 : decode b_Pl_placeStatement 106 = .ok (.getfield 88, 3) := by decide +kernel
theorem d_Pl_placeStatement_109 : decode b_Pl_placeStatement 109 = .ok (.iload_n 2, 1) := by decide +kernel
theorem d_Pl_placeStatement_110 : decode b_Pl_placeStatement 110 = .ok (.iaload, 1) := by decide +kernel
theorem d_Pl_placeStatement_111 : decode b_Pl_placeStatement 111 = .ok (.invokevirtual 84, 3) := by decide +kernel
theorem d_Pl_placeStatement_114 : decode b_Pl_placeStatement 114 = .ok (.aload_n 0, 1) := by decide +kernel
theorem d_Pl_placeStatement_115 : decode b_Pl_placeStatement 115 = .ok (.bipush 6, 2) := by decide +kernel
theorem d_Pl_placeStatement_117 : decode b_Pl_placeStatement 117 = .ok (.iconst 2, 1) := by decide +kernel
theorem d_Pl_placeStatement_118 : decode b_Pl_placeStatement 118 = .ok (.iload 4, 2) := by decide +kernel
theorem d_Pl_placeStatement_120 : decode b_Pl_placeStatement 120 = .ok (.invokevirtual 84, 3) := by decide +kernel
theorem d_Pl_placeStatement_123 : decode b_Pl_placeStatement 123 = .ok (.goto 66, 3) := by decide +kernel
theorem d_Pl_placeStatement_126 : decode b_Pl_placeStatement 126 = .ok (.aload_n 0, 1) := by decide +kernel
theorem d_Pl_placeStatement_127 : decode b_Pl_placeStatement 127 = .ok (.iconst 2, 1) := by decide +kernel
theorem d_Pl_placeStatement_128 : decode b_Pl_placeStatement 128 = .ok (.bipush 6, 2) := by decide +kernel
theorem d_Pl_placeStatement_130 : decode b_Pl_placeStatement 130 = .ok (.iload_n 3, 1) := by decide +kernel
theorem d_Pl_placeStatement_131 : decode b_Pl_placeStatement 131 = .ok (.invokevirtual 84, 3) := by decide +kernel
theorem d_Pl_placeStatement_134 : decode b_Pl_placeStatement 134 = .ok (.aload_n 0, 1) := by decide +kernel
theorem d_Pl_placeStatement_135 : decode b_Pl_placeStatement 135 = .ok (.bipush 6, 2) := by decide +kernel
theorem d_Pl_placeStatement_137 : decode b_Pl_placeStatement 137 = .ok (.iconst 2, 1) := by decide +kernel
theorem d_Pl_placeStatement_138 : decode b_Pl_placeStatement 138 = .ok (.iload 4, 2) := by decide +kernel
theorem d_Pl_placeStatement_140 : decode b_Pl_placeStatement 140 = .ok (.invokevirtual 84, 3) := by decide +kernel
theorem d_Pl_placeStatement_143 : decode b_Pl_placeStatement 143 = .ok (.goto 46, 3) := by decide +kernel
theorem d_Pl_placeStatement_146 : decode b_Pl_placeStatement 146 = .ok (.aload_n 0, 1) := by decide +kernel
theorem d_Pl_placeStatement_147 : decode b_Pl_placeStatement 147 = .ok (.iconst 2, 1) := by decide +kernel
theorem d_Pl_placeStatement_148 : decode b_Pl_placeStatement 148 = .ok (.bipush 15, 2) := by decide +kernel
theorem d_Pl_placeStatement_150 : decode b_Pl_placeStatement 150 = .ok (.iload_n 3, 1) := by decide +kernel
theorem d_Pl_placeStatement_151 : decode b_Pl_placeStatement 151 = .ok (.invokevirtual 84, 3) := by decide +kernel
theorem d_Pl_placeStatement_154 : decode b_Pl_placeStatement 154 = .ok (.goto 35, 3) := by decide +kernel
theorem d_Pl_placeStatement_157 : decode b_Pl_placeStatement 157 = .ok (.aload_n 0, 1) := by decide +kernel
theorem d_Pl_placeStatement_158 : decode b_Pl_placeStatement 158 = .ok (.iconst 2, 1) := by decide +kernel
theorem d_Pl_placeStatement_159 : decode b_Pl_placeStatement 159 = .ok (.bipush 11, 2) := by decide +kernel
theorem d_Pl_placeStatement_161 : decode b_Pl_placeStatement 161 = .ok (.iload_n 3, 1) := by decide +kernel
theorem d_Pl_placeStatement_162 : decode b_Pl_placeStatement 162 = .ok (.invokevirtual 84, 3) := by decide +kernel
theorem d_Pl_placeStatement_165 : decode b_Pl_placeStatement 165 = .ok (.aload_n 0, 1) := by decide +kernel
theorem d_Pl_placeStatement_166 : decode b_Pl_placeStatement 166 = .ok (.iload_n 2, 1) := by decide +kernel
theorem d_Pl_placeStatement_167 : decode b_Pl_placeStatement 167 = .ok (.invokevirtual 91, 3) := by decide +kernel
theorem d_Pl_placeStatement_170 : decode b_Pl_placeStatement 170 = .ok (.goto 19, 3) := by decide +kernel
theorem d_Pl_placeStatement_173 : decode b_Pl_placeStatement 173 = .ok (.aload_n 0, 1) := by decide +kernel
theorem d_Pl_placeStatement_174 : decode b_Pl_placeStatement 174 = .ok (.bipush 13, 2) := by decide +kernel
theorem d_Pl_placeStatement_176 : decode b_Pl_placeStatement 176 = .ok (.iconst 2, 1) := by decide +kernel
theorem d_Pl_placeStatement_177 : decode b_Pl_placeStatement 177 = .ok (.iload 4, 2) := by decide +kernel
theorem d_Pl_placeStatement_179 : decode b_Pl_placeStatement 179 = .ok (.invokevirtual 84, 3) := by decide +kernel
theorem d_Pl_placeStatement_182 : decode b_Pl_placeStatement 182 = .ok (.goto 7, 3) := by decide +kernel
theorem d_Pl_placeStatement_185 : decode b_Pl_placeStatement 185 = .ok (.aload_n 0, 1) := by decide +kernel
theorem d_Pl_placeStatement_186 : decode b_Pl_placeStatement 186 = .ok (.invokevirtual 54, 3) := by decide +kernel
theorem d_Pl_placeStatement_189 : decode b_Pl_placeStatement 189 = .ok (.return_, 1) := by decide +kernel
theorem d_Pl_placeOrder_0 : decode b_Pl_placeOrder 0 = .ok (.aload_n 0, 1) := by decide +kernel
theorem d_Pl_placeOrder_1 : decode b_Pl_placeOrder 1 = .ok (.invokevirtual 42, 3) := by decide +kernel
theorem d_Pl_placeOrder_4 : decode b_Pl_placeOrder 4 = .ok (.istore 4, 2) := by decide +kernel
theorem d_Pl_placeOrder_6 : decode b_Pl_placeOrder 6 = .ok (.aload_n 0, 1) := by decide +kernel
theorem d_Pl_placeOrder_7 : decode b_Pl_placeOrder 7 = .ok (.getfield 57, 3) := by decide +kernel
theorem d_Pl_placeOrder_10 : decode b_Pl_placeOrder 10 = .ok (.ifCond .eq 8, 3) := by decide +kernel
theorem d_Pl_placeOrder_13 : decode b_Pl_placeOrder 13 = .ok (.iload 4, 2) := by decide +kernel
theorem d_Pl_placeOrder_15 : decode b_Pl_placeOrder 15 = .ok (.ifCond .ge 9, 3) := by decide +kernel
theorem d_Pl_placeOrder_18 : decode b_Pl_placeOrder 18 = .ok (.aload_n 0, 1) := by decide +kernel
theorem d_Pl_placeOrder_19 : decode b_Pl_placeOrder 19 = .ok (.iconst 0, 1) := by decide +kernel
theorem d_Pl_placeOrder_20 : decode b_Pl_placeOrder 20 = .ok (.putfield 57, 3) := by decide +kernel
theorem d_Pl_placeOrder_23 : decode b_Pl_placeOrder 23 = .ok (.return_, 1) := by decide +kernel
theorem d_Pl_placeOrder_24 : decode b_Pl_placeOrder 24 = .ok (.iload 4, 2) := by decide +kernel
theorem d_Pl_placeOrder_26 : decode b_Pl_placeOrder 26 = .ok (.iconst 2, 1) := by decide +kernel
theorem d_Pl_placeOrder_27 : decode b_Pl_placeOrder 27 = .ok (.iadd, 1) := by decide +kernel
theorem d_Pl_placeOrder_28 : decode b_Pl_placeOrder 28 = .ok (.bipush 31, 2) := by decide +kernel
theorem d_Pl_placeOrder_30 : decode b_Pl_placeOrder 30 = .ok (.iand, 1) := by decide +kernel
theorem d_Pl_placeOrder_31 : decode b_Pl_placeOrder 31 = .ok (.istore 5, 2) := by decide +kernel
theorem d_Pl_placeOrder_33 : decode b_Pl_placeOrder 33 = .ok (.iload_n 3, 1) := by decide +kernel
theorem d_Pl_placeOrder_34 : decode b_Pl_placeOrder 34 = .ok (.iconst (-1), 1) := by decide +kernel
theorem d_Pl_placeOrder_35 : decode b_Pl_placeOrder 35 = .ok (.if_icmp .ne 7, 3) := by decide +kernel
theorem d_Pl_placeOrder_38 : decode b_Pl_placeOrder 38 = .ok (.iconst 0, 1) := by decide +kernel
theorem d_Pl_placeOrder_39 : decode b_Pl_placeOrder 39 = .ok (.goto 16, 3) := by decide +kernel
theorem d_Pl_placeOrder_42 : decode b_Pl_placeOrder 42 = .ok (.aload_n 0, 1) := by decide +kernel
theorem d_Pl_placeOrder_43 : decode b_Pl_placeOrder 43 = .ok (.iload_n 3, 1) := by decide +kernel
theorem d_Pl_placeOrder_44 : decode b_Pl_placeOrder 44 = .ok (.iload 5, 2) := by decide +kernel
theorem d_Pl_placeOrder_46 : decode b_Pl_placeOrder 46 = .ok (.invokevirtual 95, 3) := by decide +kernel
theorem d_Pl_placeOrder_49 : decode b_Pl_placeOrder 49 = .ok (.iload 5, 2) := by decide +kernel
theorem d_Pl_placeOrder_51 : decode b_Pl_placeOrder 51 = .ok (.isub, 1) := by decide +kernel
theorem d_Pl_placeOrder_52 : decode b_Pl_placeOrder 52 = .ok (.bipush 31, 2) := by decide +kernel
theorem d_Pl_placeOrder_54 : decode b_Pl_placeOrder 54 = .ok (.iand, 1) := by decide +kernel
theorem d_Pl_placeOrder_55 : decode b_Pl_placeOrder 55 = .ok (.istore 6, 2) := by decide +kernel
theorem d_Pl_placeOrder_57 : decode b_Pl_placeOrder 57 = .ok (.aload_n 0, 1) := by decide +kernel
theorem d_Pl_placeOrder_58 : decode b_Pl_placeOrder 58 = .ok (.iload 4, 2) := by decide +kernel
theorem d_Pl_placeOrder_60 : decode b_Pl_placeOrder 60 = .ok (.iload_n 1, 1) := by decide +kernel
theorem d_Pl_placeOrder_61 : decode b_Pl_placeOrder 61 = .ok (.iload_n 2, 1) := by decide +kernel
theorem d_Pl_placeOrder_62 : decode b_Pl_placeOrder 62 = .ok (.iconst 4, 1) := by decide +kernel
theorem d_Pl_placeOrder_63 : decode b_Pl_placeOrder 63 = .ok (.ishl, 1) := by decide +kernel
theorem d_Pl_placeOrder_64 : decode b_Pl_placeOrder 64 = .ok (.ior, 1) := by decide +kernel
theorem d_Pl_placeOrder_65 : decode b_Pl_placeOrder 65 = .ok (.iload 6, 2) := by decide +kernel
theorem d_Pl_placeOrder_67 : decode b_Pl_placeOrder 67 = .ok (.bipush 10, 2) := by decide +kernel
theorem d_Pl_placeOrder_69 : decode b_Pl_placeOrder 69 = .ok (.ishl, 1) := by decide +kernel
theorem d_Pl_placeOrder_70 : decode b_Pl_placeOrder 70 = .ok (.ior, 1) := by decide +kernel
theorem d_Pl_placeOrder_71 : decode b_Pl_placeOrder 71 = .ok (.invokevirtual 99, 3) := by decide +kernel
theorem d_Pl_placeOrder_74 : decode b_Pl_placeOrder 74 = .ok (.aload_n 0, 1) := by decide +kernel
theorem d_Pl_placeOrder_75 : decode b_Pl_placeOrder 75 = .ok (.iload 5, 2) := by decide +kernel
theorem d_Pl_placeOrder_77 : decode b_Pl_placeOrder 77 = .ok (.iload 6, 2) := by decide +kernel
theorem d_Pl_placeOrder_79 : decode b_Pl_placeOrder 79 = .ok (.iadd, 1) := by decide +kernel
theorem d_Pl_placeOrder_80 : decode b_Pl_placeOrder 80 = .ok (.bipush 31, 2) := by decide +kernel
theorem d_Pl_placeOrder_82 : decode b_Pl_placeOrder 82 = .ok (.iand, 1) := by decide +kernel
theorem d_Pl_placeOrder_83 : decode b_Pl_placeOrder 83 = .ok (.putfield 68, 3) := by decide +kernel
theorem d_Pl_placeOrder_86 : decode b_Pl_placeOrder 86 = .ok (.return_, 1) := by decide +kernel
theorem d_Pl_placeStop_0 : decode b_Pl_placeStop 0 = .ok (.aload_n 0, 1) := by decide +kernel
theorem d_Pl_placeStop_1 : decode b_Pl_placeStop 1 = .ok (.iconst 0, 1) := by decide +kernel
theorem d_Pl_placeStop_2 : decode b_Pl_placeStop 2 = .ok (.iconst 1, 1) := by decide +kernel
theorem d_Pl_placeStop_3 : decode b_Pl_placeStop 3 = .ok (.iconst (-1), 1) := by decide +kernel
theorem d_Pl_placeStop_4 : decode b_Pl_placeStop 4 = .ok (.invokevirtual 84, 3) := by decide +kernel
theorem d_Pl_placeStop_7 : decode b_Pl_placeStop 7 = .ok (.aload_n 0, 1) := by decide +kernel
theorem d_Pl_placeStop_8 : decode b_Pl_placeStop 8 = .ok (.getfield 57, 3) := by decide +kernel
theorem d_Pl_placeStop_11 : decode b_Pl_placeStop 11 = .ok (.ifCond .eq 19, 3) := by decide +kernel
theorem d_Pl_placeStop_14 : decode b_Pl_placeStop 14 = .ok (.aload_n 0, 1) := by decide +kernel
theorem d_Pl_placeStop_15 : decode b_Pl_placeStop 15 = .ok (.getfield 9, 3) := by decide +kernel
theorem d_Pl_placeStop_18 : decode b_Pl_placeStop 18 = .ok (.aload_n 0, 1) := by decide +kernel
theorem d_Pl_placeStop_19 : decode b_Pl_placeStop 19 = .ok (.getfield 71, 3) := by decide +kernel
theorem d_Pl_placeStop_22 : decode b_Pl_placeStop 22 = .ok (.ldc 103, 2) := by decide +kernel
theorem d_Pl_placeStop_24 : decode b_Pl_placeStop 24 = .ok (.iastore, 1) := by decide +kernel
theorem d_Pl_placeStop_25 : decode b_Pl_placeStop 25 = .ok (.aload_n 0, 1) := by decide +kernel
theorem d_Pl_placeStop_26 : decode b_Pl_placeStop 26 = .ok (.iconst (-1), 1) := by decide +kernel
theorem d_Pl_placeStop_27 : decode b_Pl_placeStop 27 = .ok (.putfield 71, 3) := by decide +kernel
theorem d_Pl_placeStop_30 : decode b_Pl_placeStop 30 = .ok (.return_, 1) := by decide +kernel
theorem d_Pl_placeFork_0 : decode b_Pl_placeFork 0 = .ok (.aload_n 0, 1) := by decide +kernel
theorem d_Pl_placeFork_1 : decode b_Pl_placeFork 1 = .ok (.invokevirtual 104, 3) := by decide +kernel
theorem d_Pl_placeFork_4 : decode b_Pl_placeFork 4 = .ok (.istore_n 2, 1) := by decide +kernel
theorem d_Pl_placeFork_5 : decode b_Pl_placeFork 5 = .ok (.aload_n 0, 1) := by decide +kernel
theorem d_Pl_placeFork_6 : decode b_Pl_placeFork 6 = .ok (.getfield 57, 3) := by decide +kernel
theorem d_Pl_placeFork_9 : decode b_Pl_placeFork 9 = .ok (.ifCond .eq 7, 3) := by decide +kernel
theorem d_Pl_placeFork_12 : decode b_Pl_placeFork 12 = .ok (.iload_n 2, 1) := by decide +kernel
theorem d_Pl_placeFork_13 : decode b_Pl_placeFork 13 = .ok (.ifCond .ge 9, 3) := by decide +kernel
theorem d_Pl_placeFork_16 : decode b_Pl_placeFork 16 = .ok (.aload_n 0, 1) := by decide +kernel
theorem d_Pl_placeFork_17 : decode b_Pl_placeFork 17 = .ok (.iconst 0, 1) := by decide +kernel
theorem d_Pl_placeFork_18 : decode b_Pl_placeFork 18 = .ok (.putfield 57, 3) := by decide +kernel
theorem d_Pl_placeFork_21 : decode b_Pl_placeFork 21 = .ok (.return_, 1) := by decide +kernel
theorem d_Pl_placeFork_22 : decode b_Pl_placeFork 22 = .ok (.iload_n 2, 1) := by decide +kernel
theorem d_Pl_placeFork_23 : decode b_Pl_placeFork 23 = .ok (.bipush 32, 2) := by decide +kernel
theorem d_Pl_placeFork_25 : decode b_Pl_placeFork 25 = .ok (.iand, 1) := by decide +kernel
theorem d_Pl_placeFork_26 : decode b_Pl_placeFork 26 = .ok (.iload_n 2, 1) := by decide +kernel
theorem d_Pl_placeFork_27 : decode b_Pl_placeFork 27 = .ok (.iconst 1, 1) := by decide +kernel
theorem d_Pl_placeFork_28 : decode b_Pl_placeFork 28 = .ok (.iadd, 1) := by decide +kernel
theorem d_Pl_placeFork_29 : decode b_Pl_placeFork 29 = .ok (.bipush 31, 2) := by decide +kernel
theorem d_Pl_placeFork_31 : decode b_Pl_placeFork 31 = .ok (.iand, 1) := by decide +kernel
theorem d_Pl_placeFork_32 : decode b_Pl_placeFork 32 = .ok (.ior, 1) := by decide +kernel
theorem d_Pl_placeFork_33 : decode b_Pl_placeFork 33 = .ok (.istore_n 3, 1) := by decide +kernel
theorem d_Pl_placeFork_34 : decode b_Pl_placeFork 34 = .ok (.aload_n 0, 1) := by decide +kernel
theorem d_Pl_placeFork_35 : decode b_Pl_placeFork 35 = .ok (.iload_n 2, 1) := by decide +kernel
theorem d_Pl_placeFork_36 : decode b_Pl_placeFork 36 = .ok (.iconst 0, 1) := by decide +kernel
theorem d_Pl_placeFork_37 : decode b_Pl_placeFork 37 = .ok (.invokevirtual 99, 3) := by decide +kernel
theorem d_Pl_placeFork_40 : decode b_Pl_placeFork 40 = .ok (.aload_n 0, 1) := by decide +kernel
theorem d_Pl_placeFork_41 : decode b_Pl_placeFork 41 = .ok (.getfield 9, 3) := by decide +kernel
theorem d_Pl_placeFork_44 : decode b_Pl_placeFork 44 = .ok (.iload_n 3, 1) := by decide +kernel
theorem d_Pl_placeFork_45 : decode b_Pl_placeFork 45 = .ok (.iconst 0, 1) := by decide +kernel
theorem d_Pl_placeFork_46 : decode b_Pl_placeFork 46 = .ok (.iastore, 1) := by decide +kernel
theorem d_Pl_placeFork_47 : decode b_Pl_placeFork 47 = .ok (.aload_n 0, 1) := by decide +kernel
theorem d_Pl_placeFork_48 : decode b_Pl_placeFork 48 = .ok (.dup, 1) := by decide +kernel
theorem d_Pl_placeFork_49 : decode b_Pl_placeFork 49 = .ok (.getfield 74, 3) := by decide +kernel
theorem d_Pl_placeFork_52 : decode b_Pl_placeFork 52 = .ok (.iconst 1, 1) := by decide +kernel
theorem d_Pl_placeFork_53 : decode b_Pl_placeFork 53 = .ok (.iadd, 1) := by decide +kernel
theorem d_Pl_placeFork_54 : decode b_Pl_placeFork 54 = .ok (.putfield 74, 3) := by decide +kernel
theorem d_Pl_placeFork_57 : decode b_Pl_placeFork 57 = .ok (.aload_n 0, 1) := by decide +kernel
theorem d_Pl_placeFork_58 : decode b_Pl_placeFork 58 = .ok (.getfield 24, 3) := by decide +kernel
theorem d_Pl_placeFork_61 : decode b_Pl_placeFork 61 = .ok (.iload_n 1, 1) := by decide +kernel
theorem d_Pl_placeFork_62 : decode b_Pl_placeFork 62 = .ok (.iload_n 3, 1) := by decide +kernel
theorem d_Pl_placeFork_63 : decode b_Pl_placeFork 63 = .ok (.iastore, 1) := by decide +kernel
theorem d_Pl_placeFork_64 : decode b_Pl_placeFork 64 = .ok (.aload_n 0, 1) := by decide +kernel
theorem d_Pl_placeFork_65 : decode b_Pl_placeFork 65 = .ok (.iload_n 2, 1) := by decide +kernel
theorem d_Pl_placeFork_66 : decode b_Pl_placeFork 66 = .ok (.iconst 2, 1) := by decide +kernel
theorem d_Pl_placeFork_67 : decode b_Pl_placeFork 67 = .ok (.iadd, 1) := by decide +kernel
theorem d_Pl_placeFork_68 : decode b_Pl_placeFork 68 = .ok (.bipush 31, 2) := by decide +kernel
theorem d_Pl_placeFork_70 : decode b_Pl_placeFork 70 = .ok (.iand, 1) := by decide +kernel
theorem d_Pl_placeFork_71 : decode b_Pl_placeFork 71 = .ok (.putfield 68, 3) := by decide +kernel
theorem d_Pl_placeFork_74 : decode b_Pl_placeFork 74 = .ok (.return_, 1) := by decide +kernel
theorem d_Pl_occupy_0 : decode b_Pl_occupy 0 = .ok (.aload_n 0, 1) := by decide +kernel
theorem d_Pl_occupy_1 : decode b_Pl_occupy 1 = .ok (.getfield 71, 3) := by decide +kernel
theorem d_Pl_occupy_4 : decode b_Pl_occupy 4 = .ok (.ifCond .lt 12, 3) := by decide +kernel
theorem d_Pl_occupy_7 : decode b_Pl_occupy 7 = .ok (.aload_n 0, 1) := by decide +kernel
theorem d_Pl_occupy_8 : decode b_Pl_occupy 8 = .ok (.aload_n 0, 1) := by decide +kernel
theorem d_Pl_occupy_9 : decode b_Pl_occupy 9 = .ok (.getfield 71, 3) := by decide +kernel
theorem d_Pl_occupy_12 : decode b_Pl_occupy 12 = .ok (.iload_n 1, 1) := by decide +kernel
theorem d_Pl_occupy_13 : decode b_Pl_occupy 13 = .ok (.invokevirtual 107, 3) := by decide +kernel
theorem d_Pl_occupy_16 : decode b_Pl_occupy 16 = .ok (.aload_n 0, 1) := by decide +kernel
theorem d_Pl_occupy_17 : decode b_Pl_occupy 17 = .ok (.getfield 9, 3) := by decide +kernel
theorem d_Pl_occupy_20 : decode b_Pl_occupy 20 = .ok (.iload_n 1, 1) := by decide +kernel
theorem d_Pl_occupy_21 : decode b_Pl_occupy 21 = .ok (.iload_n 2, 1) := by decide +kernel
theorem d_Pl_occupy_22 : decode b_Pl_occupy 22 = .ok (.iastore, 1) := by decide +kernel
theorem d_Pl_occupy_23 : decode b_Pl_occupy 23 = .ok (.aload_n 0, 1) := by decide +kernel
theorem d_Pl_occupy_24 : decode b_Pl_occupy 24 = .ok (.iload_n 1, 1) := by decide +kernel
theorem d_Pl_occupy_25 : decode b_Pl_occupy 25 = .ok (.putfield 71, 3) := by decide +kernel
theorem d_Pl_occupy_28 : decode b_Pl_occupy 28 = .ok (.aload_n 0, 1) := by decide +kernel
theorem d_Pl_occupy_29 : decode b_Pl_occupy 29 = .ok (.dup, 1) := by decide +kernel
theorem d_Pl_occupy_30 : decode b_Pl_occupy 30 = .ok (.getfield 74, 3) := by decide +kernel
theorem d_Pl_occupy_33 : decode b_Pl_occupy 33 = .ok (.iconst 1, 1) := by decide +kernel
theorem d_Pl_occupy_34 : decode b_Pl_occupy 34 = .ok (.iadd, 1) := by decide +kernel
theorem d_Pl_occupy_35 : decode b_Pl_occupy 35 = .ok (.putfield 74, 3) := by decide +kernel
theorem d_Pl_occupy_38 : decode b_Pl_occupy 38 = .ok (.return_, 1) := by decide +kernel
theorem d_Pl_lead_0 : decode b_Pl_lead 0 = .ok (.iload_n 2, 1) := by decide +kernel
theorem d_Pl_lead_1 : decode b_Pl_lead 1 = .ok (.iload_n 1, 1) := by decide +kernel
theorem d_Pl_lead_2 : decode b_Pl_lead 2 = .ok (.isub, 1) := by decide +kernel
theorem d_Pl_lead_3 : decode b_Pl_lead 3 = .ok (.iconst 2, 1) := by decide +kernel
theorem d_Pl_lead_4 : decode b_Pl_lead 4 = .ok (.isub, 1) := by decide +kernel
theorem d_Pl_lead_5 : decode b_Pl_lead 5 = .ok (.bipush 31, 2) := by decide +kernel
theorem d_Pl_lead_7 : decode b_Pl_lead 7 = .ok (.iand, 1) := by decide +kernel
theorem d_Pl_lead_8 : decode b_Pl_lead 8 = .ok (.istore_n 3, 1) := by decide +kernel
theorem d_Pl_lead_9 : decode b_Pl_lead 9 = .ok (.aload_n 0, 1) := by decide +kernel
theorem d_Pl_lead_10 : decode b_Pl_lead 10 = .ok (.getfield 9, 3) := by decide +kernel
theorem d_Pl_lead_13 : decode b_Pl_lead 13 = .ok (.iload_n 1, 1) := by decide +kernel
theorem d_Pl_lead_14 : decode b_Pl_lead 14 = .ok (.dup2, 1) := by decide +kernel
theorem d_Pl_lead_15 : decode b_Pl_lead 15 = .ok (.iaload, 1) := by decide +kernel
theorem d_Pl_lead_16 : decode b_Pl_lead 16 = .ok (.iload_n 3, 1) := by decide +kernel
theorem d_Pl_lead_17 : decode b_Pl_lead 17 = .ok (.bipush 15, 2) := by decide +kernel
theorem d_Pl_lead_19 : decode b_Pl_lead 19 = .ok (.ishl, 1) := by decide +kernel
theorem d_Pl_lead_20 : decode b_Pl_lead 20 = .ok (.iload_n 2, 1) := by decide +kernel
theorem d_Pl_lead_21 : decode b_Pl_lead 21 = .ok (.bipush 32, 2) := by decide +kernel
theorem d_Pl_lead_23 : decode b_Pl_lead 23 = .ok (.idiv, 1) := by decide +kernel
theorem d_Pl_lead_24 : decode b_Pl_lead 24 = .ok (.bipush 20, 2) := by decide +kernel
theorem d_Pl_lead_26 : decode b_Pl_lead 26 = .ok (.ishl, 1) := by decide +kernel
theorem d_Pl_lead_27 : decode b_Pl_lead 27 = .ok (.ior, 1) := by decide +kernel
theorem d_Pl_lead_28 : decode b_Pl_lead 28 = .ok (.ior, 1) := by decide +kernel
theorem d_Pl_lead_29 : decode b_Pl_lead 29 = .ok (.iastore, 1) := by decide +kernel
theorem d_Pl_lead_30 : decode b_Pl_lead 30 = .ok (.return_, 1) := by decide +kernel
theorem d_Pl_freeSpot_0 : decode b_Pl_freeSpot 0 = .ok (.iconst 0, 1) := by decide +kernel
theorem d_Pl_freeSpot_1 : decode b_Pl_freeSpot 1 = .ok (.istore_n 1, 1) := by decide +kernel
theorem d_Pl_freeSpot_2 : decode b_Pl_freeSpot 2 = .ok (.iload_n 1, 1) := by decide +kernel
theorem d_Pl_freeSpot_3 : decode b_Pl_freeSpot 3 = .ok (.bipush 32, 2) := by decide +kernel
theorem d_Pl_freeSpot_5 : decode b_Pl_freeSpot 5 = .ok (.if_icmp .ge 48, 3) := by decide +kernel
theorem d_Pl_freeSpot_8 : decode b_Pl_freeSpot 8 = .ok (.aload_n 0, 1) := by decide +kernel
theorem d_Pl_freeSpot_9 : decode b_Pl_freeSpot 9 = .ok (.getfield 68, 3) := by decide +kernel
theorem d_Pl_freeSpot_12 : decode b_Pl_freeSpot 12 = .ok (.iload_n 1, 1) := by decide +kernel
theorem d_Pl_freeSpot_13 : decode b_Pl_freeSpot 13 = .ok (.iadd, 1) := by decide +kernel
theorem d_Pl_freeSpot_14 : decode b_Pl_freeSpot 14 = .ok (.bipush 31, 2) := by decide +kernel
theorem d_Pl_freeSpot_16 : decode b_Pl_freeSpot 16 = .ok (.iand, 1) := by decide +kernel
theorem d_Pl_freeSpot_17 : decode b_Pl_freeSpot 17 = .ok (.istore_n 2, 1) := by decide +kernel
theorem d_Pl_freeSpot_18 : decode b_Pl_freeSpot 18 = .ok (.iconst 0, 1) := by decide +kernel
theorem d_Pl_freeSpot_19 : decode b_Pl_freeSpot 19 = .ok (.istore_n 3, 1) := by decide +kernel
theorem d_Pl_freeSpot_20 : decode b_Pl_freeSpot 20 = .ok (.iload_n 3, 1) := by decide +kernel
theorem d_Pl_freeSpot_21 : decode b_Pl_freeSpot 21 = .ok (.iconst 2, 1) := by decide +kernel
theorem d_Pl_freeSpot_22 : decode b_Pl_freeSpot 22 = .ok (.if_icmp .ge 25, 3) := by decide +kernel
theorem d_Pl_freeSpot_25 : decode b_Pl_freeSpot 25 = .ok (.aload_n 0, 1) := by decide +kernel
theorem d_Pl_freeSpot_26 : decode b_Pl_freeSpot 26 = .ok (.iload_n 3, 1) := by decide +kernel
theorem d_Pl_freeSpot_27 : decode b_Pl_freeSpot 27 = .ok (.iload_n 2, 1) := by decide +kernel
theorem d_Pl_freeSpot_28 : decode b_Pl_freeSpot 28 = .ok (.invokevirtual 110, 3) := by decide +kernel
theorem d_Pl_freeSpot_31 : decode b_Pl_freeSpot 31 = .ok (.ifCond .eq 10, 3) := by decide +kernel
theorem d_Pl_freeSpot_34 : decode b_Pl_freeSpot 34 = .ok (.iload_n 3, 1) := by decide +kernel
theorem d_Pl_freeSpot_35 : decode b_Pl_freeSpot 35 = .ok (.bipush 32, 2) := by decide +kernel
theorem d_Pl_freeSpot_37 : decode b_Pl_freeSpot 37 = .ok (.imul, 1) := by decide +kernel
theorem d_Pl_freeSpot_38 : decode b_Pl_freeSpot 38 = .ok (.iload_n 2, 1) := by decide +kernel
theorem d_Pl_freeSpot_39 : decode b_Pl_freeSpot 39 = .ok (.iadd, 1) := by decide +kernel
theorem d_Pl_freeSpot_40 : decode b_Pl_freeSpot 40 = .ok (.ireturn, 1) := by decide +kernel
theorem d_Pl_freeSpot_41 : decode b_Pl_freeSpot 41 = .ok (.iinc 3 1, 3) := by decide +kernel
theorem d_Pl_freeSpot_44 : decode b_Pl_freeSpot 44 = .ok (.goto (-24), 3) := by decide +kernel
theorem d_Pl_freeSpot_47 : decode b_Pl_freeSpot 47 = .ok (.iinc 1 1, 3) := by decide +kernel
theorem d_Pl_freeSpot_50 : decode b_Pl_freeSpot 50 = .ok (.goto (-48), 3) := by decide +kernel
theorem d_Pl_freeSpot_53 : decode b_Pl_freeSpot 53 = .ok (.iconst (-1), 1) := by decide +kernel
theorem d_Pl_freeSpot_54 : decode b_Pl_freeSpot 54 = .ok (.ireturn, 1) := by decide +kernel
theorem d_Pl_forkSpot_0 : decode b_Pl_forkSpot 0 = .ok (.iconst 1, 1) := by decide +kernel
theorem d_Pl_forkSpot_1 : decode b_Pl_forkSpot 1 = .ok (.istore_n 1, 1) := by decide +kernel
theorem d_Pl_forkSpot_2 : decode b_Pl_forkSpot 2 = .ok (.iload_n 1, 1) := by decide +kernel
theorem d_Pl_forkSpot_3 : decode b_Pl_forkSpot 3 = .ok (.bipush 32, 2) := by decide +kernel
theorem d_Pl_forkSpot_5 : decode b_Pl_forkSpot 5 = .ok (.if_icmp .ge 62, 3) := by decide +kernel
theorem d_Pl_forkSpot_8 : decode b_Pl_forkSpot 8 = .ok (.aload_n 0, 1) := by decide +kernel
theorem d_Pl_forkSpot_9 : decode b_Pl_forkSpot 9 = .ok (.getfield 68, 3) := by decide +kernel
theorem d_Pl_forkSpot_12 : decode b_Pl_forkSpot 12 = .ok (.iload_n 1, 1) := by decide +kernel
theorem d_Pl_forkSpot_13 : decode b_Pl_forkSpot 13 = .ok (.iadd, 1) := by decide +kernel
theorem d_Pl_forkSpot_14 : decode b_Pl_forkSpot 14 = .ok (.bipush 31, 2) := by decide +kernel
theorem d_Pl_forkSpot_16 : decode b_Pl_forkSpot 16 = .ok (.iand, 1) := by decide +kernel
theorem d_Pl_forkSpot_17 : decode b_Pl_forkSpot 17 = .ok (.istore_n 2, 1) := by decide +kernel
theorem d_Pl_forkSpot_18 : decode b_Pl_forkSpot 18 = .ok (.iconst 0, 1) := by decide +kernel
theorem d_Pl_forkSpot_19 : decode b_Pl_forkSpot 19 = .ok (.istore_n 3, 1) := by decide +kernel
theorem d_Pl_forkSpot_20 : decode b_Pl_forkSpot 20 = .ok (.iload_n 3, 1) := by decide +kernel
theorem d_Pl_forkSpot_21 : decode b_Pl_forkSpot 21 = .ok (.iconst 2, 1) := by decide +kernel
theorem d_Pl_forkSpot_22 : decode b_Pl_forkSpot 22 = .ok (.if_icmp .ge 39, 3) := by decide +kernel
theorem d_Pl_forkSpot_25 : decode b_Pl_forkSpot 25 = .ok (.aload_n 0, 1) := by decide +kernel
theorem d_Pl_forkSpot_26 : decode b_Pl_forkSpot 26 = .ok (.iload_n 3, 1) := by decide +kernel
theorem d_Pl_forkSpot_27 : decode b_Pl_forkSpot 27 = .ok (.iload_n 2, 1) := by decide +kernel
theorem d_Pl_forkSpot_28 : decode b_Pl_forkSpot 28 = .ok (.invokevirtual 110, 3) := by decide +kernel
theorem d_Pl_forkSpot_31 : decode b_Pl_forkSpot 31 = .ok (.ifCond .eq 24, 3) := by decide +kernel
theorem d_Pl_forkSpot_34 : decode b_Pl_forkSpot 34 = .ok (.aload_n 0, 1) := by decide +kernel
theorem d_Pl_forkSpot_35 : decode b_Pl_forkSpot 35 = .ok (.iload_n 3, 1) := by decide +kernel
theorem d_Pl_forkSpot_36 : decode b_Pl_forkSpot 36 = .ok (.iload_n 2, 1) := by decide +kernel
theorem d_Pl_forkSpot_37 : decode b_Pl_forkSpot 37 = .ok (.iconst 1, 1) := by decide +kernel
theorem d_Pl_forkSpot_38 : decode b_Pl_forkSpot 38 = .ok (.iadd, 1) := by decide +kernel
theorem d_Pl_forkSpot_39 : decode b_Pl_forkSpot 39 = .ok (.bipush 31, 2) := by decide +kernel
theorem d_Pl_forkSpot_41 : decode b_Pl_forkSpot 41 = .ok (.iand, 1) := by decide +kernel
theorem d_Pl_forkSpot_42 : decode b_Pl_forkSpot 42 = .ok (.invokevirtual 110, 3) := by decide +kernel
theorem d_Pl_forkSpot_45 : decode b_Pl_forkSpot 45 = .ok (.ifCond .eq 10, 3) := by decide +kernel
theorem d_Pl_forkSpot_48 : decode b_Pl_forkSpot 48 = .ok (.iload_n 3, 1) := by decide +kernel
theorem d_Pl_forkSpot_49 : decode b_Pl_forkSpot 49 = .ok (.bipush 32, 2) := by decide +kernel
theorem d_Pl_forkSpot_51 : decode b_Pl_forkSpot 51 = .ok (.imul, 1) := by decide +kernel
theorem d_Pl_forkSpot_52 : decode b_Pl_forkSpot 52 = .ok (.iload_n 2, 1) := by decide +kernel
theorem d_Pl_forkSpot_53 : decode b_Pl_forkSpot 53 = .ok (.iadd, 1) := by decide +kernel
theorem d_Pl_forkSpot_54 : decode b_Pl_forkSpot 54 = .ok (.ireturn, 1) := by decide +kernel
theorem d_Pl_forkSpot_55 : decode b_Pl_forkSpot 55 = .ok (.iinc 3 1, 3) := by decide +kernel
theorem d_Pl_forkSpot_58 : decode b_Pl_forkSpot 58 = .ok (.goto (-38), 3) := by decide +kernel
theorem d_Pl_forkSpot_61 : decode b_Pl_forkSpot 61 = .ok (.iinc 1 1, 3) := by decide +kernel
theorem d_Pl_forkSpot_64 : decode b_Pl_forkSpot 64 = .ok (.goto (-62), 3) := by decide +kernel
theorem d_Pl_forkSpot_67 : decode b_Pl_forkSpot 67 = .ok (.iconst (-1), 1) := by decide +kernel
theorem d_Pl_forkSpot_68 : decode b_Pl_forkSpot 68 = .ok (.ireturn, 1) := by decide +kernel
theorem d_Pl_isFree_0 : decode b_Pl_isFree 0 = .ok (.aload_n 0, 1) := by decide +kernel
theorem d_Pl_isFree_1 : decode b_Pl_isFree 1 = .ok (.getfield 9, 3) := by decide +kernel
theorem d_Pl_isFree_4 : decode b_Pl_isFree 4 = .ok (.iload_n 1, 1) := by decide +kernel
theorem d_Pl_isFree_5 : decode b_Pl_isFree 5 = .ok (.bipush 32, 2) := by decide +kernel
theorem d_Pl_isFree_7 : decode b_Pl_isFree 7 = .ok (.imul, 1) := by decide +kernel
theorem d_Pl_isFree_8 : decode b_Pl_isFree 8 = .ok (.iload_n 2, 1) := by decide +kernel
theorem d_Pl_isFree_9 : decode b_Pl_isFree 9 = .ok (.iadd, 1) := by decide +kernel
theorem d_Pl_isFree_10 : decode b_Pl_isFree 10 = .ok (.iaload, 1) := by decide +kernel
theorem d_Pl_isFree_11 : decode b_Pl_isFree 11 = .ok (.iconst (-1), 1) := by decide +kernel
theorem d_Pl_isFree_12 : decode b_Pl_isFree 12 = .ok (.if_icmp .ne 7, 3) := by decide +kernel
theorem d_Pl_isFree_15 : decode b_Pl_isFree 15 = .ok (.iconst 1, 1) := by decide +kernel
theorem d_Pl_isFree_16 : decode b_Pl_isFree 16 = .ok (.goto 4, 3) := by decide +kernel
theorem d_Pl_isFree_19 : decode b_Pl_isFree 19 = .ok (.iconst 0, 1) := by decide +kernel
theorem d_Pl_isFree_20 : decode b_Pl_isFree 20 = .ok (.ireturn, 1) := by decide +kernel
theorem d_Pl_variablePlace_0 : decode b_Pl_variablePlace 0 = .ok (.iconst 0, 1) := by decide +kernel
theorem d_Pl_variablePlace_1 : decode b_Pl_variablePlace 1 = .ok (.istore_n 3, 1) := by decide +kernel
theorem d_Pl_variablePlace_2 : decode b_Pl_variablePlace 2 = .ok (.iload_n 3, 1) := by decide +kernel
theorem d_Pl_variablePlace_3 : decode b_Pl_variablePlace 3 = .ok (.bipush 32, 2) := by decide +kernel
theorem d_Pl_variablePlace_5 : decode b_Pl_variablePlace 5 = .ok (.if_icmp .ge 54, 3) := by decide +kernel
theorem d_Pl_variablePlace_8 : decode b_Pl_variablePlace 8 = .ok (.aload_n 0, 1) := by decide +kernel
theorem d_Pl_variablePlace_9 : decode b_Pl_variablePlace 9 = .ok (.getfield 18, 3) := by decide +kernel
theorem d_Pl_variablePlace_12 : decode b_Pl_variablePlace 12 = .ok (.iload_n 1, 1) := by decide +kernel
theorem d_Pl_variablePlace_13 : decode b_Pl_variablePlace 13 = .ok (.iaload, 1) := by decide +kernel
theorem d_Pl_variablePlace_14 : decode b_Pl_variablePlace 14 = .ok (.iconst (-1), 1) := by decide +kernel
theorem d_Pl_variablePlace_15 : decode b_Pl_variablePlace 15 = .ok (.if_icmp .ne 44, 3) := by decide +kernel
theorem d_Pl_variablePlace_18 : decode b_Pl_variablePlace 18 = .ok (.iload_n 2, 1) := by decide +kernel
theorem d_Pl_variablePlace_19 : decode b_Pl_variablePlace 19 = .ok (.iload_n 3, 1) := by decide +kernel
theorem d_Pl_variablePlace_20 : decode b_Pl_variablePlace 20 = .ok (.iadd, 1) := by decide +kernel
theorem d_Pl_variablePlace_21 : decode b_Pl_variablePlace 21 = .ok (.bipush 31, 2) := by decide +kernel
theorem d_Pl_variablePlace_23 : decode b_Pl_variablePlace 23 = .ok (.iand, 1) := by decide +kernel
theorem d_Pl_variablePlace_24 : decode b_Pl_variablePlace 24 = .ok (.istore 4, 2) := by decide +kernel
theorem d_Pl_variablePlace_26 : decode b_Pl_variablePlace 26 = .ok (.aload_n 0, 1) := by decide +kernel
theorem d_Pl_variablePlace_27 : decode b_Pl_variablePlace 27 = .ok (.getfield 15, 3) := by decide +kernel
theorem d_Pl_variablePlace_30 : decode b_Pl_variablePlace 30 = .ok (.iload 4, 2) := by decide +kernel
theorem d_Pl_variablePlace_32 : decode b_Pl_variablePlace 32 = .ok (.iaload, 1) := by decide +kernel
theorem d_Pl_variablePlace_33 : decode b_Pl_variablePlace 33 = .ok (.iconst (-1), 1) := by decide +kernel
theorem d_Pl_variablePlace_34 : decode b_Pl_variablePlace 34 = .ok (.if_icmp .ne 19, 3) := by decide +kernel
theorem d_Pl_variablePlace_37 : decode b_Pl_variablePlace 37 = .ok (.aload_n 0, 1) := by decide +kernel
theorem d_Pl_variablePlace_38 : decode b_Pl_variablePlace 38 = .ok (.getfield 15, 3) := by decide +kernel
theorem d_Pl_variablePlace_41 : decode b_Pl_variablePlace 41 = .ok (.iload 4, 2) := by decide +kernel
theorem d_Pl_variablePlace_43 : decode b_Pl_variablePlace 43 = .ok (.iload_n 1, 1) := by decide +kernel
theorem d_Pl_variablePlace_44 : decode b_Pl_variablePlace 44 = .ok (.iastore, 1) := by decide +kernel
theorem d_Pl_variablePlace_45 : decode b_Pl_variablePlace 45 = .ok (.aload_n 0, 1) := by decide +kernel
theorem d_Pl_variablePlace_46 : decode b_Pl_variablePlace 46 = .ok (.getfield 18, 3) := by decide +kernel
theorem d_Pl_variablePlace_49 : decode b_Pl_variablePlace 49 = .ok (.iload_n 1, 1) := by decide +kernel
theorem d_Pl_variablePlace_50 : decode b_Pl_variablePlace 50 = .ok (.iload 4, 2) := by decide +kernel
theorem d_Pl_variablePlace_52 : decode b_Pl_variablePlace 52 = .ok (.iastore, 1) := by decide +kernel
theorem d_Pl_variablePlace_53 : decode b_Pl_variablePlace 53 = .ok (.iinc 3 1, 3) := by decide +kernel
theorem d_Pl_variablePlace_56 : decode b_Pl_variablePlace 56 = .ok (.goto (-54), 3) := by decide +kernel
theorem d_Pl_variablePlace_59 : decode b_Pl_variablePlace 59 = .ok (.aload_n 0, 1) := by decide +kernel
theorem d_Pl_variablePlace_60 : decode b_Pl_variablePlace 60 = .ok (.getfield 18, 3) := by decide +kernel
theorem d_Pl_variablePlace_63 : decode b_Pl_variablePlace 63 = .ok (.iload_n 1, 1) := by decide +kernel
theorem d_Pl_variablePlace_64 : decode b_Pl_variablePlace 64 = .ok (.iaload, 1) := by decide +kernel
theorem d_Pl_variablePlace_65 : decode b_Pl_variablePlace 65 = .ok (.ireturn, 1) := by decide +kernel
theorem d_Pl_leadBranches_0 : decode b_Pl_leadBranches 0 = .ok (.iconst 0, 1) := by decide +kernel
theorem d_Pl_leadBranches_1 : decode b_Pl_leadBranches 1 = .ok (.istore_n 2, 1) := by decide +kernel
theorem d_Pl_leadBranches_2 : decode b_Pl_leadBranches 2 = .ok (.iload_n 2, 1) := by decide +kernel
theorem d_Pl_leadBranches_3 : decode b_Pl_leadBranches 3 = .ok (.aload_n 1, 1) := by decide +kernel
theorem d_Pl_leadBranches_4 : decode b_Pl_leadBranches 4 = .ok (.getfield 36, 3) := by decide +kernel
theorem d_Pl_leadBranches_7 : decode b_Pl_leadBranches 7 = .ok (.if_icmp .ge 40, 3) := by decide +kernel
theorem d_Pl_leadBranches_10 : decode b_Pl_leadBranches 10 = .ok (.aload_n 0, 1) := by decide +kernel
theorem d_Pl_leadBranches_11 : decode b_Pl_leadBranches 11 = .ok (.getfield 24, 3) := by decide +kernel
theorem d_Pl_leadBranches_14 : decode b_Pl_leadBranches 14 = .ok (.iload_n 2, 1) := by decide +kernel
theorem d_Pl_leadBranches_15 : decode b_Pl_leadBranches 15 = .ok (.iaload, 1) := by decide +kernel
theorem d_Pl_leadBranches_16 : decode b_Pl_leadBranches 16 = .ok (.iconst (-1), 1) := by decide +kernel
theorem d_Pl_leadBranches_17 : decode b_Pl_leadBranches 17 = .ok (.if_icmp .eq 24, 3) := by decide +kernel
theorem d_Pl_leadBranches_20 : decode b_Pl_leadBranches 20 = .ok (.aload_n 0, 1) := by decide +kernel
theorem d_Pl_leadBranches_21 : decode b_Pl_leadBranches 21 = .ok (.aload_n 0, 1) := by decide +kernel
theorem d_Pl_leadBranches_22 : decode b_Pl_leadBranches 22 = .ok (.getfield 24, 3) := by decide +kernel
theorem d_Pl_leadBranches_25 : decode b_Pl_leadBranches 25 = .ok (.iload_n 2, 1) := by decide +kernel
theorem d_Pl_leadBranches_26 : decode b_Pl_leadBranches 26 = .ok (.iaload, 1) := by decide +kernel
theorem d_Pl_leadBranches_27 : decode b_Pl_leadBranches 27 = .ok (.aload_n 0, 1) := by decide +kernel
theorem d_Pl_leadBranches_28 : decode b_Pl_leadBranches 28 = .ok (.getfield 21, 3) := by decide +kernel
theorem d_Pl_leadBranches_31 : decode b_Pl_leadBranches 31 = .ok (.aload_n 1, 1) := by decide +kernel
theorem d_Pl_leadBranches_32 : decode b_Pl_leadBranches 32 = .ok (.getfield 114, 3) := by decide +kernel
theorem d_Pl_leadBranches_35 : decode b_Pl_leadBranches 35 = .ok (.iload_n 2, 1) := by decide +kernel
theorem d_Pl_leadBranches_36 : decode b_Pl_leadBranches 36 = .ok (.iaload, 1) := by decide +kernel
theorem d_Pl_leadBranches_37 : decode b_Pl_leadBranches 37 = .ok (.iaload, 1) := by decide +kernel
theorem d_Pl_leadBranches_38 : decode b_Pl_leadBranches 38 = .ok (.invokevirtual 107, 3) := by decide +kernel
theorem d_Pl_leadBranches_41 : decode b_Pl_leadBranches 41 = .ok (.iinc 2 1, 3) := by decide +kernel
theorem d_Pl_leadBranches_44 : decode b_Pl_leadBranches 44 = .ok (.goto (-42), 3) := by decide +kernel
theorem d_Pl_leadBranches_47 : decode b_Pl_leadBranches 47 = .ok (.return_, 1) := by decide +kernel
theorem d_Pl_fillWithStops_0 : decode b_Pl_fillWithStops 0 = .ok (.iconst 0, 1) := by decide +kernel
theorem d_Pl_fillWithStops_1 : decode b_Pl_fillWithStops 1 = .ok (.istore_n 1, 1) := by decide +kernel
theorem d_Pl_fillWithStops_2 : decode b_Pl_fillWithStops 2 = .ok (.iload_n 1, 1) := by decide +kernel
theorem d_Pl_fillWithStops_3 : decode b_Pl_fillWithStops 3 = .ok (.bipush 64, 2) := by decide +kernel
theorem d_Pl_fillWithStops_5 : decode b_Pl_fillWithStops 5 = .ok (.if_icmp .ge 27, 3) := by decide +kernel
theorem d_Pl_fillWithStops_8 : decode b_Pl_fillWithStops 8 = .ok (.aload_n 0, 1) := by decide +kernel
theorem d_Pl_fillWithStops_9 : decode b_Pl_fillWithStops 9 = .ok (.getfield 9, 3) := by decide +kernel
theorem d_Pl_fillWithStops_12 : decode b_Pl_fillWithStops 12 = .ok (.iload_n 1, 1) := by decide +kernel
theorem d_Pl_fillWithStops_13 : decode b_Pl_fillWithStops 13 = .ok (.iaload, 1) := by decide +kernel
theorem d_Pl_fillWithStops_14 : decode b_Pl_fillWithStops 14 = .ok (.iconst (-1), 1) := by decide +kernel
theorem d_Pl_fillWithStops_15 : decode b_Pl_fillWithStops 15 = .ok (.if_icmp .ne 11, 3) := by decide +kernel
theorem d_Pl_fillWithStops_18 : decode b_Pl_fillWithStops 18 = .ok (.aload_n 0, 1) := by decide +kernel
theorem d_Pl_fillWithStops_19 : decode b_Pl_fillWithStops 19 = .ok (.getfield 9, 3) := by decide +kernel
theorem d_Pl_fillWithStops_22 : decode b_Pl_fillWithStops 22 = .ok (.iload_n 1, 1) := by decide +kernel
theorem d_Pl_fillWithStops_23 : decode b_Pl_fillWithStops 23 = .ok (.ldc 103, 2) := by decide +kernel
theorem d_Pl_fillWithStops_25 : decode b_Pl_fillWithStops 25 = .ok (.iastore, 1) := by decide +kernel
theorem d_Pl_fillWithStops_26 : decode b_Pl_fillWithStops 26 = .ok (.iinc 1 1, 3) := by decide +kernel
theorem d_Pl_fillWithStops_29 : decode b_Pl_fillWithStops 29 = .ok (.goto (-27), 3) := by decide +kernel
theorem d_Pl_fillWithStops_32 : decode b_Pl_fillWithStops 32 = .ok (.return_, 1) := by decide +kernel
theorem d_Pr_init_0 : decode b_Pr_init 0 = .ok (.aload_n 0, 1) := by decide +kernel
theorem d_Pr_init_1 : decode b_Pr_init 1 = .ok (.invokespecial 3, 3) := by decide +kernel
theorem d_Pr_init_4 : decode b_Pr_init 4 = .ok (.aload_n 0, 1) := by decide +kernel
theorem d_Pr_init_5 : decode b_Pr_init 5 = .ok (.bipush 12, 2) := by decide +kernel
theorem d_Pr_init_7 : decode b_Pr_init 7 = .ok (.newarray .int, 2) := by decide +kernel
theorem d_Pr_init_9 : decode b_Pr_init 9 = .ok (.putfield 9, 3) := by decide +kernel
theorem d_Pr_init_12 : decode b_Pr_init 12 = .ok (.aload_n 0, 1) := by decide +kernel
theorem d_Pr_init_13 : decode b_Pr_init 13 = .ok (.bipush 12, 2) := by decide +kernel
theorem d_Pr_init_15 : decode b_Pr_init 15 = .ok (.newarray .int, 2) := by decide +kernel
theorem d_Pr_init_17 : decode b_Pr_init 17 = .ok (.putfield 15, 3) := by decide +kernel
theorem d_Pr_init_20 : decode b_Pr_init 20 = .ok (.aload_n 0, 1) := by decide +kernel
theorem d_Pr_init_21 : decode b_Pr_init 21 = .ok (.bipush 12, 2) := by decide +kernel
theorem d_Pr_init_23 : decode b_Pr_init 23 = .ok (.newarray .int, 2) := by decide +kernel
theorem d_Pr_init_25 : decode b_Pr_init 25 = .ok (.putfield 18, 3) := by decide +kernel
theorem d_Pr_init_28 : decode b_Pr_init 28 = .ok (.aload_n 0, 1) := by decide +kernel
theorem d_Pr_init_29 : decode b_Pr_init 29 = .ok (.bipush 12, 2) := by decide +kernel
theorem d_Pr_init_31 : decode b_Pr_init 31 = .ok (.newarray .int, 2) := by decide +kernel
theorem d_Pr_init_33 : decode b_Pr_init 33 = .ok (.putfield 21, 3) := by decide +kernel
theorem d_Pr_init_36 : decode b_Pr_init 36 = .ok (.aload_n 0, 1) := by decide +kernel
theorem d_Pr_init_37 : decode b_Pr_init 37 = .ok (.bipush 12, 2) := by decide +kernel
theorem d_Pr_init_39 : decode b_Pr_init 39 = .ok (.newarray .int, 2) := by decide +kernel
theorem d_Pr_init_41 : decode b_Pr_init 41 = .ok (.putfield 24, 3) := by decide +kernel
theorem d_Pr_init_44 : decode b_Pr_init 44 = .ok (.return_, 1) := by decide +kernel
theorem d_Pr_addStatement_0 : decode b_Pr_addStatement 0 = .ok (.iload_n 1, 1) := by decide +kernel
theorem d_Pr_addStatement_1 : decode b_Pr_addStatement 1 = .ok (.ifCond .lt 13, 3) := by decide +kernel
theorem d_Pr_addStatement_4 : decode b_Pr_addStatement 4 = .ok (.iload_n 1, 1) := by decide +kernel
theorem d_Pr_addStatement_5 : decode b_Pr_addStatement 5 = .ok (.bipush 7, 2) := by decide +kernel
theorem d_Pr_addStatement_7 : decode b_Pr_addStatement 7 = .ok (.if_icmp .ge 7, 3) := by decide +kernel
theorem d_Pr_addStatement_10 : decode b_Pr_addStatement 10 = .ok (.iconst 1, 1) := by decide +kernel
theorem d_Pr_addStatement_11 : decode b_Pr_addStatement 11 = .ok (.goto 4, 3) := by decide +kernel
theorem d_Pr_addStatement_14 : decode b_Pr_addStatement 14 = .ok (.iconst 0, 1) := by decide +kernel
theorem d_Pr_addStatement_15 : decode b_Pr_addStatement 15 = .ok (.istore 6, 2) := by decide +kernel
theorem d_Pr_addStatement_17 : decode b_Pr_addStatement 17 = .ok (.iload_n 2, 1) := by decide +kernel
theorem d_Pr_addStatement_18 : decode b_Pr_addStatement 18 = .ok (.invokestatic 27, 3) := by decide +kernel
