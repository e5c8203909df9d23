theorem d_Md_listAll_188 : decode b_Md_listAll 188 = .ok (.bipush 13, 2) := by decide +kernel
theorem d_Md_listAll_190 : decode b_Md_listAll 190 = .ok (.iconst 2, 1) := by decide +kernel
theorem d_Md_listAll_191 : decode b_Md_listAll 191 = .ok (.iload 4, 2) := by decide +kernel
theorem d_Md_listAll_193 : decode b_Md_listAll 193 = .ok (.iload_n 1, 1) := by decide +kernel
theorem d_Md_listAll_194 : decode b_Md_listAll 194 = .ok (.invokevirtual 212, 3) := by decide +kernel
theorem d_Md_listAll_197 : decode b_Md_listAll 197 = .ok (.goto 11, 3) := by decide +kernel
theorem d_Md_listAll_200 : decode b_Md_listAll 200 = .ok (.aload_n 0, 1) := by decide +kernel
theorem d_Md_listAll_201 : decode b_Md_listAll 201 = .ok (.iconst 0, 1) := by decide +kernel
theorem d_Md_listAll_202 : decode b_Md_listAll 202 = .ok (.iconst 1, 1) := by decide +kernel
theorem d_Md_listAll_203 : decode b_Md_listAll 203 = .ok (.iconst (-1), 1) := by decide +kernel
theorem d_Md_listAll_204 : decode b_Md_listAll 204 = .ok (.iload_n 1, 1) := by decide +kernel
theorem d_Md_listAll_205 : decode b_Md_listAll 205 = .ok (.invokevirtual 212, 3) := by decide +kernel
theorem d_Md_listAll_208 : decode b_Md_listAll 208 = .ok (.iinc 1 1, 3) := by decide +kernel
theorem d_Md_listAll_211 : decode b_Md_listAll 211 = .ok (.goto (-204), 3) := by decide +kernel
theorem d_Md_listAll_214 : decode b_Md_listAll 214 = .ok (.aload_n 0, 1) := by decide +kernel
theorem d_Md_listAll_215 : decode b_Md_listAll 215 = .ok (.getfield 33, 3) := by decide +kernel
theorem d_Md_listAll_218 : decode b_Md_listAll 218 = .ok (.aload_n 0, 1) := by decide +kernel
theorem d_Md_listAll_219 : decode b_Md_listAll 219 = .ok (.getfield 206, 3) := by decide +kernel
theorem d_Md_listAll_222 : decode b_Md_listAll 222 = .ok (.iconst 1, 1) := by decide +kernel
theorem d_Md_listAll_223 : decode b_Md_listAll 223 = .ok (.isub, 1) := by decide +kernel
theorem d_Md_listAll_224 : decode b_Md_listAll 224 = .ok (.iaload, 1) := by decide +kernel
theorem d_Md_listAll_225 : decode b_Md_listAll 225 = .ok (.bipush 6, 2) := by decide +kernel
theorem d_Md_listAll_227 : decode b_Md_listAll 227 = .ok (.if_icmp .eq 11, 3) := by decide +kernel
theorem d_Md_listAll_230 : decode b_Md_listAll 230 = .ok (.aload_n 0, 1) := by decide +kernel
theorem d_Md_listAll_231 : decode b_Md_listAll 231 = .ok (.iconst 0, 1) := by decide +kernel
theorem d_Md_listAll_232 : decode b_Md_listAll 232 = .ok (.iconst 1, 1) := by decide +kernel
theorem d_Md_listAll_233 : decode b_Md_listAll 233 = .ok (.iconst (-1), 1) := by decide +kernel
theorem d_Md_listAll_234 : decode b_Md_listAll 234 = .ok (.iconst (-1), 1) := by decide +kernel
theorem d_Md_listAll_235 : decode b_Md_listAll 235 = .ok (.invokevirtual 212, 3) := by decide +kernel
theorem d_Md_listAll_238 : decode b_Md_listAll 238 = .ok (.return_, 1) := by decide +kernel
theorem d_Md_free_0 : decode b_Md_free 0 = .ok (.iconst 0, 1) := by decide +kernel
theorem d_Md_free_1 : decode b_Md_free 1 = .ok (.istore_n 3, 1) := by decide +kernel
theorem d_Md_free_2 : decode b_Md_free 2 = .ok (.iload_n 3, 1) := by decide +kernel
theorem d_Md_free_3 : decode b_Md_free 3 = .ok (.iload_n 2, 1) := by decide +kernel
theorem d_Md_free_4 : decode b_Md_free 4 = .ok (.ifCond .eq 8, 3) := by decide +kernel
theorem d_Md_free_7 : decode b_Md_free 7 = .ok (.bipush 31, 2) := by decide +kernel
theorem d_Md_free_9 : decode b_Md_free 9 = .ok (.goto 5, 3) := by decide +kernel
theorem d_Md_free_12 : decode b_Md_free 12 = .ok (.bipush 32, 2) := by decide +kernel
theorem d_Md_free_14 : decode b_Md_free 14 = .ok (.if_icmp .ge 90, 3) := by decide +kernel
theorem d_Md_free_17 : decode b_Md_free 17 = .ok (.iload_n 1, 1) := by decide +kernel
theorem d_Md_free_18 : decode b_Md_free 18 = .ok (.iload_n 3, 1) := by decide +kernel
theorem d_Md_free_19 : decode b_Md_free 19 = .ok (.iadd, 1) := by decide +kernel
theorem d_Md_free_20 : decode b_Md_free 20 = .ok (.bipush 31, 2) := by decide +kernel
theorem d_Md_free_22 : decode b_Md_free 22 = .ok (.iand, 1) := by decide +kernel
theorem d_Md_free_23 : decode b_Md_free 23 = .ok (.istore 4, 2) := by decide +kernel
theorem d_Md_free_25 : decode b_Md_free 25 = .ok (.iload_n 2, 1) := by decide +kernel
theorem d_Md_free_26 : decode b_Md_free 26 = .ok (.ifCond .eq 13, 3) := by decide +kernel
theorem d_Md_free_29 : decode b_Md_free 29 = .ok (.iload 4, 2) := by decide +kernel
theorem d_Md_free_31 : decode b_Md_free 31 = .ok (.iconst 1, 1) := by decide +kernel
theorem d_Md_free_32 : decode b_Md_free 32 = .ok (.iadd, 1) := by decide +kernel
theorem d_Md_free_33 : decode b_Md_free 33 = .ok (.bipush 31, 2) := by decide +kernel
theorem d_Md_free_35 : decode b_Md_free 35 = .ok (.iand, 1) := by decide +kernel
theorem d_Md_free_36 : decode b_Md_free 36 = .ok (.goto 5, 3) := by decide +kernel
theorem d_Md_free_39 : decode b_Md_free 39 = .ok (.iload 4, 2) := by decide +kernel
theorem d_Md_free_41 : decode b_Md_free 41 = .ok (.istore 5, 2) := by decide +kernel
theorem d_Md_free_43 : decode b_Md_free 43 = .ok (.aload_n 0, 1) := by decide +kernel
theorem d_Md_free_44 : decode b_Md_free 44 = .ok (.getfield 66, 3) := by decide +kernel
theorem d_Md_free_47 : decode b_Md_free 47 = .ok (.iload 4, 2) := by decide +kernel
theorem d_Md_free_49 : decode b_Md_free 49 = .ok (.baload, 1) := by decide +kernel
theorem d_Md_free_50 : decode b_Md_free 50 = .ok (.ifCond .ne 16, 3) := by decide +kernel
theorem d_Md_free_53 : decode b_Md_free 53 = .ok (.aload_n 0, 1) := by decide +kernel
theorem d_Md_free_54 : decode b_Md_free 54 = .ok (.getfield 66, 3) := by decide +kernel
theorem d_Md_free_57 : decode b_Md_free 57 = .ok (.iload 5, 2) := by decide +kernel
theorem d_Md_free_59 : decode b_Md_free 59 = .ok (.baload, 1) := by decide +kernel
theorem d_Md_free_60 : decode b_Md_free 60 = .ok (.ifCond .ne 6, 3) := by decide +kernel
theorem d_Md_free_63 : decode b_Md_free 63 = .ok (.iload 4, 2) := by decide +kernel
theorem d_Md_free_65 : decode b_Md_free 65 = .ok (.ireturn, 1) := by decide +kernel
theorem d_Md_free_66 : decode b_Md_free 66 = .ok (.aload_n 0, 1) := by decide +kernel
theorem d_Md_free_67 : decode b_Md_free 67 = .ok (.getfield 66, 3) := by decide +kernel
theorem d_Md_free_70 : decode b_Md_free 70 = .ok (.bipush 32, 2) := by decide +kernel
theorem d_Md_free_72 : decode b_Md_free 72 = .ok (.iload 4, 2) := by decide +kernel
theorem d_Md_free_74 : decode b_Md_free 74 = .ok (.iadd, 1) := by decide +kernel
theorem d_Md_free_75 : decode b_Md_free 75 = .ok (.baload, 1) := by decide +kernel
theorem d_Md_free_76 : decode b_Md_free 76 = .ok (.ifCond .ne 22, 3) := by decide +kernel
theorem d_Md_free_79 : decode b_Md_free 79 = .ok (.aload_n 0, 1) := by decide +kernel
theorem d_Md_free_80 : decode b_Md_free 80 = .ok (.getfield 66, 3) := by decide +kernel
theorem d_Md_free_83 : decode b_Md_free 83 = .ok (.bipush 32, 2) := by decide +kernel
theorem d_Md_free_85 : decode b_Md_free 85 = .ok (.iload 5, 2) := by decide +kernel
theorem d_Md_free_87 : decode b_Md_free 87 = .ok (.iadd, 1) := by decide +kernel
theorem d_Md_free_88 : decode b_Md_free 88 = .ok (.baload, 1) := by decide +kernel
theorem d_Md_free_89 : decode b_Md_free 89 = .ok (.ifCond .ne 9, 3) := by decide +kernel
theorem d_Md_free_92 : decode b_Md_free 92 = .ok (.bipush 32, 2) := by decide +kernel
theorem d_Md_free_94 : decode b_Md_free 94 = .ok (.iload 4, 2) := by decide +kernel
theorem d_Md_free_96 : decode b_Md_free 96 = .ok (.iadd, 1) := by decide +kernel
theorem d_Md_free_97 : decode b_Md_free 97 = .ok (.ireturn, 1) := by decide +kernel
theorem d_Md_free_98 : decode b_Md_free 98 = .ok (.iinc 3 1, 3) := by decide +kernel
theorem d_Md_free_101 : decode b_Md_free 101 = .ok (.goto (-99), 3) := by decide +kernel
theorem d_Md_free_104 : decode b_Md_free 104 = .ok (.iconst (-1), 1) := by decide +kernel
theorem d_Md_free_105 : decode b_Md_free 105 = .ok (.ireturn, 1) := by decide +kernel
theorem d_Md_place_0 : decode b_Md_place 0 = .ok (.iconst 0, 1) := by decide +kernel
theorem d_Md_place_1 : decode b_Md_place 1 = .ok (.istore_n 1, 1) := by decide +kernel
theorem d_Md_place_2 : decode b_Md_place 2 = .ok (.iload_n 1, 1) := by decide +kernel
theorem d_Md_place_3 : decode b_Md_place 3 = .ok (.bipush 64, 2) := by decide +kernel
theorem d_Md_place_5 : decode b_Md_place 5 = .ok (.if_icmp .ge 16, 3) := by decide +kernel
theorem d_Md_place_8 : decode b_Md_place 8 = .ok (.aload_n 0, 1) := by decide +kernel
theorem d_Md_place_9 : decode b_Md_place 9 = .ok (.getfield 66, 3) := by decide +kernel
theorem d_Md_place_12 : decode b_Md_place 12 = .ok (.iload_n 1, 1) := by decide +kernel
theorem d_Md_place_13 : decode b_Md_place 13 = .ok (.iconst 0, 1) := by decide +kernel
theorem d_Md_place_14 : decode b_Md_place 14 = .ok (.bastore, 1) := by decide +kernel
theorem d_Md_place_15 : decode b_Md_place 15 = .ok (.iinc 1 1, 3) := by decide +kernel
theorem d_Md_place_18 : decode b_Md_place 18 = .ok (.goto (-16), 3) := by decide +kernel
theorem d_Md_place_21 : decode b_Md_place 21 = .ok (.iconst 0, 1) := by decide +kernel
theorem d_Md_place_22 : decode b_Md_place 22 = .ok (.istore_n 1, 1) := by decide +kernel
theorem d_Md_place_23 : decode b_Md_place 23 = .ok (.iload_n 1, 1) := by decide +kernel
theorem d_Md_place_24 : decode b_Md_place 24 = .ok (.bipush 32, 2) := by decide +kernel
theorem d_Md_place_26 : decode b_Md_place 26 = .ok (.if_icmp .ge 16, 3) := by decide +kernel
theorem d_Md_place_29 : decode b_Md_place 29 = .ok (.aload_n 0, 1) := by decide +kernel
theorem d_Md_place_30 : decode b_Md_place 30 = .ok (.getfield 70, 3) := by decide +kernel
theorem d_Md_place_33 : decode b_Md_place 33 = .ok (.iload_n 1, 1) := by decide +kernel
theorem d_Md_place_34 : decode b_Md_place 34 = .ok (.iconst 0, 1) := by decide +kernel
theorem d_Md_place_35 : decode b_Md_place 35 = .ok (.bastore, 1) := by decide +kernel
theorem d_Md_place_36 : decode b_Md_place 36 = .ok (.iinc 1 1, 3) := by decide +kernel
theorem d_Md_place_39 : decode b_Md_place 39 = .ok (.goto (-16), 3) := by decide +kernel
theorem d_Md_place_42 : decode b_Md_place 42 = .ok (.iconst 0, 1) := by decide +kernel
theorem d_Md_place_43 : decode b_Md_place 43 = .ok (.istore_n 1, 1) := by decide +kernel
theorem d_Md_place_44 : decode b_Md_place 44 = .ok (.iload_n 1, 1) := by decide +kernel
theorem d_Md_place_45 : decode b_Md_place 45 = .ok (.bipush 16, 2) := by decide +kernel
theorem d_Md_place_47 : decode b_Md_place 47 = .ok (.if_icmp .ge 16, 3) := by decide +kernel
theorem d_Md_place_50 : decode b_Md_place 50 = .ok (.aload_n 0, 1) := by decide +kernel
theorem d_Md_place_51 : decode b_Md_place 51 = .ok (.getfield 73, 3) := by decide +kernel
theorem d_Md_place_54 : decode b_Md_place 54 = .ok (.iload_n 1, 1) := by decide +kernel
theorem d_Md_place_55 : decode b_Md_place 55 = .ok (.iconst (-1), 1) := by decide +kernel
theorem d_Md_place_56 : decode b_Md_place 56 = .ok (.iastore, 1) := by decide +kernel
theorem d_Md_place_57 : decode b_Md_place 57 = .ok (.iinc 1 1, 3) := by decide +kernel
theorem d_Md_place_60 : decode b_Md_place 60 = .ok (.goto (-16), 3) := by decide +kernel
theorem d_Md_place_63 : decode b_Md_place 63 = .ok (.iconst 0, 1) := by decide +kernel
theorem d_Md_place_64 : decode b_Md_place 64 = .ok (.istore_n 1, 1) := by decide +kernel
theorem d_Md_place_65 : decode b_Md_place 65 = .ok (.iconst 0, 1) := by decide +kernel
theorem d_Md_place_66 : decode b_Md_place 66 = .ok (.istore_n 2, 1) := by decide +kernel
theorem d_Md_place_67 : decode b_Md_place 67 = .ok (.iload_n 2, 1) := by decide +kernel
theorem d_Md_place_68 : decode b_Md_place 68 = .ok (.aload_n 0, 1) := by decide +kernel
theorem d_Md_place_69 : decode b_Md_place 69 = .ok (.getfield 209, 3) := by decide +kernel
theorem d_Md_place_72 : decode b_Md_place 72 = .ok (.if_icmp .ge 189, 3) := by decide +kernel
theorem d_Md_place_75 : decode b_Md_place 75 = .ok (.aload_n 0, 1) := by decide +kernel
theorem d_Md_place_76 : decode b_Md_place 76 = .ok (.getfield 48, 3) := by decide +kernel
theorem d_Md_place_79 : decode b_Md_place 79 = .ok (.iload_n 2, 1) := by decide +kernel
theorem d_Md_place_80 : decode b_Md_place 80 = .ok (.iaload, 1) := by decide +kernel
theorem d_Md_place_81 : decode b_Md_place 81 = .ok (.ifCond .ne 16, 3) := by decide +kernel
theorem d_Md_place_84 : decode b_Md_place 84 = .ok (.aload_n 0, 1) := by decide +kernel
theorem d_Md_place_85 : decode b_Md_place 85 = .ok (.getfield 51, 3) := by decide +kernel
theorem d_Md_place_88 : decode b_Md_place 88 = .ok (.iload_n 2, 1) := by decide +kernel
theorem d_Md_place_89 : decode b_Md_place 89 = .ok (.iaload, 1) := by decide +kernel
theorem d_Md_place_90 : decode b_Md_place 90 = .ok (.ifCond .ne 7, 3) := by decide +kernel
theorem d_Md_place_93 : decode b_Md_place 93 = .ok (.iconst 1, 1) := by decide +kernel
theorem d_Md_place_94 : decode b_Md_place 94 = .ok (.goto 4, 3) := by decide +kernel
theorem d_Md_place_97 : decode b_Md_place 97 = .ok (.iconst 0, 1) := by decide +kernel
theorem d_Md_place_98 : decode b_Md_place 98 = .ok (.istore_n 3, 1) := by decide +kernel
theorem d_Md_place_99 : decode b_Md_place 99 = .ok (.aload_n 0, 1) := by decide +kernel
theorem d_Md_place_100 : decode b_Md_place 100 = .ok (.iload_n 3, 1) := by decide +kernel
theorem d_Md_place_101 : decode b_Md_place 101 = .ok (.ifCond .eq 9, 3) := by decide +kernel
theorem d_Md_place_104 : decode b_Md_place 104 = .ok (.iload_n 1, 1) := by decide +kernel
theorem d_Md_place_105 : decode b_Md_place 105 = .ok (.iconst 1, 1) := by decide +kernel
theorem d_Md_place_106 : decode b_Md_place 106 = .ok (.iadd, 1) := by decide +kernel
theorem d_Md_place_107 : decode b_Md_place 107 = .ok (.goto 4, 3) := by decide +kernel
theorem d_Md_place_110 : decode b_Md_place 110 = .ok (.iload_n 1, 1) := by decide +kernel
theorem d_Md_place_111 : decode b_Md_place 111 = .ok (.iload_n 3, 1) := by decide +kernel
theorem d_Md_place_112 : decode b_Md_place 112 = .ok (.invokevirtual 216, 3) := by decide +kernel
theorem d_Md_place_115 : decode b_Md_place 115 = .ok (.istore 4, 2) := by decide +kernel
theorem d_Md_place_117 : decode b_Md_place 117 = .ok (.iload 4, 2) := by decide +kernel
theorem d_Md_place_119 : decode b_Md_place 119 = .ok (.ifCond .ge 5, 3) := by decide +kernel
theorem d_Md_place_122 : decode b_Md_place 122 = .ok (.iconst 0, 1) := by decide +kernel
theorem d_Md_place_123 : decode b_Md_place 123 = .ok (.ireturn, 1) := by decide +kernel
theorem d_Md_place_124 : decode b_Md_place 124 = .ok (.aload_n 0, 1) := by decide +kernel
theorem d_Md_place_125 : decode b_Md_place 125 = .ok (.getfield 66, 3) := by decide +kernel
theorem d_Md_place_128 : decode b_Md_place 128 = .ok (.iload 4, 2) := by decide +kernel
theorem d_Md_place_130 : decode b_Md_place 130 = .ok (.iconst 1, 1) := by decide +kernel
theorem d_Md_place_131 : decode b_Md_place 131 = .ok (.bastore, 1) := by decide +kernel
theorem d_Md_place_132 : decode b_Md_place 132 = .ok (.aload_n 0, 1) := by decide +kernel
theorem d_Md_place_133 : decode b_Md_place 133 = .ok (.getfield 60, 3) := by decide +kernel
theorem d_Md_place_136 : decode b_Md_place 136 = .ok (.iload_n 2, 1) := by decide +kernel
theorem d_Md_place_137 : decode b_Md_place 137 = .ok (.iload 4, 2) := by decide +kernel
theorem d_Md_place_139 : decode b_Md_place 139 = .ok (.iastore, 1) := by decide +kernel
theorem d_Md_place_140 : decode b_Md_place 140 = .ok (.aload_n 0, 1) := by decide +kernel
theorem d_Md_place_141 : decode b_Md_place 141 = .ok (.getfield 63, 3) := by decide +kernel
theorem d_Md_place_144 : decode b_Md_place 144 = .ok (.iload_n 2, 1) := by decide +kernel
theorem d_Md_place_145 : decode b_Md_place 145 = .ok (.iconst 0, 1) := by decide +kernel
theorem d_Md_place_146 : decode b_Md_place 146 = .ok (.iastore, 1) := by decide +kernel
theorem d_Md_place_147 : decode b_Md_place 147 = .ok (.iload_n 3, 1) := by decide +kernel
theorem d_Md_place_148 : decode b_Md_place 148 = .ok (.ifCond .eq 55, 3) := by decide +kernel
theorem d_Md_place_151 : decode b_Md_place 151 = .ok (.iinc 2 1, 3) := by decide +kernel
theorem d_Md_place_154 : decode b_Md_place 154 = .ok (.aload_n 0, 1) := by decide +kernel
theorem d_Md_place_155 : decode b_Md_place 155 = .ok (.getfield 60, 3) := by decide +kernel
theorem d_Md_place_158 : decode b_Md_place 158 = .ok (.iload_n 2, 1) := by decide +kernel
theorem d_Md_place_159 : decode b_Md_place 159 = .ok (.iload 4, 2) := by decide +kernel
theorem d_Md_place_161 : decode b_Md_place 161 = .ok (.bipush 32, 2) := by decide +kernel
theorem d_Md_place_163 : decode b_Md_place 163 = .ok (.iand, 1) := by decide +kernel
theorem d_Md_place_164 : decode b_Md_place 164 = .ok (.iload 4, 2) := by decide +kernel
theorem d_Md_place_166 : decode b_Md_place 166 = .ok (.iconst 1, 1) := by decide +kernel
theorem d_Md_place_167 : decode b_Md_place 167 = .ok (.iadd, 1) := by decide +kernel
theorem d_Md_place_168 : decode b_Md_place 168 = .ok (.bipush 31, 2) := by decide +kernel
theorem d_Md_place_170 : decode b_Md_place 170 = .ok (.iand, 1) := by decide +kernel
theorem d_Md_place_171 : decode b_Md_place 171 = .ok (.ior, 1) := by decide +kernel
theorem d_Md_place_172 : decode b_Md_place 172 = .ok (.iastore, 1) := by decide +kernel
theorem d_Md_place_173 : decode b_Md_place 173 = .ok (.aload_n 0, 1) := by decide +kernel
theorem d_Md_place_174 : decode b_Md_place 174 = .ok (.getfield 66, 3) := by decide +kernel
theorem d_Md_place_177 : decode b_Md_place 177 = .ok (.aload_n 0, 1) := by decide +kernel
theorem d_Md_place_178 : decode b_Md_place 178 = .ok (.getfield 60, 3) := by decide +kernel
theorem d_Md_place_181 : decode b_Md_place 181 = .ok (.iload_n 2, 1) := by decide +kernel
theorem d_Md_place_182 : decode b_Md_place 182 = .ok (.iaload, 1) := by decide +kernel
theorem d_Md_place_183 : decode b_Md_place 183 = .ok (.iconst 1, 1) := by decide +kernel
theorem d_Md_place_184 : decode b_Md_place 184 = .ok (.bastore, 1) := by decide +kernel
theorem d_Md_place_185 : decode b_Md_place 185 = .ok (.aload_n 0, 1) := by decide +kernel
theorem d_Md_place_186 : decode b_Md_place 186 = .ok (.getfield 63, 3) := by decide +kernel
theorem d_Md_place_189 : decode b_Md_place 189 = .ok (.iload_n 2, 1) := by decide +kernel
theorem d_Md_place_190 : decode b_Md_place 190 = .ok (.iconst 0, 1) := by decide +kernel
theorem d_Md_place_191 : decode b_Md_place 191 = .ok (.iastore, 1) := by decide +kernel
theorem d_Md_place_192 : decode b_Md_place 192 = .ok (.iload 4, 2) := by decide +kernel
theorem d_Md_place_194 : decode b_Md_place 194 = .ok (.iconst 2, 1) := by decide +kernel
theorem d_Md_place_195 : decode b_Md_place 195 = .ok (.iadd, 1) := by decide +kernel
theorem d_Md_place_196 : decode b_Md_place 196 = .ok (.bipush 31, 2) := by decide +kernel
theorem d_Md_place_198 : decode b_Md_place 198 = .ok (.iand, 1) := by decide +kernel
theorem d_Md_place_199 : decode b_Md_place 199 = .ok (.istore_n 1, 1) := by decide +kernel
theorem d_Md_place_200 : decode b_Md_place 200 = .ok (.goto 55, 3) := by decide +kernel
theorem d_Md_place_203 : decode b_Md_place 203 = .ok (.aload_n 0, 1) := by decide +kernel
theorem d_Md_place_204 : decode b_Md_place 204 = .ok (.getfield 54, 3) := by decide +kernel
theorem d_Md_place_207 : decode b_Md_place 207 = .ok (.iload_n 2, 1) := by decide +kernel
theorem d_Md_place_208 : decode b_Md_place 208 = .ok (.iaload, 1) := by decide +kernel
theorem d_Md_place_209 : decode b_Md_place 209 = .ok (.istore 5, 2) := by decide +kernel
theorem d_Md_place_211 : decode b_Md_place 211 = .ok (.iload 5, 2) := by decide +kernel
theorem d_Md_place_213 : decode b_Md_place 213 = .ok (.ifCond .lt 27, 3) := by decide +kernel
theorem d_Md_place_216 : decode b_Md_place 216 = .ok (.aload_n 0, 1) := by decide +kernel
theorem d_Md_place_217 : decode b_Md_place 217 = .ok (.getfield 63, 3) := by decide +kernel
theorem d_Md_place_220 : decode b_Md_place 220 = .ok (.iload_n 2, 1) := by decide +kernel
theorem d_Md_place_221 : decode b_Md_place 221 = .ok (.aload_n 0, 1) := by decide +kernel
theorem d_Md_place_222 : decode b_Md_place 222 = .ok (.iload 5, 2) := by decide +kernel
theorem d_Md_place_224 : decode b_Md_place 224 = .ok (.iload 4, 2) := by decide +kernel
theorem d_Md_place_226 : decode b_Md_place 226 = .ok (.iconst 2, 1) := by decide +kernel
theorem d_Md_place_227 : decode b_Md_place 227 = .ok (.iadd, 1) := by decide +kernel
theorem d_Md_place_228 : decode b_Md_place 228 = .ok (.invokevirtual 220, 3) := by decide +kernel
theorem d_Md_place_231 : decode b_Md_place 231 = .ok (.iload 4, 2) := by decide +kernel
theorem d_Md_place_233 : decode b_Md_place 233 = .ok (.isub, 1) := by decide +kernel
theorem d_Md_place_234 : decode b_Md_place 234 = .ok (.iconst 2, 1) := by decide +kernel
theorem d_Md_place_235 : decode b_Md_place 235 = .ok (.isub, 1) := by decide +kernel
theorem d_Md_place_236 : decode b_Md_place 236 = .ok (.bipush 31, 2) := by decide +kernel
theorem d_Md_place_238 : decode b_Md_place 238 = .ok (.iand, 1) := by decide +kernel
theorem d_Md_place_239 : decode b_Md_place 239 = .ok (.iastore, 1) := by decide +kernel
theorem d_Md_place_240 : decode b_Md_place 240 = .ok (.iload 4, 2) := by decide +kernel
theorem d_Md_place_242 : decode b_Md_place 242 = .ok (.iconst 2, 1) := by decide +kernel
theorem d_Md_place_243 : decode b_Md_place 243 = .ok (.iadd, 1) := by decide +kernel
theorem d_Md_place_244 : decode b_Md_place 244 = .ok (.aload_n 0, 1) := by decide +kernel
theorem d_Md_place_245 : decode b_Md_place 245 = .ok (.getfield 63, 3) := by decide +kernel
theorem d_Md_place_248 : decode b_Md_place 248 = .ok (.iload_n 2, 1) := by decide +kernel
theorem d_Md_place_249 : decode b_Md_place 249 = .ok (.iaload, 1) := by decide +kernel
theorem d_Md_place_250 : decode b_Md_place 250 = .ok (.iadd, 1) := by decide +kernel
theorem d_Md_place_251 : decode b_Md_place 251 = .ok (.bipush 31, 2) := by decide +kernel
theorem d_Md_place_253 : decode b_Md_place 253 = .ok (.iand, 1) := by decide +kernel
theorem d_Md_place_254 : decode b_Md_place 254 = .ok (.istore_n 1, 1) := by decide +kernel
theorem d_Md_place_255 : decode b_Md_place 255 = .ok (.iinc 2 1, 3) := by decide +kernel
theorem d_Md_place_258 : decode b_Md_place 258 = .ok (.goto (-191), 3) := by decide +kernel
theorem d_Md_place_261 : decode b_Md_place 261 = .ok (.iconst 1, 1) := by decide +kernel
theorem d_Md_place_262 : decode b_Md_place 262 = .ok (.ireturn, 1) := by decide +kernel
theorem d_Md_variableFrom_0 : decode b_Md_variableFrom 0 = .ok (.iload_n 2, 1) := by decide +kernel
theorem d_Md_variableFrom_1 : decode b_Md_variableFrom 1 = .ok (.bipush 31, 2) := by decide +kernel
theorem d_Md_variableFrom_3 : decode b_Md_variableFrom 3 = .ok (.iand, 1) := by decide +kernel
theorem d_Md_variableFrom_4 : decode b_Md_variableFrom 4 = .ok (.istore_n 3, 1) := by decide +kernel
theorem d_Md_variableFrom_5 : decode b_Md_variableFrom 5 = .ok (.aload_n 0, 1) := by decide +kernel
theorem d_Md_variableFrom_6 : decode b_Md_variableFrom 6 = .ok (.getfield 73, 3) := by decide +kernel
theorem d_Md_variableFrom_9 : decode b_Md_variableFrom 9 = .ok (.iload_n 1, 1) := by decide +kernel
theorem d_Md_variableFrom_10 : decode b_Md_variableFrom 10 = .ok (.iaload, 1) := by decide +kernel
theorem d_Md_variableFrom_11 : decode b_Md_variableFrom 11 = .ok (.ifCond .ge 29, 3) := by decide +kernel
theorem d_Md_variableFrom_14 : decode b_Md_variableFrom 14 = .ok (.aload_n 0, 1) := by decide +kernel
theorem d_Md_variableFrom_15 : decode b_Md_variableFrom 15 = .ok (.getfield 70, 3) := by decide +kernel
theorem d_Md_variableFrom_18 : decode b_Md_variableFrom 18 = .ok (.iload_n 3, 1) := by decide +kernel
theorem d_Md_variableFrom_19 : decode b_Md_variableFrom 19 = .ok (.baload, 1) := by decide +kernel
theorem d_Md_variableFrom_20 : decode b_Md_variableFrom 20 = .ok (.ifCond .ne 10, 3) := by decide +kernel
theorem d_Md_variableFrom_23 : decode b_Md_variableFrom 23 = .ok (.aload_n 0, 1) := by decide +kernel
theorem d_Md_variableFrom_24 : decode b_Md_variableFrom 24 = .ok (.getfield 73, 3) := by decide +kernel
theorem d_Md_variableFrom_27 : decode b_Md_variableFrom 27 = .ok (.iload_n 1, 1) := by decide +kernel
theorem d_Md_variableFrom_28 : decode b_Md_variableFrom 28 = .ok (.iload_n 3, 1) := by decide +kernel
theorem d_Md_variableFrom_29 : decode b_Md_variableFrom 29 = .ok (.iastore, 1) := by decide +kernel
theorem d_Md_variableFrom_30 : decode b_Md_variableFrom 30 = .ok (.iload_n 3, 1) := by decide +kernel
theorem d_Md_variableFrom_31 : decode b_Md_variableFrom 31 = .ok (.iconst 1, 1) := by decide +kernel
theorem d_Md_variableFrom_32 : decode b_Md_variableFrom 32 = .ok (.iadd, 1) := by decide +kernel
theorem d_Md_variableFrom_33 : decode b_Md_variableFrom 33 = .ok (.bipush 31, 2) := by decide +kernel
theorem d_Md_variableFrom_35 : decode b_Md_variableFrom 35 = .ok (.iand, 1) := by decide +kernel
theorem d_Md_variableFrom_36 : decode b_Md_variableFrom 36 = .ok (.istore_n 3, 1) := by decide +kernel
theorem d_Md_variableFrom_37 : decode b_Md_variableFrom 37 = .ok (.goto (-32), 3) := by decide +kernel
theorem d_Md_variableFrom_40 : decode b_Md_variableFrom 40 = .ok (.aload_n 0, 1) := by decide +kernel
theorem d_Md_variableFrom_41 : decode b_Md_variableFrom 41 = .ok (.getfield 70, 3) := by decide +kernel
theorem d_Md_variableFrom_44 : decode b_Md_variableFrom 44 = .ok (.aload_n 0, 1) := by decide +kernel
theorem d_Md_variableFrom_45 : decode b_Md_variableFrom 45 = .ok (.getfield 73, 3) := by decide +kernel
theorem d_Md_variableFrom_48 : decode b_Md_variableFrom 48 = .ok (.iload_n 1, 1) := by decide +kernel
theorem d_Md_variableFrom_49 : decode b_Md_variableFrom 49 = .ok (.iaload, 1) := by decide +kernel
theorem d_Md_variableFrom_50 : decode b_Md_variableFrom 50 = .ok (.iconst 1, 1) := by decide +kernel
theorem d_Md_variableFrom_51 : decode b_Md_variableFrom 51 = .ok (.bastore, 1) := by decide +kernel
theorem d_Md_variableFrom_52 : decode b_Md_variableFrom 52 = .ok (.aload_n 0, 1) := by decide +kernel
theorem d_Md_variableFrom_53 : decode b_Md_variableFrom 53 = .ok (.getfield 73, 3) := by decide +kernel
theorem d_Md_variableFrom_56 : decode b_Md_variableFrom 56 = .ok (.iload_n 1, 1) := by decide +kernel
theorem d_Md_variableFrom_57 : decode b_Md_variableFrom 57 = .ok (.iaload, 1) := by decide +kernel
theorem d_Md_variableFrom_58 : decode b_Md_variableFrom 58 = .ok (.ireturn, 1) := by decide +kernel
theorem d_Md_firstOf_0 : decode b_Md_firstOf 0 = .ok (.iconst 0, 1) := by decide +kernel
theorem d_Md_firstOf_1 : decode b_Md_firstOf 1 = .ok (.istore_n 2, 1) := by decide +kernel
theorem d_Md_firstOf_2 : decode b_Md_firstOf 2 = .ok (.aload_n 0, 1) := by decide +kernel
theorem d_Md_firstOf_3 : decode b_Md_firstOf 3 = .ok (.getfield 57, 3) := by decide +kernel
theorem d_Md_firstOf_6 : decode b_Md_firstOf 6 = .ok (.iload_n 2, 1) := by decide +kernel
theorem d_Md_firstOf_7 : decode b_Md_firstOf 7 = .ok (.iaload, 1) := by decide +kernel
theorem d_Md_firstOf_8 : decode b_Md_firstOf 8 = .ok (.iload_n 1, 1) := by decide +kernel
theorem d_Md_firstOf_9 : decode b_Md_firstOf 9 = .ok (.if_icmp .eq 9, 3) := by decide +kernel
theorem d_Md_firstOf_12 : decode b_Md_firstOf 12 = .ok (.iinc 2 1, 3) := by decide +kernel
theorem d_Md_firstOf_15 : decode b_Md_firstOf 15 = .ok (.goto (-13), 3) := by decide +kernel
theorem d_Md_firstOf_18 : decode b_Md_firstOf 18 = .ok (.iload_n 2, 1) := by decide +kernel
theorem d_Md_firstOf_19 : decode b_Md_firstOf 19 = .ok (.ireturn, 1) := by decide +kernel
theorem d_Md_write_0 : decode b_Md_write 0 = .ok (.aload_n 0, 1) := by decide +kernel
theorem d_Md_write_1 : decode b_Md_write 1 = .ok (.getfield 60, 3) := by decide +kernel
theorem d_Md_write_4 : decode b_Md_write 4 = .ok (.iload_n 1, 1) := by decide +kernel
theorem d_Md_write_5 : decode b_Md_write 5 = .ok (.iaload, 1) := by decide +kernel
theorem d_Md_write_6 : decode b_Md_write 6 = .ok (.istore_n 2, 1) := by decide +kernel
theorem d_Md_write_7 : decode b_Md_write 7 = .ok (.aload_n 0, 1) := by decide +kernel
theorem d_Md_write_8 : decode b_Md_write 8 = .ok (.getfield 48, 3) := by decide +kernel
theorem d_Md_write_11 : decode b_Md_write 11 = .ok (.iload_n 1, 1) := by decide +kernel
theorem d_Md_write_12 : decode b_Md_write 12 = .ok (.iaload, 1) := by decide +kernel
theorem d_Md_write_13 : decode b_Md_write 13 = .ok (.aload_n 0, 1) := by decide +kernel
theorem d_Md_write_14 : decode b_Md_write 14 = .ok (.getfield 51, 3) := by decide +kernel
theorem d_Md_write_17 : decode b_Md_write 17 = .ok (.iload_n 1, 1) := by decide +kernel
theorem d_Md_write_18 : decode b_Md_write 18 = .ok (.iaload, 1) := by decide +kernel
theorem d_Md_write_19 : decode b_Md_write 19 = .ok (.iconst 4, 1) := by decide +kernel
theorem d_Md_write_20 : decode b_Md_write 20 = .ok (.ishl, 1) := by decide +kernel
theorem d_Md_write_21 : decode b_Md_write 21 = .ok (.ior, 1) := by decide +kernel
theorem d_Md_write_22 : decode b_Md_write 22 = .ok (.aload_n 0, 1) := by decide +kernel
theorem d_Md_write_23 : decode b_Md_write 23 = .ok (.getfield 63, 3) := by decide +kernel
theorem d_Md_write_26 : decode b_Md_write 26 = .ok (.iload_n 1, 1) := by decide +kernel
theorem d_Md_write_27 : decode b_Md_write 27 = .ok (.iaload, 1) := by decide +kernel
theorem d_Md_write_28 : decode b_Md_write 28 = .ok (.bipush 10, 2) := by decide +kernel
theorem d_Md_write_30 : decode b_Md_write 30 = .ok (.ishl, 1) := by decide +kernel
theorem d_Md_write_31 : decode b_Md_write 31 = .ok (.ior, 1) := by decide +kernel
theorem d_Md_write_32 : decode b_Md_write 32 = .ok (.istore_n 3, 1) := by decide +kernel
theorem d_Md_write_33 : decode b_Md_write 33 = .ok (.aload_n 0, 1) := by decide +kernel
theorem d_Md_write_34 : decode b_Md_write 34 = .ok (.getfield 48, 3) := by decide +kernel
theorem d_Md_write_37 : decode b_Md_write 37 = .ok (.iload_n 1, 1) := by decide +kernel
theorem d_Md_write_38 : decode b_Md_write 38 = .ok (.iaload, 1) := by decide +kernel
theorem d_Md_write_39 : decode b_Md_write 39 = .ok (.ifCond .ne 16, 3) := by decide +kernel
theorem d_Md_write_42 : decode b_Md_write 42 = .ok (.aload_n 0, 1) := by decide +kernel
theorem d_Md_write_43 : decode b_Md_write 43 = .ok (.getfield 51, 3) := by decide +kernel
theorem d_Md_write_46 : decode b_Md_write 46 = .ok (.iload_n 1, 1) := by decide +kernel
theorem d_Md_write_47 : decode b_Md_write 47 = .ok (.iaload, 1) := by decide +kernel
theorem d_Md_write_48 : decode b_Md_write 48 = .ok (.ifCond .ne 7, 3) := by decide +kernel
theorem d_Md_write_51 : decode b_Md_write 51 = .ok (.iconst 1, 1) := by decide +kernel
theorem d_Md_write_52 : decode b_Md_write 52 = .ok (.goto 4, 3) := by decide +kernel
theorem d_Md_write_55 : decode b_Md_write 55 = .ok (.iconst 0, 1) := by decide +kernel
theorem d_Md_write_56 : decode b_Md_write 56 = .ok (.istore 4, 2) := by decide +kernel
theorem d_Md_write_58 : decode b_Md_write 58 = .ok (.iload 4, 2) := by decide +kernel
theorem d_Md_write_60 : decode b_Md_write 60 = .ok (.ifCond .eq 41, 3) := by decide +kernel
theorem d_Md_write_63 : decode b_Md_write 63 = .ok (.iload_n 1, 1) := by decide +kernel
theorem d_Md_write_64 : decode b_Md_write 64 = .ok (.ifCond .le 37, 3) := by decide +kernel
theorem d_Md_write_67 : decode b_Md_write 67 = .ok (.aload_n 0, 1) := by decide +kernel
theorem d_Md_write_68 : decode b_Md_write 68 = .ok (.getfield 51, 3) := by decide +kernel
theorem d_Md_write_71 : decode b_Md_write 71 = .ok (.iload_n 1, 1) := by decide +kernel
theorem d_Md_write_72 : decode b_Md_write 72 = .ok (.iconst 1, 1) := by decide +kernel
theorem d_Md_write_73 : decode b_Md_write 73 = .ok (.isub, 1) := by decide +kernel
theorem d_Md_write_74 : decode b_Md_write 74 = .ok (.iaload, 1) := by decide +kernel
theorem d_Md_write_75 : decode b_Md_write 75 = .ok (.ifCond .ne 26, 3) := by decide +kernel
theorem d_Md_write_78 : decode b_Md_write 78 = .ok (.aload_n 0, 1) := by decide +kernel
theorem d_Md_write_79 : decode b_Md_write 79 = .ok (.getfield 48, 3) := by decide +kernel
theorem d_Md_write_82 : decode b_Md_write 82 = .ok (.iload_n 1, 1) := by decide +kernel
theorem d_Md_write_83 : decode b_Md_write 83 = .ok (.iconst 1, 1) := by decide +kernel
theorem d_Md_write_84 : decode b_Md_write 84 = .ok (.isub, 1) := by decide +kernel
theorem d_Md_write_85 : decode b_Md_write 85 = .ok (.iaload, 1) := by decide +kernel
theorem d_Md_write_86 : decode b_Md_write 86 = .ok (.ifCond .ne 15, 3) := by decide +kernel
theorem d_Md_write_89 : decode b_Md_write 89 = .ok (.aload_n 0, 1) := by decide +kernel
theorem d_Md_write_90 : decode b_Md_write 90 = .ok (.iload_n 1, 1) := by decide +kernel
theorem d_Md_write_91 : decode b_Md_write 91 = .ok (.invokevirtual 223, 3) := by decide +kernel
theorem d_Md_write_94 : decode b_Md_write 94 = .ok (.ifCond .eq 7, 3) := by decide +kernel
theorem d_Md_write_97 : decode b_Md_write 97 = .ok (.iconst 1, 1) := by decide +kernel
theorem d_Md_write_98 : decode b_Md_write 98 = .ok (.goto 4, 3) := by decide +kernel
theorem d_Md_write_101 : decode b_Md_write 101 = .ok (.iconst 0, 1) := by decide +kernel
theorem d_Md_write_102 : decode b_Md_write 102 = .ok (.istore 5, 2) := by decide +kernel
theorem d_Md_write_104 : decode b_Md_write 104 = .ok (.iload 4, 2) := by decide +kernel
theorem d_Md_write_106 : decode b_Md_write 106 = .ok (.ifCond .eq 42, 3) := by decide +kernel
theorem d_Md_write_109 : decode b_Md_write 109 = .ok (.iload 5, 2) := by decide +kernel
theorem d_Md_write_111 : decode b_Md_write 111 = .ok (.ifCond .eq 26, 3) := by decide +kernel
theorem d_Md_write_114 : decode b_Md_write 114 = .ok (.aload_n 0, 1) := by decide +kernel
theorem d_Md_write_115 : decode b_Md_write 115 = .ok (.getfield 60, 3) := by decide +kernel
theorem d_Md_write_118 : decode b_Md_write 118 = .ok (.aload_n 0, 1) := by decide +kernel
theorem d_Md_write_119 : decode b_Md_write 119 = .ok (.aload_n 0, 1) := by decide +kernel
theorem d_Md_write_120 : decode b_Md_write 120 = .ok (.getfield 45, 3) := by decide +kernel
theorem d_Md_write_123 : decode b_Md_write 123 = .ok (.aload_n 0, 1) := by decide +kernel
theorem d_Md_write_124 : decode b_Md_write 124 = .ok (.getfield 57, 3) := by decide +kernel
theorem d_Md_write_127 : decode b_Md_write 127 = .ok (.iload_n 1, 1) := by decide +kernel
theorem d_Md_write_128 : decode b_Md_write 128 = .ok (.iaload, 1) := by decide +kernel
theorem d_Md_write_129 : decode b_Md_write 129 = .ok (.iaload, 1) := by decide +kernel
theorem d_Md_write_130 : decode b_Md_write 130 = .ok (.invokevirtual 226, 3) := by decide +kernel
theorem d_Md_write_133 : decode b_Md_write 133 = .ok (.iaload, 1) := by decide +kernel
theorem d_Md_write_134 : decode b_Md_write 134 = .ok (.goto 36, 3) := by decide +kernel
theorem d_Md_write_137 : decode b_Md_write 137 = .ok (.aload_n 0, 1) := by decide +kernel
theorem d_Md_write_138 : decode b_Md_write 138 = .ok (.getfield 60, 3) := by decide +kernel
theorem d_Md_write_141 : decode b_Md_write 141 = .ok (.iload_n 1, 1) := by decide +kernel
theorem d_Md_write_142 : decode b_Md_write 142 = .ok (.iconst 2, 1) := by decide +kernel
theorem d_Md_write_143 : decode b_Md_write 143 = .ok (.iadd, 1) := by decide +kernel
theorem d_Md_write_144 : decode b_Md_write 144 = .ok (.iaload, 1) := by decide +kernel
theorem d_Md_write_145 : decode b_Md_write 145 = .ok (.goto 25, 3) := by decide +kernel
theorem d_Md_write_148 : decode b_Md_write 148 = .ok (.iload_n 1, 1) := by decide +kernel
theorem d_Md_write_149 : decode b_Md_write 149 = .ok (.iconst 1, 1) := by decide +kernel
theorem d_Md_write_150 : decode b_Md_write 150 = .ok (.iadd, 1) := by decide +kernel
theorem d_Md_write_151 : decode b_Md_write 151 = .ok (.aload_n 0, 1) := by decide +kernel
theorem d_Md_write_152 : decode b_Md_write 152 = .ok (.getfield 209, 3) := by decide +kernel
theorem d_Md_write_155 : decode b_Md_write 155 = .ok (.if_icmp .ge 14, 3) := by decide +kernel
theorem d_Md_write_158 : decode b_Md_write 158 = .ok (.aload_n 0, 1) := by decide +kernel
theorem d_Md_write_159 : decode b_Md_write 159 = .ok (.getfield 60, 3) := by decide +kernel
theorem d_Md_write_162 : decode b_Md_write 162 = .ok (.iload_n 1, 1) := by decide +kernel
theorem d_Md_write_163 : decode b_Md_write 163 = .ok (.iconst 1, 1) := by decide +kernel
theorem d_Md_write_164 : decode b_Md_write 164 = .ok (.iadd, 1) := by decide +kernel
theorem d_Md_write_165 : decode b_Md_write 165 = .ok (.iaload, 1) := by decide +kernel
theorem d_Md_write_166 : decode b_Md_write 166 = .ok (.goto 4, 3) := by decide +kernel
theorem d_Md_write_169 : decode b_Md_write 169 = .ok (.iconst 0, 1) := by decide +kernel
theorem d_Md_write_170 : decode b_Md_write 170 = .ok (.istore 6, 2) := by decide +kernel
theorem d_Md_write_172 : decode b_Md_write 172 = .ok (.aload_n 0, 1) := by decide +kernel
theorem d_Md_write_173 : decode b_Md_write 173 = .ok (.getfield 51, 3) := by decide +kernel
theorem d_Md_write_176 : decode b_Md_write 176 = .ok (.iload_n 1, 1) := by decide +kernel
theorem d_Md_write_177 : decode b_Md_write 177 = .ok (.iaload, 1) := by decide +kernel
theorem d_Md_write_178 : decode b_Md_write 178 = .ok (.iconst 1, 1) := by decide +kernel
theorem d_Md_write_179 : decode b_Md_write 179 = .ok (.if_icmp .ne 14, 3) := by decide +kernel
theorem d_Md_write_182 : decode b_Md_write 182 = .ok (.aload_n 0, 1) := by decide +kernel
theorem d_Md_write_183 : decode b_Md_write 183 = .ok (.getfield 7, 3) := by decide +kernel
theorem d_Md_write_186 : decode b_Md_write 186 = .ok (.iload_n 2, 1) := by decide +kernel
theorem d_Md_write_187 : decode b_Md_write 187 = .ok (.ldc 229, 2) := by decide +kernel
theorem d_Md_write_189 : decode b_Md_write 189 = .ok (.iastore, 1) := by decide +kernel
theorem d_Md_write_190 : decode b_Md_write 190 = .ok (.goto 31, 3) := by decide +kernel
theorem d_Md_write_193 : decode b_Md_write 193 = .ok (.aload_n 0, 1) := by decide +kernel
theorem d_Md_write_194 : decode b_Md_write 194 = .ok (.getfield 7, 3) := by decide +kernel
theorem d_Md_write_197 : decode b_Md_write 197 = .ok (.iload_n 2, 1) := by decide +kernel
theorem d_Md_write_198 : decode b_Md_write 198 = .ok (.iload_n 3, 1) := by decide +kernel
theorem d_Md_write_199 : decode b_Md_write 199 = .ok (.iload 6, 2) := by decide +kernel
theorem d_Md_write_201 : decode b_Md_write 201 = .ok (.iload_n 2, 1) := by decide +kernel
theorem d_Md_write_202 : decode b_Md_write 202 = .ok (.isub, 1) := by decide +kernel
theorem d_Md_write_203 : decode b_Md_write 203 = .ok (.iconst 2, 1) := by decide +kernel
theorem d_Md_write_204 : decode b_Md_write 204 = .ok (.isub, 1) := by decide +kernel
theorem d_Md_write_205 : decode b_Md_write 205 = .ok (.bipush 31, 2) := by decide +kernel
theorem d_Md_write_207 : decode b_Md_write 207 = .ok (.iand, 1) := by decide +kernel
theorem d_Md_write_208 : decode b_Md_write 208 = .ok (.bipush 15, 2) := by decide +kernel
theorem d_Md_write_210 : decode b_Md_write 210 = .ok (.ishl, 1) := by decide +kernel
theorem d_Md_write_211 : decode b_Md_write 211 = .ok (.ior, 1) := by decide +kernel
theorem d_Md_write_212 : decode b_Md_write 212 = .ok (.iload 6, 2) := by decide +kernel
theorem d_Md_write_214 : decode b_Md_write 214 = .ok (.iconst 5, 1) := by decide +kernel
theorem d_Md_write_215 : decode b_Md_write 215 = .ok (.ishr, 1) := by decide +kernel
theorem d_Md_write_216 : decode b_Md_write 216 = .ok (.bipush 20, 2) := by decide +kernel
theorem d_Md_write_218 : decode b_Md_write 218 = .ok (.ishl, 1) := by decide +kernel
theorem d_Md_write_219 : decode b_Md_write 219 = .ok (.ior, 1) := by decide +kernel
theorem d_Md_write_220 : decode b_Md_write 220 = .ok (.iastore, 1) := by decide +kernel
theorem d_Md_write_221 : decode b_Md_write 221 = .ok (.return_, 1) := by decide +kernel
theorem d_Md_isSecond_0 : decode b_Md_isSecond 0 = .ok (.aload_n 0, 1) := by decide +kernel
theorem d_Md_isSecond_1 : decode b_Md_isSecond 1 = .ok (.getfield 57, 3) := by decide +kernel
theorem d_Md_isSecond_4 : decode b_Md_isSecond 4 = .ok (.iload_n 1, 1) := by decide +kernel
theorem d_Md_isSecond_5 : decode b_Md_isSecond 5 = .ok (.iaload, 1) := by decide +kernel
theorem d_Md_isSecond_6 : decode b_Md_isSecond 6 = .ok (.aload_n 0, 1) := by decide +kernel
theorem d_Md_isSecond_7 : decode b_Md_isSecond 7 = .ok (.getfield 57, 3) := by decide +kernel
theorem d_Md_isSecond_10 : decode b_Md_isSecond 10 = .ok (.iload_n 1, 1) := by decide +kernel
theorem d_Md_isSecond_11 : decode b_Md_isSecond 11 = .ok (.iconst 2, 1) := by decide +kernel
theorem d_Md_isSecond_12 : decode b_Md_isSecond 12 = .ok (.isub, 1) := by decide +kernel
theorem d_Md_isSecond_13 : decode b_Md_isSecond 13 = .ok (.iaload, 1) := by decide +kernel
theorem d_Md_isSecond_14 : decode b_Md_isSecond 14 = .ok (.if_icmp .ne 20, 3) := by decide +kernel
theorem d_Md_isSecond_17 : decode b_Md_isSecond 17 = .ok (.aload_n 0, 1) := by decide +kernel
theorem d_Md_isSecond_18 : decode b_Md_isSecond 18 = .ok (.getfield 51, 3) := by decide +kernel
theorem d_Md_isSecond_21 : decode b_Md_isSecond 21 = .ok (.iload_n 1, 1) := by decide +kernel
theorem d_Md_isSecond_22 : decode b_Md_isSecond 22 = .ok (.iconst 2, 1) := by decide +kernel
theorem d_Md_isSecond_23 : decode b_Md_isSecond 23 = .ok (.isub, 1) := by decide +kernel
theorem d_Md_isSecond_24 : decode b_Md_isSecond 24 = .ok (.iaload, 1) := by decide +kernel
theorem d_Md_isSecond_25 : decode b_Md_isSecond 25 = .ok (.bipush 11, 2) := by decide +kernel
theorem d_Md_isSecond_27 : decode b_Md_isSecond 27 = .ok (.if_icmp .ne 7, 3) := by decide +kernel
theorem d_Md_isSecond_30 : decode b_Md_isSecond 30 = .ok (.iconst 1, 1) := by decide +kernel
theorem d_Md_isSecond_31 : decode b_Md_isSecond 31 = .ok (.goto 4, 3) := by decide +kernel
theorem d_Md_isSecond_34 : decode b_Md_isSecond 34 = .ok (.iconst 0, 1) := by decide +kernel
theorem d_Md_isSecond_35 : decode b_Md_isSecond 35 = .ok (.ireturn, 1) := by decide +kernel
theorem d_Md_assemble_0 : decode b_Md_assemble 0 = .ok (.aload_n 0, 1) := by decide +kernel
theorem d_Md_assemble_1 : decode b_Md_assemble 1 = .ok (.getfield 206, 3) := by decide +kernel
theorem d_Md_assemble_4 : decode b_Md_assemble 4 = .ok (.ifCond .le 14, 3) := by decide +kernel
theorem d_Md_assemble_7 : decode b_Md_assemble 7 = .ok (.aload_n 0, 1) := by decide +kernel
theorem d_Md_assemble_8 : decode b_Md_assemble 8 = .ok (.getfield 97, 3) := by decide +kernel
theorem d_Md_assemble_11 : decode b_Md_assemble 11 = .ok (.ifCond .ne 7, 3) := by decide +kernel
theorem d_Md_assemble_14 : decode b_Md_assemble 14 = .ok (.iconst 1, 1) := by decide +kernel
theorem d_Md_assemble_15 : decode b_Md_assemble 15 = .ok (.goto 4, 3) := by decide +kernel
theorem d_Md_assemble_18 : decode b_Md_assemble 18 = .ok (.iconst 0, 1) := by decide +kernel
theorem d_Md_assemble_19 : decode b_Md_assemble 19 = .ok (.istore_n 1, 1) := by decide +kernel
theorem d_Md_assemble_20 : decode b_Md_assemble 20 = .ok (.iconst 0, 1) := by decide +kernel
theorem d_Md_assemble_21 : decode b_Md_assemble 21 = .ok (.istore_n 2, 1) := by decide +kernel
theorem d_Md_assemble_22 : decode b_Md_assemble 22 = .ok (.iload_n 2, 1) := by decide +kernel
theorem d_Md_assemble_23 : decode b_Md_assemble 23 = .ok (.aload_n 0, 1) := by decide +kernel
theorem d_Md_assemble_24 : decode b_Md_assemble 24 = .ok (.getfield 206, 3) := by decide +kernel
theorem d_Md_assemble_27 : decode b_Md_assemble 27 = .ok (.if_icmp .ge 42, 3) := by decide +kernel
theorem d_Md_assemble_30 : decode b_Md_assemble 30 = .ok (.iload_n 1, 1) := by decide +kernel
theorem d_Md_assemble_31 : decode b_Md_assemble 31 = .ok (.ifCond .eq 30, 3) := by decide +kernel
theorem d_Md_assemble_34 : decode b_Md_assemble 34 = .ok (.aload_n 0, 1) := by decide +kernel
theorem d_Md_assemble_35 : decode b_Md_assemble 35 = .ok (.getfield 33, 3) := by decide +kernel
theorem d_Md_assemble_38 : decode b_Md_assemble 38 = .ok (.iload_n 2, 1) := by decide +kernel
theorem d_Md_assemble_39 : decode b_Md_assemble 39 = .ok (.iaload, 1) := by decide +kernel
theorem d_Md_assemble_40 : decode b_Md_assemble 40 = .ok (.iconst 4, 1) := by decide +kernel
theorem d_Md_assemble_41 : decode b_Md_assemble 41 = .ok (.if_icmp .ne 16, 3) := by decide +kernel
theorem d_Md_assemble_44 : decode b_Md_assemble 44 = .ok (.aload_n 0, 1) := by decide +kernel
theorem d_Md_assemble_45 : decode b_Md_assemble 45 = .ok (.getfield 45, 3) := by decide +kernel
theorem d_Md_assemble_48 : decode b_Md_assemble 48 = .ok (.iload_n 2, 1) := by decide +kernel
theorem d_Md_assemble_49 : decode b_Md_assemble 49 = .ok (.iaload, 1) := by decide +kernel
theorem d_Md_assemble_50 : decode b_Md_assemble 50 = .ok (.aload_n 0, 1) := by decide +kernel
theorem d_Md_assemble_51 : decode b_Md_assemble 51 = .ok (.getfield 206, 3) := by decide +kernel
theorem d_Md_assemble_54 : decode b_Md_assemble 54 = .ok (.if_icmp .ge 7, 3) := by decide +kernel
theorem d_Md_assemble_57 : decode b_Md_assemble 57 = .ok (.iconst 1, 1) := by decide +kernel
theorem d_Md_assemble_58 : decode b_Md_assemble 58 = .ok (.goto 4, 3) := by decide +kernel
theorem d_Md_assemble_61 : decode b_Md_assemble 61 = .ok (.iconst 0, 1) := by decide +kernel
theorem d_Md_assemble_62 : decode b_Md_assemble 62 = .ok (.istore_n 1, 1) := by decide +kernel
theorem d_Md_assemble_63 : decode b_Md_assemble 63 = .ok (.iinc 2 1, 3) := by decide +kernel
theorem d_Md_assemble_66 : decode b_Md_assemble 66 = .ok (.goto (-44), 3) := by decide +kernel
theorem d_Md_assemble_69 : decode b_Md_assemble 69 = .ok (.iload_n 1, 1) := by decide +kernel
theorem d_Md_assemble_70 : decode b_Md_assemble 70 = .ok (.ifCond .ne 5, 3) := by decide +kernel
theorem d_Md_assemble_73 : decode b_Md_assemble 73 = .ok (.iconst (-1), 1) := by decide +kernel
theorem d_Md_assemble_74 : decode b_Md_assemble 74 = .ok (.ireturn, 1) := by decide +kernel
theorem d_Md_assemble_75 : decode b_Md_assemble 75 = .ok (.aload_n 0, 1) := by decide +kernel
theorem d_Md_assemble_76 : decode b_Md_assemble 76 = .ok (.invokevirtual 230, 3) := by decide +kernel
theorem d_Md_assemble_79 : decode b_Md_assemble 79 = .ok (.aload_n 0, 1) := by decide +kernel
theorem d_Md_assemble_80 : decode b_Md_assemble 80 = .ok (.getfield 209, 3) := by decide +kernel
theorem d_Md_assemble_83 : decode b_Md_assemble 83 = .ok (.bipush 64, 2) := by decide +kernel
theorem d_Md_assemble_85 : decode b_Md_assemble 85 = .ok (.if_icmp .gt 10, 3) := by decide +kernel
theorem d_Md_assemble_88 : decode b_Md_assemble 88 = .ok (.aload_n 0, 1) := by decide +kernel
theorem d_Md_assemble_89 : decode b_Md_assemble 89 = .ok (.invokevirtual 233, 3) := by decide +kernel
theorem d_Md_assemble_92 : decode b_Md_assemble 92 = .ok (.ifCond .ne 5, 3) := by decide +kernel
theorem d_Md_assemble_95 : decode b_Md_assemble 95 = .ok (.iconst (-1), 1) := by decide +kernel
theorem d_Md_assemble_96 : decode b_Md_assemble 96 = .ok (.ireturn, 1) := by decide +kernel
theorem d_Md_assemble_97 : decode b_Md_assemble 97 = .ok (.iconst 0, 1) := by decide +kernel
theorem d_Md_assemble_98 : decode b_Md_assemble 98 = .ok (.istore_n 2, 1) := by decide +kernel
theorem d_Md_assemble_99 : decode b_Md_assemble 99 = .ok (.iload_n 2, 1) := by decide +kernel
theorem d_Md_assemble_100 : decode b_Md_assemble 100 = .ok (.bipush 64, 2) := by decide +kernel
theorem d_Md_assemble_102 : decode b_Md_assemble 102 = .ok (.if_icmp .ge 17, 3) := by decide +kernel
theorem d_Md_assemble_105 : decode b_Md_assemble 105 = .ok (.aload_n 0, 1) := by decide +kernel
theorem d_Md_assemble_106 : decode b_Md_assemble 106 = .ok (.getfield 7, 3) := by decide +kernel
theorem d_Md_assemble_109 : decode b_Md_assemble 109 = .ok (.iload_n 2, 1) := by decide +kernel
theorem d_Md_assemble_110 : decode b_Md_assemble 110 = .ok (.ldc 229, 2) := by decide +kernel
theorem d_Md_assemble_112 : decode b_Md_assemble 112 = .ok (.iastore, 1) := by decide +kernel
theorem d_Md_assemble_113 : decode b_Md_assemble 113 = .ok (.iinc 2 1, 3) := by decide +kernel
theorem d_Md_assemble_116 : decode b_Md_assemble 116 = .ok (.goto (-17), 3) := by decide +kernel
theorem d_Md_assemble_119 : decode b_Md_assemble 119 = .ok (.iconst 0, 1) := by decide +kernel
theorem d_Md_assemble_120 : decode b_Md_assemble 120 = .ok (.istore_n 2, 1) := by decide +kernel
theorem d_Md_assemble_121 : decode b_Md_assemble 121 = .ok (.iload_n 2, 1) := by decide +kernel
theorem d_Md_assemble_122 : decode b_Md_assemble 122 = .ok (.aload_n 0, 1) := by decide +kernel
theorem d_Md_assemble_123 : decode b_Md_assemble 123 = .ok (.getfield 209, 3) := by decide +kernel
theorem d_Md_assemble_126 : decode b_Md_assemble 126 = .ok (.if_icmp .ge 14, 3) := by decide +kernel
theorem d_Md_assemble_129 : decode b_Md_assemble 129 = .ok (.aload_n 0, 1) := by decide +kernel
theorem d_Md_assemble_130 : decode b_Md_assemble 130 = .ok (.iload_n 2, 1) := by decide +kernel
theorem d_Md_assemble_131 : decode b_Md_assemble 131 = .ok (.invokevirtual 236, 3) := by decide +kernel
theorem d_Md_assemble_134 : decode b_Md_assemble 134 = .ok (.iinc 2 1, 3) := by decide +kernel
theorem d_Md_assemble_137 : decode b_Md_assemble 137 = .ok (.goto (-16), 3) := by decide +kernel
theorem d_Md_assemble_140 : decode b_Md_assemble 140 = .ok (.aload_n 0, 1) := by decide +kernel
theorem d_Md_assemble_141 : decode b_Md_assemble 141 = .ok (.aload_n 0, 1) := by decide +kernel
theorem d_Md_assemble_142 : decode b_Md_assemble 142 = .ok (.getfield 206, 3) := by decide +kernel
theorem d_Md_assemble_145 : decode b_Md_assemble 145 = .ok (.putfield 239, 3) := by decide +kernel
theorem d_Md_assemble_148 : decode b_Md_assemble 148 = .ok (.iconst 0, 1) := by decide +kernel
theorem d_Md_assemble_149 : decode b_Md_assemble 149 = .ok (.istore_n 2, 1) := by decide +kernel
theorem d_Md_assemble_150 : decode b_Md_assemble 150 = .ok (.iload_n 2, 1) := by decide +kernel
theorem d_Md_assemble_151 : decode b_Md_assemble 151 = .ok (.aload_n 0, 1) := by decide +kernel
theorem d_Md_assemble_152 : decode b_Md_assemble 152 = .ok (.getfield 206, 3) := by decide +kernel
theorem d_Md_assemble_155 : decode b_Md_assemble 155 = .ok (.if_icmp .ge 25, 3) := by decide +kernel
theorem d_Md_assemble_158 : decode b_Md_assemble 158 = .ok (.aload_n 0, 1) := by decide +kernel
theorem d_Md_assemble_159 : decode b_Md_assemble 159 = .ok (.getfield 76, 3) := by decide +kernel
theorem d_Md_assemble_162 : decode b_Md_assemble 162 = .ok (.iload_n 2, 1) := by decide +kernel
theorem d_Md_assemble_163 : decode b_Md_assemble 163 = .ok (.aload_n 0, 1) := by decide +kernel
theorem d_Md_assemble_164 : decode b_Md_assemble 164 = .ok (.getfield 60, 3) := by decide +kernel
theorem d_Md_assemble_167 : decode b_Md_assemble 167 = .ok (.aload_n 0, 1) := by decide +kernel
theorem d_Md_assemble_168 : decode b_Md_assemble 168 = .ok (.iload_n 2, 1) := by decide +kernel
theorem d_Md_assemble_169 : decode b_Md_assemble 169 = .ok (.invokevirtual 226, 3) := by decide +kernel
theorem d_Md_assemble_172 : decode b_Md_assemble 172 = .ok (.iaload, 1) := by decide +kernel
theorem d_Md_assemble_173 : decode b_Md_assemble 173 = .ok (.iastore, 1) := by decide +kernel
theorem d_Md_assemble_174 : decode b_Md_assemble 174 = .ok (.iinc 2 1, 3) := by decide +kernel
theorem d_Md_assemble_177 : decode b_Md_assemble 177 = .ok (.goto (-27), 3) := by decide +kernel
theorem d_Md_assemble_180 : decode b_Md_assemble 180 = .ok (.iconst 0, 1) := by decide +kernel
theorem d_Md_assemble_181 : decode b_Md_assemble 181 = .ok (.istore_n 2, 1) := by decide +kernel
theorem d_Md_assemble_182 : decode b_Md_assemble 182 = .ok (.iload_n 2, 1) := by decide +kernel
theorem d_Md_assemble_183 : decode b_Md_assemble 183 = .ok (.bipush 16, 2) := by decide +kernel
theorem d_Md_assemble_185 : decode b_Md_assemble 185 = .ok (.if_icmp .ge 21, 3) := by decide +kernel
theorem d_Md_assemble_188 : decode b_Md_assemble 188 = .ok (.aload_n 0, 1) := by decide +kernel
theorem d_Md_assemble_189 : decode b_Md_assemble 189 = .ok (.getfield 79, 3) := by decide +kernel
theorem d_Md_assemble_192 : decode b_Md_assemble 192 = .ok (.iload_n 2, 1) := by decide +kernel
theorem d_Md_assemble_193 : decode b_Md_assemble 193 = .ok (.aload_n 0, 1) := by decide +kernel
theorem d_Md_assemble_194 : decode b_Md_assemble 194 = .ok (.getfield 73, 3) := by decide +kernel
theorem d_Md_assemble_197 : decode b_Md_assemble 197 = .ok (.iload_n 2, 1) := by decide +kernel
theorem d_Md_assemble_198 : decode b_Md_assemble 198 = .ok (.iaload, 1) := by decide +kernel
theorem d_Md_assemble_199 : decode b_Md_assemble 199 = .ok (.iastore, 1) := by decide +kernel
theorem d_Md_assemble_200 : decode b_Md_assemble 200 = .ok (.iinc 2 1, 3) := by decide +kernel
theorem d_Md_assemble_203 : decode b_Md_assemble 203 = .ok (.goto (-21), 3) := by decide +kernel
theorem d_Md_assemble_206 : decode b_Md_assemble 206 = .ok (.aload_n 0, 1) := by decide +kernel
theorem d_Md_assemble_207 : decode b_Md_assemble 207 = .ok (.getfield 209, 3) := by decide +kernel
theorem d_Md_assemble_210 : decode b_Md_assemble 210 = .ok (.ireturn, 1) := by decide +kernel
theorem d_Md_placed_0 : decode b_Md_placed 0 = .ok (.iload_n 1, 1) := by decide +kernel
theorem d_Md_placed_1 : decode b_Md_placed 1 = .ok (.ifCond .lt 11, 3) := by decide +kernel
theorem d_Md_placed_4 : decode b_Md_placed 4 = .ok (.iload_n 1, 1) := by decide +kernel
theorem d_Md_placed_5 : decode b_Md_placed 5 = .ok (.aload_n 0, 1) := by decide +kernel
theorem d_Md_placed_6 : decode b_Md_placed 6 = .ok (.getfield 239, 3) := by decide +kernel
theorem d_Md_placed_9 : decode b_Md_placed 9 = .ok (.if_icmp .lt 7, 3) := by decide +kernel
theorem d_Md_placed_12 : decode b_Md_placed 12 = .ok (.iconst (-1), 1) := by decide +kernel
theorem d_Md_placed_13 : decode b_Md_placed 13 = .ok (.goto 9, 3) := by decide +kernel
theorem d_Md_placed_16 : decode b_Md_placed 16 = .ok (.aload_n 0, 1) := by decide +kernel
theorem d_Md_placed_17 : decode b_Md_placed 17 = .ok (.getfield 76, 3) := by decide +kernel
theorem d_Md_placed_20 : decode b_Md_placed 20 = .ok (.iload_n 1, 1) := by decide +kernel
theorem d_Md_placed_21 : decode b_Md_placed 21 = .ok (.iaload, 1) := by decide +kernel
theorem d_Md_placed_22 : decode b_Md_placed 22 = .ok (.ireturn, 1) := by decide +kernel
theorem d_Md_variable_0 : decode b_Md_variable 0 = .ok (.iload_n 1, 1) := by decide +kernel
theorem d_Md_variable_1 : decode b_Md_variable 1 = .ok (.ifCond .lt 9, 3) := by decide +kernel
theorem d_Md_variable_4 : decode b_Md_variable 4 = .ok (.iload_n 1, 1) := by decide +kernel
theorem d_Md_variable_5 : decode b_Md_variable 5 = .ok (.bipush 15, 2) := by decide +kernel
theorem d_Md_variable_7 : decode b_Md_variable 7 = .ok (.if_icmp .le 7, 3) := by decide +kernel
theorem d_Md_variable_10 : decode b_Md_variable 10 = .ok (.iconst (-1), 1) := by decide +kernel
theorem d_Md_variable_11 : decode b_Md_variable 11 = .ok (.goto 9, 3) := by decide +kernel
theorem d_Md_variable_14 : decode b_Md_variable 14 = .ok (.aload_n 0, 1) := by decide +kernel
theorem d_Md_variable_15 : decode b_Md_variable 15 = .ok (.getfield 79, 3) := by decide +kernel
theorem d_Md_variable_18 : decode b_Md_variable 18 = .ok (.iload_n 1, 1) := by decide +kernel
theorem d_Md_variable_19 : decode b_Md_variable 19 = .ok (.iaload, 1) := by decide +kernel
theorem d_Md_variable_20 : decode b_Md_variable 20 = .ok (.ireturn, 1) := by decide +kernel
theorem d_Mc_init_0 : decode b_Mc_init 0 = .ok (.aload_n 0, 1) := by decide +kernel
theorem d_Mc_init_1 : decode b_Mc_init 1 = .ok (.invokespecial 3, 3) := by decide +kernel
theorem d_Mc_init_4 : decode b_Mc_init 4 = .ok (.aload_n 0, 1) := by decide +kernel
theorem d_Mc_init_5 : decode b_Mc_init 5 = .ok (.aload_n 1, 1) := by decide +kernel
theorem d_Mc_init_6 : decode b_Mc_init 6 = .ok (.putfield 9, 3) := by decide +kernel
theorem d_Mc_init_9 : decode b_Mc_init 9 = .ok (.aload_n 0, 1) := by decide +kernel
theorem d_Mc_init_10 : decode b_Mc_init 10 = .ok (.aload_n 2, 1) := by decide +kernel
theorem d_Mc_init_11 : decode b_Mc_init 11 = .ok (.putfield 15, 3) := by decide +kernel
theorem d_Mc_init_14 : decode b_Mc_init 14 = .ok (.aload_n 0, 1) := by decide +kernel
theorem d_Mc_init_15 : decode b_Mc_init 15 = .ok (.aload_n 3, 1) := by decide +kernel
theorem d_Mc_init_16 : decode b_Mc_init 16 = .ok (.putfield 19, 3) := by decide +kernel
theorem d_Mc_init_19 : decode b_Mc_init 19 = .ok (.aload_n 0, 1) := by decide +kernel
theorem d_Mc_init_20 : decode b_Mc_init 20 = .ok (.new 23, 3) := by decide +kernel
theorem d_Mc_init_23 : decode b_Mc_init 23 = .ok (.dup, 1) := by decide +kernel
theorem d_Mc_init_24 : decode b_Mc_init 24 = .ok (.invokespecial 25, 3) := by decide +kernel
theorem d_Mc_init_27 : decode b_Mc_init 27 = .ok (.putfield 26, 3) := by decide +kernel
theorem d_Mc_init_30 : decode b_Mc_init 30 = .ok (.aload_n 0, 1) := by decide +kernel
theorem d_Mc_init_31 : decode b_Mc_init 31 = .ok (.new 30, 3) := by decide +kernel
theorem d_Mc_init_34 : decode b_Mc_init 34 = .ok (.dup, 1) := by decide +kernel
theorem d_Mc_init_35 : decode b_Mc_init 35 = .ok (.invokespecial 32, 3) := by decide +kernel
theorem d_Mc_init_38 : decode b_Mc_init 38 = .ok (.putfield 33, 3) := by decide +kernel
theorem d_Mc_init_41 : decode b_Mc_init 41 = .ok (.aload_n 0, 1) := by decide +kernel
theorem d_Mc_init_42 : decode b_Mc_init 42 = .ok (.new 30, 3) := by decide +kernel
theorem d_Mc_init_45 : decode b_Mc_init 45 = .ok (.dup, 1) := by decide +kernel
theorem d_Mc_init_46 : decode b_Mc_init 46 = .ok (.invokespecial 32, 3) := by decide +kernel
theorem d_Mc_init_49 : decode b_Mc_init 49 = .ok (.putfield 37, 3) := by decide +kernel
theorem d_Mc_init_52 : decode b_Mc_init 52 = .ok (.aload_n 0, 1) := by decide +kernel
theorem d_Mc_init_53 : decode b_Mc_init 53 = .ok (.iconst (-1), 1) := by decide +kernel
theorem d_Mc_init_54 : decode b_Mc_init 54 = .ok (.putfield 40, 3) := by decide +kernel
theorem d_Mc_init_57 : decode b_Mc_init 57 = .ok (.aload_n 0, 1) := by decide +kernel
theorem d_Mc_init_58 : decode b_Mc_init 58 = .ok (.iconst (-1), 1) := by decide +kernel
theorem d_Mc_init_59 : decode b_Mc_init 59 = .ok (.putfield 44, 3) := by decide +kernel
theorem d_Mc_init_62 : decode b_Mc_init 62 = .ok (.return_, 1) := by decide +kernel
theorem d_Mc_begin_0 : decode b_Mc_begin 0 = .ok (.aload_n 0, 1) := by decide +kernel
theorem d_Mc_begin_1 : decode b_Mc_begin 1 = .ok (.iconst 1, 1) := by decide +kernel
theorem d_Mc_begin_2 : decode b_Mc_begin 2 = .ok (.putfield 47, 3) := by decide +kernel
theorem d_Mc_begin_5 : decode b_Mc_begin 5 = .ok (.aload_n 0, 1) := by decide +kernel
theorem d_Mc_begin_6 : decode b_Mc_begin 6 = .ok (.iconst 0, 1) := by decide +kernel
theorem d_Mc_begin_7 : decode b_Mc_begin 7 = .ok (.putfield 51, 3) := by decide +kernel
theorem d_Mc_begin_10 : decode b_Mc_begin 10 = .ok (.aload_n 0, 1) := by decide +kernel
theorem d_Mc_begin_11 : decode b_Mc_begin 11 = .ok (.iload_n 1, 1) := by decide +kernel
theorem d_Mc_begin_12 : decode b_Mc_begin 12 = .ok (.putfield 54, 3) := by decide +kernel
theorem d_Mc_begin_15 : decode b_Mc_begin 15 = .ok (.aload_n 0, 1) := by decide +kernel
theorem d_Mc_begin_16 : decode b_Mc_begin 16 = .ok (.aload_n 0, 1) := by decide +kernel
theorem d_Mc_begin_17 : decode b_Mc_begin 17 = .ok (.getfield 57, 3) := by decide +kernel
theorem d_Mc_begin_20 : decode b_Mc_begin 20 = .ok (.iload_n 2, 1) := by decide +kernel
theorem d_Mc_begin_21 : decode b_Mc_begin 21 = .ok (.aload_n 0, 1) := by decide +kernel
theorem d_Mc_begin_22 : decode b_Mc_begin 22 = .ok (.getfield 57, 3) := by decide +kernel
theorem d_Mc_begin_25 : decode b_Mc_begin 25 = .ok (.isub, 1) := by decide +kernel
theorem d_Mc_begin_26 : decode b_Mc_begin 26 = .ok (.bipush 31, 2) := by decide +kernel
theorem d_Mc_begin_28 : decode b_Mc_begin 28 = .ok (.iand, 1) := by decide +kernel
theorem d_Mc_begin_29 : decode b_Mc_begin 29 = .ok (.iadd, 1) := by decide +kernel
theorem d_Mc_begin_30 : decode b_Mc_begin 30 = .ok (.putfield 60, 3) := by decide +kernel
theorem d_Mc_begin_33 : decode b_Mc_begin 33 = .ok (.aload_n 0, 1) := by decide +kernel
theorem d_Mc_begin_34 : decode b_Mc_begin 34 = .ok (.iconst (-1), 1) := by decide +kernel
theorem d_Mc_begin_35 : decode b_Mc_begin 35 = .ok (.putfield 40, 3) := by decide +kernel
theorem d_Mc_begin_38 : decode b_Mc_begin 38 = .ok (.aload_n 0, 1) := by decide +kernel
theorem d_Mc_begin_39 : decode b_Mc_begin 39 = .ok (.iconst (-1), 1) := by decide +kernel
theorem d_Mc_begin_40 : decode b_Mc_begin 40 = .ok (.putfield 44, 3) := by decide +kernel
theorem d_Mc_begin_43 : decode b_Mc_begin 43 = .ok (.aload_n 0, 1) := by decide +kernel
theorem d_Mc_begin_44 : decode b_Mc_begin 44 = .ok (.iconst 0, 1) := by decide +kernel
theorem d_Mc_begin_45 : decode b_Mc_begin 45 = .ok (.putfield 63, 3) := by decide +kernel
theorem d_Mc_begin_48 : decode b_Mc_begin 48 = .ok (.aload_n 0, 1) := by decide +kernel
theorem d_Mc_begin_49 : decode b_Mc_begin 49 = .ok (.getfield 33, 3) := by decide +kernel
theorem d_Mc_begin_52 : decode b_Mc_begin 52 = .ok (.invokevirtual 66, 3) := by decide +kernel
theorem d_Mc_begin_55 : decode b_Mc_begin 55 = .ok (.aload_n 0, 1) := by decide +kernel
theorem d_Mc_begin_56 : decode b_Mc_begin 56 = .ok (.getfield 37, 3) := by decide +kernel
theorem d_Mc_begin_59 : decode b_Mc_begin 59 = .ok (.invokevirtual 66, 3) := by decide +kernel
theorem d_Mc_begin_62 : decode b_Mc_begin 62 = .ok (.aload_n 0, 1) := by decide +kernel
theorem d_Mc_begin_63 : decode b_Mc_begin 63 = .ok (.getfield 26, 3) := by decide +kernel
theorem d_Mc_begin_66 : decode b_Mc_begin 66 = .ok (.invokevirtual 69, 3) := by decide +kernel
theorem d_Mc_begin_69 : decode b_Mc_begin 69 = .ok (.aload_n 0, 1) := by decide +kernel
theorem d_Mc_begin_70 : decode b_Mc_begin 70 = .ok (.getfield 15, 3) := by decide +kernel
theorem d_Mc_begin_73 : decode b_Mc_begin 73 = .ok (.invokevirtual 72, 3) := by decide +kernel
theorem d_Mc_begin_76 : decode b_Mc_begin 76 = .ok (.return_, 1) := by decide +kernel
theorem d_Mc_goThroughCycle_0 : decode b_Mc_goThroughCycle 0 = .ok (.aload_n 0, 1) := by decide +kernel
theorem d_Mc_goThroughCycle_1 : decode b_Mc_goThroughCycle 1 = .ok (.getfield 57, 3) := by decide +kernel
theorem d_Mc_goThroughCycle_4 : decode b_Mc_goThroughCycle 4 = .ok (.aload_n 0, 1) := by decide +kernel
theorem d_Mc_goThroughCycle_5 : decode b_Mc_goThroughCycle 5 = .ok (.getfield 60, 3) := by decide +kernel
theorem d_Mc_goThroughCycle_8 : decode b_Mc_goThroughCycle 8 = .ok (.if_icmp .ne 7, 3) := by decide +kernel
theorem d_Mc_goThroughCycle_11 : decode b_Mc_goThroughCycle 11 = .ok (.aload_n 0, 1) := by decide +kernel
theorem d_Mc_goThroughCycle_12 : decode b_Mc_goThroughCycle 12 = .ok (.invokevirtual 75, 3) := by decide +kernel
theorem d_Mc_goThroughCycle_15 : decode b_Mc_goThroughCycle 15 = .ok (.aload_n 0, 1) := by decide +kernel
theorem d_Mc_goThroughCycle_16 : decode b_Mc_goThroughCycle 16 = .ok (.getfield 37, 3) := by decide +kernel
theorem d_Mc_goThroughCycle_19 : decode b_Mc_goThroughCycle 19 = .ok (.aload_n 0, 1) := by decide +kernel
theorem d_Mc_goThroughCycle_20 : decode b_Mc_goThroughCycle 20 = .ok (.getfield 57, 3) := by decide +kernel
theorem d_Mc_goThroughCycle_23 : decode b_Mc_goThroughCycle 23 = .ok (.invokevirtual 78, 3) := by decide +kernel
theorem d_Mc_goThroughCycle_26 : decode b_Mc_goThroughCycle 26 = .ok (.ifCond .eq 14, 3) := by decide +kernel
theorem d_Mc_goThroughCycle_29 : decode b_Mc_goThroughCycle 29 = .ok (.aload_n 0, 1) := by decide +kernel
theorem d_Mc_goThroughCycle_30 : decode b_Mc_goThroughCycle 30 = .ok (.aload_n 0, 1) := by decide +kernel
theorem d_Mc_goThroughCycle_31 : decode b_Mc_goThroughCycle 31 = .ok (.getfield 37, 3) := by decide +kernel
theorem d_Mc_goThroughCycle_34 : decode b_Mc_goThroughCycle 34 = .ok (.invokevirtual 82, 3) := by decide +kernel
theorem d_Mc_goThroughCycle_37 : decode b_Mc_goThroughCycle 37 = .ok (.goto 25, 3) := by decide +kernel
theorem d_Mc_goThroughCycle_40 : decode b_Mc_goThroughCycle 40 = .ok (.aload_n 0, 1) := by decide +kernel
theorem d_Mc_goThroughCycle_41 : decode b_Mc_goThroughCycle 41 = .ok (.getfield 33, 3) := by decide +kernel
theorem d_Mc_goThroughCycle_44 : decode b_Mc_goThroughCycle 44 = .ok (.aload_n 0, 1) := by decide +kernel
theorem d_Mc_goThroughCycle_45 : decode b_Mc_goThroughCycle 45 = .ok (.getfield 57, 3) := by decide +kernel
theorem d_Mc_goThroughCycle_48 : decode b_Mc_goThroughCycle 48 = .ok (.invokevirtual 78, 3) := by decide +kernel
theorem d_Mc_goThroughCycle_51 : decode b_Mc_goThroughCycle 51 = .ok (.ifCond .eq 11, 3) := by decide +kernel
theorem d_Mc_goThroughCycle_54 : decode b_Mc_goThroughCycle 54 = .ok (.aload_n 0, 1) := by decide +kernel
theorem d_Mc_goThroughCycle_55 : decode b_Mc_goThroughCycle 55 = .ok (.aload_n 0, 1) := by decide +kernel
theorem d_Mc_goThroughCycle_56 : decode b_Mc_goThroughCycle 56 = .ok (.getfield 33, 3) := by decide +kernel
theorem d_Mc_goThroughCycle_59 : decode b_Mc_goThroughCycle 59 = .ok (.invokevirtual 82, 3) := by decide +kernel
theorem d_Mc_goThroughCycle_62 : decode b_Mc_goThroughCycle 62 = .ok (.aload_n 0, 1) := by decide +kernel
theorem d_Mc_goThroughCycle_63 : decode b_Mc_goThroughCycle 63 = .ok (.getfield 26, 3) := by decide +kernel
theorem d_Mc_goThroughCycle_66 : decode b_Mc_goThroughCycle 66 = .ok (.aload_n 0, 1) := by decide +kernel
theorem d_Mc_goThroughCycle_67 : decode b_Mc_goThroughCycle 67 = .ok (.getfield 9, 3) := by decide +kernel
theorem d_Mc_goThroughCycle_70 : decode b_Mc_goThroughCycle 70 = .ok (.invokevirtual 86, 3) := by decide +kernel
theorem d_Mc_goThroughCycle_73 : decode b_Mc_goThroughCycle 73 = .ok (.aload_n 0, 1) := by decide +kernel
theorem d_Mc_goThroughCycle_74 : decode b_Mc_goThroughCycle 74 = .ok (.getfield 15, 3) := by decide +kernel
theorem d_Mc_goThroughCycle_77 : decode b_Mc_goThroughCycle 77 = .ok (.aload_n 0, 1) := by decide +kernel
theorem d_Mc_goThroughCycle_78 : decode b_Mc_goThroughCycle 78 = .ok (.getfield 57, 3) := by decide +kernel
theorem d_Mc_goThroughCycle_81 : decode b_Mc_goThroughCycle 81 = .ok (.invokevirtual 90, 3) := by decide +kernel
theorem d_Mc_goThroughCycle_84 : decode b_Mc_goThroughCycle 84 = .ok (.ifCond .eq 8, 3) := by decide +kernel
theorem d_Mc_goThroughCycle_87 : decode b_Mc_goThroughCycle 87 = .ok (.aload_n 0, 1) := by decide +kernel
theorem d_Mc_goThroughCycle_88 : decode b_Mc_goThroughCycle 88 = .ok (.iconst 1, 1) := by decide +kernel
theorem d_Mc_goThroughCycle_89 : decode b_Mc_goThroughCycle 89 = .ok (.invokevirtual 92, 3) := by decide +kernel
theorem d_Mc_goThroughCycle_92 : decode b_Mc_goThroughCycle 92 = .ok (.aload_n 0, 1) := by decide +kernel
theorem d_Mc_goThroughCycle_93 : decode b_Mc_goThroughCycle 93 = .ok (.dup, 1) := by decide +kernel
theorem d_Mc_goThroughCycle_94 : decode b_Mc_goThroughCycle 94 = .ok (.getfield 57, 3) := by decide +kernel
theorem d_Mc_goThroughCycle_97 : decode b_Mc_goThroughCycle 97 = .ok (.iconst 1, 1) := by decide +kernel
theorem d_Mc_goThroughCycle_98 : decode b_Mc_goThroughCycle 98 = .ok (.iadd, 1) := by decide +kernel
theorem d_Mc_goThroughCycle_99 : decode b_Mc_goThroughCycle 99 = .ok (.putfield 57, 3) := by decide +kernel
theorem d_Mc_goThroughCycle_102 : decode b_Mc_goThroughCycle 102 = .ok (.return_, 1) := by decide +kernel
theorem d_Mc_takeOrder_0 : decode b_Mc_takeOrder 0 = .ok (.aload_n 0, 1) := by decide +kernel
theorem d_Mc_takeOrder_1 : decode b_Mc_takeOrder 1 = .ok (.aload_n 0, 1) := by decide +kernel
theorem d_Mc_takeOrder_2 : decode b_Mc_takeOrder 2 = .ok (.getfield 54, 3) := by decide +kernel
theorem d_Mc_takeOrder_5 : decode b_Mc_takeOrder 5 = .ok (.putfield 40, 3) := by decide +kernel
theorem d_Mc_takeOrder_8 : decode b_Mc_takeOrder 8 = .ok (.aload_n 0, 1) := by decide +kernel
theorem d_Mc_takeOrder_9 : decode b_Mc_takeOrder 9 = .ok (.aload_n 0, 1) := by decide +kernel
theorem d_Mc_takeOrder_10 : decode b_Mc_takeOrder 10 = .ok (.getfield 57, 3) := by decide +kernel
theorem d_Mc_takeOrder_13 : decode b_Mc_takeOrder 13 = .ok (.bipush 31, 2) := by decide +kernel
theorem d_Mc_takeOrder_15 : decode b_Mc_takeOrder 15 = .ok (.iand, 1) := by decide +kernel
theorem d_Mc_takeOrder_16 : decode b_Mc_takeOrder 16 = .ok (.putfield 44, 3) := by decide +kernel
theorem d_Mc_takeOrder_19 : decode b_Mc_takeOrder 19 = .ok (.aload_n 0, 1) := by decide +kernel
theorem d_Mc_takeOrder_20 : decode b_Mc_takeOrder 20 = .ok (.dup, 1) := by decide +kernel
theorem d_Mc_takeOrder_21 : decode b_Mc_takeOrder 21 = .ok (.getfield 63, 3) := by decide +kernel
theorem d_Mc_takeOrder_24 : decode b_Mc_takeOrder 24 = .ok (.iconst 1, 1) := by decide +kernel
theorem d_Mc_takeOrder_25 : decode b_Mc_takeOrder 25 = .ok (.iadd, 1) := by decide +kernel
theorem d_Mc_takeOrder_26 : decode b_Mc_takeOrder 26 = .ok (.putfield 63, 3) := by decide +kernel
theorem d_Mc_takeOrder_29 : decode b_Mc_takeOrder 29 = .ok (.aload_n 0, 1) := by decide +kernel
theorem d_Mc_takeOrder_30 : decode b_Mc_takeOrder 30 = .ok (.getfield 9, 3) := by decide +kernel
theorem d_Mc_takeOrder_33 : decode b_Mc_takeOrder 33 = .ok (.getfield 96, 3) := by decide +kernel
theorem d_Mc_takeOrder_36 : decode b_Mc_takeOrder 36 = .ok (.aload_n 0, 1) := by decide +kernel
theorem d_Mc_takeOrder_37 : decode b_Mc_takeOrder 37 = .ok (.getfield 40, 3) := by decide +kernel
theorem d_Mc_takeOrder_40 : decode b_Mc_takeOrder 40 = .ok (.bipush 32, 2) := by decide +kernel
theorem d_Mc_takeOrder_42 : decode b_Mc_takeOrder 42 = .ok (.imul, 1) := by decide +kernel
theorem d_Mc_takeOrder_43 : decode b_Mc_takeOrder 43 = .ok (.aload_n 0, 1) := by decide +kernel
theorem d_Mc_takeOrder_44 : decode b_Mc_takeOrder 44 = .ok (.getfield 44, 3) := by decide +kernel
theorem d_Mc_takeOrder_47 : decode b_Mc_takeOrder 47 = .ok (.iadd, 1) := by decide +kernel
theorem d_Mc_takeOrder_48 : decode b_Mc_takeOrder 48 = .ok (.iaload, 1) := by decide +kernel
theorem d_Mc_takeOrder_49 : decode b_Mc_takeOrder 49 = .ok (.istore_n 1, 1) := by decide +kernel
theorem d_Mc_takeOrder_50 : decode b_Mc_takeOrder 50 = .ok (.aload_n 0, 1) := by decide +kernel
theorem d_Mc_takeOrder_51 : decode b_Mc_takeOrder 51 = .ok (.getfield 37, 3) := by decide +kernel
theorem d_Mc_takeOrder_54 : decode b_Mc_takeOrder 54 = .ok (.astore_n 2, 1) := by decide +kernel
theorem d_Mc_takeOrder_55 : decode b_Mc_takeOrder 55 = .ok (.aload_n 0, 1) := by decide +kernel
theorem d_Mc_takeOrder_56 : decode b_Mc_takeOrder 56 = .ok (.aload_n 0, 1) := by decide +kernel
theorem d_Mc_takeOrder_57 : decode b_Mc_takeOrder 57 = .ok (.getfield 33, 3) := by decide +kernel
theorem d_Mc_takeOrder_60 : decode b_Mc_takeOrder 60 = .ok (.putfield 37, 3) := by decide +kernel
theorem d_Mc_takeOrder_63 : decode b_Mc_takeOrder 63 = .ok (.aload_n 0, 1) := by decide +kernel
theorem d_Mc_takeOrder_64 : decode b_Mc_takeOrder 64 = .ok (.aload_n 2, 1) := by decide +kernel
theorem d_Mc_takeOrder_65 : decode b_Mc_takeOrder 65 = .ok (.putfield 33, 3) := by decide +kernel
theorem d_Mc_takeOrder_68 : decode b_Mc_takeOrder 68 = .ok (.aload_n 0, 1) := by decide +kernel
theorem d_Mc_takeOrder_69 : decode b_Mc_takeOrder 69 = .ok (.getfield 33, 3) := by decide +kernel
theorem d_Mc_takeOrder_72 : decode b_Mc_takeOrder 72 = .ok (.iload_n 1, 1) := by decide +kernel
theorem d_Mc_takeOrder_73 : decode b_Mc_takeOrder 73 = .ok (.aload_n 0, 1) := by decide +kernel
theorem d_Mc_takeOrder_74 : decode b_Mc_takeOrder 74 = .ok (.getfield 57, 3) := by decide +kernel
theorem d_Mc_takeOrder_77 : decode b_Mc_takeOrder 77 = .ok (.invokevirtual 102, 3) := by decide +kernel
theorem d_Mc_takeOrder_80 : decode b_Mc_takeOrder 80 = .ok (.aload_n 0, 1) := by decide +kernel
theorem d_Mc_takeOrder_81 : decode b_Mc_takeOrder 81 = .ok (.iload_n 1, 1) := by decide +kernel
theorem d_Mc_takeOrder_82 : decode b_Mc_takeOrder 82 = .ok (.bipush 20, 2) := by decide +kernel
theorem d_Mc_takeOrder_84 : decode b_Mc_takeOrder 84 = .ok (.ishr, 1) := by decide +kernel
theorem d_Mc_takeOrder_85 : decode b_Mc_takeOrder 85 = .ok (.iconst 1, 1) := by decide +kernel
theorem d_Mc_takeOrder_86 : decode b_Mc_takeOrder 86 = .ok (.iand, 1) := by decide +kernel
theorem d_Mc_takeOrder_87 : decode b_Mc_takeOrder 87 = .ok (.putfield 54, 3) := by decide +kernel
theorem d_Mc_takeOrder_90 : decode b_Mc_takeOrder 90 = .ok (.aload_n 0, 1) := by decide +kernel
theorem d_Mc_takeOrder_91 : decode b_Mc_takeOrder 91 = .ok (.aload_n 0, 1) := by decide +kernel
theorem d_Mc_takeOrder_92 : decode b_Mc_takeOrder 92 = .ok (.getfield 33, 3) := by decide +kernel
theorem d_Mc_takeOrder_95 : decode b_Mc_takeOrder 95 = .ok (.getfield 106, 3) := by decide +kernel
theorem d_Mc_takeOrder_98 : decode b_Mc_takeOrder 98 = .ok (.putfield 60, 3) := by decide +kernel
theorem d_Mc_takeOrder_101 : decode b_Mc_takeOrder 101 = .ok (.return_, 1) := by decide +kernel
theorem d_Mc_stopBy_0 : decode b_Mc_stopBy 0 = .ok (.aload_n 0, 1) := by decide +kernel
theorem d_Mc_stopBy_1 : decode b_Mc_stopBy 1 = .ok (.iconst 0, 1) := by decide +kernel
theorem d_Mc_stopBy_2 : decode b_Mc_stopBy 2 = .ok (.putfield 47, 3) := by decide +kernel
theorem d_Mc_stopBy_5 : decode b_Mc_stopBy 5 = .ok (.aload_n 0, 1) := by decide +kernel
theorem d_Mc_stopBy_6 : decode b_Mc_stopBy 6 = .ok (.getfield 51, 3) := by decide +kernel
theorem d_Mc_stopBy_9 : decode b_Mc_stopBy 9 = .ok (.ifCond .ne 8, 3) := by decide +kernel
theorem d_Mc_stopBy_12 : decode b_Mc_stopBy 12 = .ok (.aload_n 0, 1) := by decide +kernel
theorem d_Mc_stopBy_13 : decode b_Mc_stopBy 13 = .ok (.iload_n 1, 1) := by decide +kernel
theorem d_Mc_stopBy_14 : decode b_Mc_stopBy 14 = .ok (.putfield 51, 3) := by decide +kernel
theorem d_Mc_stopBy_17 : decode b_Mc_stopBy 17 = .ok (.return_, 1) := by decide +kernel
theorem d_Mc_move_0 : decode b_Mc_move 0 = .ok (.aload_n 0, 1) := by decide +kernel
theorem d_Mc_move_1 : decode b_Mc_move 1 = .ok (.aload_n 1, 1) := by decide +kernel
theorem d_Mc_move_2 : decode b_Mc_move 2 = .ok (.getfield 109, 3) := by decide +kernel
theorem d_Mc_move_5 : decode b_Mc_move 5 = .ok (.invokevirtual 112, 3) := by decide +kernel
theorem d_Mc_move_8 : decode b_Mc_move 8 = .ok (.istore_n 2, 1) := by decide +kernel
theorem d_Mc_move_9 : decode b_Mc_move 9 = .ok (.aload_n 1, 1) := by decide +kernel
theorem d_Mc_move_10 : decode b_Mc_move 10 = .ok (.getfield 116, 3) := by decide +kernel
