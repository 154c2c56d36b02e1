theorem dX6_readSession_33 : decode cX6_readSession 33 = .ok (.iconst 2, 1) := by decide +kernel
theorem dX6_readSession_34 : decode cX6_readSession 34 = .ok (.iconst 1, 1) := by decide +kernel
theorem dX6_readSession_35 : decode cX6_readSession 35 = .ok (.bipush 16, 2) := by decide +kernel
theorem dX6_readSession_37 : decode cX6_readSession 37 = .ok (.invokevirtual 167, 3) := by decide +kernel
theorem dX6_readSession_40 : decode cX6_readSession 40 = .ok (.istore 5, 2) := by decide +kernel
theorem dX6_readSession_42 : decode cX6_readSession 42 = .ok (.aload_n 0, 1) := by decide +kernel
theorem dX6_readSession_43 : decode cX6_readSession 43 = .ok (.iload 5, 2) := by decide +kernel
theorem dX6_readSession_45 : decode cX6_readSession 45 = .ok (.iconst 1, 1) := by decide +kernel
theorem dX6_readSession_46 : decode cX6_readSession 46 = .ok (.iconst 1, 1) := by decide +kernel
theorem dX6_readSession_47 : decode cX6_readSession 47 = .ok (.bipush 9, 2) := by decide +kernel
theorem dX6_readSession_49 : decode cX6_readSession 49 = .ok (.invokevirtual 167, 3) := by decide +kernel
theorem dX6_readSession_52 : decode cX6_readSession 52 = .ok (.istore 6, 2) := by decide +kernel
theorem dX6_readSession_54 : decode cX6_readSession 54 = .ok (.iload 6, 2) := by decide +kernel
theorem dX6_readSession_56 : decode cX6_readSession 56 = .ok (.iconst (-1), 1) := by decide +kernel
theorem dX6_readSession_57 : decode cX6_readSession 57 = .ok (.if_icmp .ne 5, 3) := by decide +kernel
theorem dX6_readSession_60 : decode cX6_readSession 60 = .ok (.iconst 0, 1) := by decide +kernel
theorem dX6_readSession_61 : decode cX6_readSession 61 = .ok (.ireturn, 1) := by decide +kernel
theorem dX6_readSession_62 : decode cX6_readSession 62 = .ok (.aload_n 0, 1) := by decide +kernel
theorem dX6_readSession_63 : decode cX6_readSession 63 = .ok (.aload_n 1, 1) := by decide +kernel
theorem dX6_readSession_64 : decode cX6_readSession 64 = .ok (.iload_n 2, 1) := by decide +kernel
theorem dX6_readSession_65 : decode cX6_readSession 65 = .ok (.iload_n 3, 1) := by decide +kernel
theorem dX6_readSession_66 : decode cX6_readSession 66 = .ok (.iload 4, 2) := by decide +kernel
theorem dX6_readSession_68 : decode cX6_readSession 68 = .ok (.iload 5, 2) := by decide +kernel
theorem dX6_readSession_70 : decode cX6_readSession 70 = .ok (.iload 6, 2) := by decide +kernel
theorem dX6_readSession_72 : decode cX6_readSession 72 = .ok (.invokestatic 171, 3) := by decide +kernel
theorem dX6_readSession_75 : decode cX6_readSession 75 = .ok (.ifCond .eq 23, 3) := by decide +kernel
theorem dX6_readSession_78 : decode cX6_readSession 78 = .ok (.aload_n 1, 1) := by decide +kernel
theorem dX6_readSession_79 : decode cX6_readSession 79 = .ok (.iload_n 2, 1) := by decide +kernel
theorem dX6_readSession_80 : decode cX6_readSession 80 = .ok (.iload_n 3, 1) := by decide +kernel
theorem dX6_readSession_81 : decode cX6_readSession 81 = .ok (.iload 4, 2) := by decide +kernel
theorem dX6_readSession_83 : decode cX6_readSession 83 = .ok (.iload 5, 2) := by decide +kernel
theorem dX6_readSession_85 : decode cX6_readSession 85 = .ok (.iload 6, 2) := by decide +kernel
theorem dX6_readSession_87 : decode cX6_readSession 87 = .ok (.iconst (-1), 1) := by decide +kernel
theorem dX6_readSession_88 : decode cX6_readSession 88 = .ok (.invokestatic 121, 3) := by decide +kernel
theorem dX6_readSession_91 : decode cX6_readSession 91 = .ok (.ifCond .lt 7, 3) := by decide +kernel
theorem dX6_readSession_94 : decode cX6_readSession 94 = .ok (.iconst 1, 1) := by decide +kernel
theorem dX6_readSession_95 : decode cX6_readSession 95 = .ok (.goto 4, 3) := by decide +kernel
theorem dX6_readSession_98 : decode cX6_readSession 98 = .ok (.iconst 0, 1) := by decide +kernel
theorem dX6_readSession_99 : decode cX6_readSession 99 = .ok (.invokevirtual 175, 3) := by decide +kernel
theorem dX6_readSession_102 : decode cX6_readSession 102 = .ok (.ireturn, 1) := by decide +kernel
theorem dX6_readCommand_0 : decode cX6_readCommand 0 = .ok (.aload_n 0, 1) := by decide +kernel
theorem dX6_readCommand_1 : decode cX6_readCommand 1 = .ok (.getfield 7, 3) := by decide +kernel
theorem dX6_readCommand_4 : decode cX6_readCommand 4 = .ok (.aload_n 0, 1) := by decide +kernel
theorem dX6_readCommand_5 : decode cX6_readCommand 5 = .ok (.getfield 161, 3) := by decide +kernel
theorem dX6_readCommand_8 : decode cX6_readCommand 8 = .ok (.iaload, 1) := by decide +kernel
theorem dX6_readCommand_9 : decode cX6_readCommand 9 = .ok (.istore_n 2, 1) := by decide +kernel
theorem dX6_readCommand_10 : decode cX6_readCommand 10 = .ok (.aload_n 0, 1) := by decide +kernel
theorem dX6_readCommand_11 : decode cX6_readCommand 11 = .ok (.dup, 1) := by decide +kernel
theorem dX6_readCommand_12 : decode cX6_readCommand 12 = .ok (.getfield 161, 3) := by decide +kernel
theorem dX6_readCommand_15 : decode cX6_readCommand 15 = .ok (.iconst 1, 1) := by decide +kernel
theorem dX6_readCommand_16 : decode cX6_readCommand 16 = .ok (.iadd, 1) := by decide +kernel
theorem dX6_readCommand_17 : decode cX6_readCommand 17 = .ok (.putfield 161, 3) := by decide +kernel
theorem dX6_readCommand_20 : decode cX6_readCommand 20 = .ok (.iload_n 2, 1) := by decide +kernel
theorem dX6_readCommand_21 : decode cX6_readCommand 21 = .ok (.lookupswitch 245 #[(97, 187), (100, 204), (103, 105), (110, 51), (115, 99)], 51) := by decide +kernel
theorem dX6_readCommand_72 : decode cX6_readCommand 72 = .ok (.aload_n 0, 1) := by decide +kernel
theorem dX6_readCommand_73 : decode cX6_readCommand 73 = .ok (.iconst 0, 1) := by decide +kernel
theorem dX6_readCommand_74 : decode cX6_readCommand 74 = .ok (.iconst 2, 1) := by decide +kernel
theorem dX6_readCommand_75 : decode cX6_readCommand 75 = .ok (.iconst 1, 1) := by decide +kernel
theorem dX6_readCommand_76 : decode cX6_readCommand 76 = .ok (.bipush 20, 2) := by decide +kernel
theorem dX6_readCommand_78 : decode cX6_readCommand 78 = .ok (.invokevirtual 167, 3) := by decide +kernel
theorem dX6_readCommand_81 : decode cX6_readCommand 81 = .ok (.istore_n 3, 1) := by decide +kernel
theorem dX6_readCommand_82 : decode cX6_readCommand 82 = .ok (.iload_n 3, 1) := by decide +kernel
theorem dX6_readCommand_83 : decode cX6_readCommand 83 = .ok (.iconst (-1), 1) := by decide +kernel
theorem dX6_readCommand_84 : decode cX6_readCommand 84 = .ok (.if_icmp .eq 34, 3) := by decide +kernel
theorem dX6_readCommand_87 : decode cX6_readCommand 87 = .ok (.aload_n 0, 1) := by decide +kernel
theorem dX6_readCommand_88 : decode cX6_readCommand 88 = .ok (.aload_n 1, 1) := by decide +kernel
theorem dX6_readCommand_89 : decode cX6_readCommand 89 = .ok (.invokestatic 179, 3) := by decide +kernel
theorem dX6_readCommand_92 : decode cX6_readCommand 92 = .ok (.ifCond .eq 15, 3) := by decide +kernel
theorem dX6_readCommand_95 : decode cX6_readCommand 95 = .ok (.aload_n 1, 1) := by decide +kernel
theorem dX6_readCommand_96 : decode cX6_readCommand 96 = .ok (.iload_n 3, 1) := by decide +kernel
theorem dX6_readCommand_97 : decode cX6_readCommand 97 = .ok (.invokestatic 183, 3) := by decide +kernel
theorem dX6_readCommand_100 : decode cX6_readCommand 100 = .ok (.ifCond .lt 7, 3) := by decide +kernel
theorem dX6_readCommand_103 : decode cX6_readCommand 103 = .ok (.iconst 1, 1) := by decide +kernel
theorem dX6_readCommand_104 : decode cX6_readCommand 104 = .ok (.goto 4, 3) := by decide +kernel
theorem dX6_readCommand_107 : decode cX6_readCommand 107 = .ok (.iconst 0, 1) := by decide +kernel
theorem dX6_readCommand_108 : decode cX6_readCommand 108 = .ok (.invokevirtual 175, 3) := by decide +kernel
theorem dX6_readCommand_111 : decode cX6_readCommand 111 = .ok (.ifCond .eq 7, 3) := by decide +kernel
theorem dX6_readCommand_114 : decode cX6_readCommand 114 = .ok (.iconst 1, 1) := by decide +kernel
theorem dX6_readCommand_115 : decode cX6_readCommand 115 = .ok (.goto 4, 3) := by decide +kernel
theorem dX6_readCommand_118 : decode cX6_readCommand 118 = .ok (.iconst 0, 1) := by decide +kernel
theorem dX6_readCommand_119 : decode cX6_readCommand 119 = .ok (.ireturn, 1) := by decide +kernel
theorem dX6_readCommand_120 : decode cX6_readCommand 120 = .ok (.aload_n 0, 1) := by decide +kernel
theorem dX6_readCommand_121 : decode cX6_readCommand 121 = .ok (.aload_n 1, 1) := by decide +kernel
theorem dX6_readCommand_122 : decode cX6_readCommand 122 = .ok (.invokevirtual 186, 3) := by decide +kernel
theorem dX6_readCommand_125 : decode cX6_readCommand 125 = .ok (.ireturn, 1) := by decide +kernel
theorem dX6_readCommand_126 : decode cX6_readCommand 126 = .ok (.aload_n 0, 1) := by decide +kernel
theorem dX6_readCommand_127 : decode cX6_readCommand 127 = .ok (.iconst 0, 1) := by decide +kernel
theorem dX6_readCommand_128 : decode cX6_readCommand 128 = .ok (.iconst 2, 1) := by decide +kernel
theorem dX6_readCommand_129 : decode cX6_readCommand 129 = .ok (.iconst 0, 1) := by decide +kernel
theorem dX6_readCommand_130 : decode cX6_readCommand 130 = .ok (.bipush 15, 2) := by decide +kernel
theorem dX6_readCommand_132 : decode cX6_readCommand 132 = .ok (.invokevirtual 167, 3) := by decide +kernel
theorem dX6_readCommand_135 : decode cX6_readCommand 135 = .ok (.istore_n 3, 1) := by decide +kernel
theorem dX6_readCommand_136 : decode cX6_readCommand 136 = .ok (.aload_n 0, 1) := by decide +kernel
theorem dX6_readCommand_137 : decode cX6_readCommand 137 = .ok (.iload_n 3, 1) := by decide +kernel
theorem dX6_readCommand_138 : decode cX6_readCommand 138 = .ok (.iconst 1, 1) := by decide +kernel
theorem dX6_readCommand_139 : decode cX6_readCommand 139 = .ok (.iconst 0, 1) := by decide +kernel
theorem dX6_readCommand_140 : decode cX6_readCommand 140 = .ok (.iconst 5, 1) := by decide +kernel
theorem dX6_readCommand_141 : decode cX6_readCommand 141 = .ok (.invokevirtual 167, 3) := by decide +kernel
theorem dX6_readCommand_144 : decode cX6_readCommand 144 = .ok (.istore 4, 2) := by decide +kernel
theorem dX6_readCommand_146 : decode cX6_readCommand 146 = .ok (.iload 4, 2) := by decide +kernel
theorem dX6_readCommand_148 : decode cX6_readCommand 148 = .ok (.iconst (-1), 1) := by decide +kernel
theorem dX6_readCommand_149 : decode cX6_readCommand 149 = .ok (.if_icmp .eq 57, 3) := by decide +kernel
theorem dX6_readCommand_152 : decode cX6_readCommand 152 = .ok (.aload_n 0, 1) := by decide +kernel
theorem dX6_readCommand_153 : decode cX6_readCommand 153 = .ok (.aload_n 1, 1) := by decide +kernel
theorem dX6_readCommand_154 : decode cX6_readCommand 154 = .ok (.iload_n 3, 1) := by decide +kernel
theorem dX6_readCommand_155 : decode cX6_readCommand 155 = .ok (.invokestatic 189, 3) := by decide +kernel
theorem dX6_readCommand_158 : decode cX6_readCommand 158 = .ok (.ifCond .eq 37, 3) := by decide +kernel
theorem dX6_readCommand_161 : decode cX6_readCommand 161 = .ok (.aload_n 1, 1) := by decide +kernel
theorem dX6_readCommand_162 : decode cX6_readCommand 162 = .ok (.iload 4, 2) := by decide +kernel
theorem dX6_readCommand_164 : decode cX6_readCommand 164 = .ok (.invokestatic 193, 3) := by decide +kernel
theorem dX6_readCommand_167 : decode cX6_readCommand 167 = .ok (.ifCond .eq 28, 3) := by decide +kernel
theorem dX6_readCommand_170 : decode cX6_readCommand 170 = .ok (.aload_n 1, 1) := by decide +kernel
theorem dX6_readCommand_171 : decode cX6_readCommand 171 = .ok (.iload_n 3, 1) := by decide +kernel
theorem dX6_readCommand_172 : decode cX6_readCommand 172 = .ok (.iload 4, 2) := by decide +kernel
theorem dX6_readCommand_174 : decode cX6_readCommand 174 = .ok (.invokestatic 196, 3) := by decide +kernel
theorem dX6_readCommand_177 : decode cX6_readCommand 177 = .ok (.ifCond .eq 18, 3) := by decide +kernel
theorem dX6_readCommand_180 : decode cX6_readCommand 180 = .ok (.aload_n 1, 1) := by decide +kernel
theorem dX6_readCommand_181 : decode cX6_readCommand 181 = .ok (.iload_n 3, 1) := by decide +kernel
theorem dX6_readCommand_182 : decode cX6_readCommand 182 = .ok (.iload 4, 2) := by decide +kernel
theorem dX6_readCommand_184 : decode cX6_readCommand 184 = .ok (.invokestatic 200, 3) := by decide +kernel
theorem dX6_readCommand_187 : decode cX6_readCommand 187 = .ok (.iconst (-1), 1) := by decide +kernel
theorem dX6_readCommand_188 : decode cX6_readCommand 188 = .ok (.if_icmp .lt 7, 3) := by decide +kernel
theorem dX6_readCommand_191 : decode cX6_readCommand 191 = .ok (.iconst 1, 1) := by decide +kernel
theorem dX6_readCommand_192 : decode cX6_readCommand 192 = .ok (.goto 4, 3) := by decide +kernel
theorem dX6_readCommand_195 : decode cX6_readCommand 195 = .ok (.iconst 0, 1) := by decide +kernel
theorem dX6_readCommand_196 : decode cX6_readCommand 196 = .ok (.invokevirtual 175, 3) := by decide +kernel
theorem dX6_readCommand_199 : decode cX6_readCommand 199 = .ok (.ifCond .eq 7, 3) := by decide +kernel
theorem dX6_readCommand_202 : decode cX6_readCommand 202 = .ok (.iconst 1, 1) := by decide +kernel
theorem dX6_readCommand_203 : decode cX6_readCommand 203 = .ok (.goto 4, 3) := by decide +kernel
theorem dX6_readCommand_206 : decode cX6_readCommand 206 = .ok (.iconst 0, 1) := by decide +kernel
theorem dX6_readCommand_207 : decode cX6_readCommand 207 = .ok (.ireturn, 1) := by decide +kernel
theorem dX6_readCommand_208 : decode cX6_readCommand 208 = .ok (.aload_n 0, 1) := by decide +kernel
theorem dX6_readCommand_209 : decode cX6_readCommand 209 = .ok (.aload_n 1, 1) := by decide +kernel
theorem dX6_readCommand_210 : decode cX6_readCommand 210 = .ok (.invokestatic 203, 3) := by decide +kernel
theorem dX6_readCommand_213 : decode cX6_readCommand 213 = .ok (.ifCond .lt 7, 3) := by decide +kernel
theorem dX6_readCommand_216 : decode cX6_readCommand 216 = .ok (.iconst 1, 1) := by decide +kernel
theorem dX6_readCommand_217 : decode cX6_readCommand 217 = .ok (.goto 4, 3) := by decide +kernel
theorem dX6_readCommand_220 : decode cX6_readCommand 220 = .ok (.iconst 0, 1) := by decide +kernel
theorem dX6_readCommand_221 : decode cX6_readCommand 221 = .ok (.invokevirtual 175, 3) := by decide +kernel
theorem dX6_readCommand_224 : decode cX6_readCommand 224 = .ok (.ireturn, 1) := by decide +kernel
theorem dX6_readCommand_225 : decode cX6_readCommand 225 = .ok (.aload_n 0, 1) := by decide +kernel
theorem dX6_readCommand_226 : decode cX6_readCommand 226 = .ok (.iconst 0, 1) := by decide +kernel
theorem dX6_readCommand_227 : decode cX6_readCommand 227 = .ok (.iconst 1, 1) := by decide +kernel
theorem dX6_readCommand_228 : decode cX6_readCommand 228 = .ok (.iconst 1, 1) := by decide +kernel
theorem dX6_readCommand_229 : decode cX6_readCommand 229 = .ok (.bipush 9, 2) := by decide +kernel
theorem dX6_readCommand_231 : decode cX6_readCommand 231 = .ok (.invokevirtual 167, 3) := by decide +kernel
theorem dX6_readCommand_234 : decode cX6_readCommand 234 = .ok (.istore_n 3, 1) := by decide +kernel
theorem dX6_readCommand_235 : decode cX6_readCommand 235 = .ok (.iload_n 3, 1) := by decide +kernel
theorem dX6_readCommand_236 : decode cX6_readCommand 236 = .ok (.iconst (-1), 1) := by decide +kernel
theorem dX6_readCommand_237 : decode cX6_readCommand 237 = .ok (.if_icmp .eq 27, 3) := by decide +kernel
theorem dX6_readCommand_240 : decode cX6_readCommand 240 = .ok (.aload_n 0, 1) := by decide +kernel
theorem dX6_readCommand_241 : decode cX6_readCommand 241 = .ok (.aload_n 1, 1) := by decide +kernel
theorem dX6_readCommand_242 : decode cX6_readCommand 242 = .ok (.iload_n 3, 1) := by decide +kernel
theorem dX6_readCommand_243 : decode cX6_readCommand 243 = .ok (.invokestatic 207, 3) := by decide +kernel
theorem dX6_readCommand_246 : decode cX6_readCommand 246 = .ok (.ifCond .lt 7, 3) := by decide +kernel
theorem dX6_readCommand_249 : decode cX6_readCommand 249 = .ok (.iconst 1, 1) := by decide +kernel
theorem dX6_readCommand_250 : decode cX6_readCommand 250 = .ok (.goto 4, 3) := by decide +kernel
theorem dX6_readCommand_253 : decode cX6_readCommand 253 = .ok (.iconst 0, 1) := by decide +kernel
theorem dX6_readCommand_254 : decode cX6_readCommand 254 = .ok (.invokevirtual 175, 3) := by decide +kernel
theorem dX6_readCommand_257 : decode cX6_readCommand 257 = .ok (.ifCond .eq 7, 3) := by decide +kernel
theorem dX6_readCommand_260 : decode cX6_readCommand 260 = .ok (.iconst 1, 1) := by decide +kernel
theorem dX6_readCommand_261 : decode cX6_readCommand 261 = .ok (.goto 4, 3) := by decide +kernel
theorem dX6_readCommand_264 : decode cX6_readCommand 264 = .ok (.iconst 0, 1) := by decide +kernel
theorem dX6_readCommand_265 : decode cX6_readCommand 265 = .ok (.ireturn, 1) := by decide +kernel
theorem dX6_readCommand_266 : decode cX6_readCommand 266 = .ok (.aload_n 0, 1) := by decide +kernel
theorem dX6_readCommand_267 : decode cX6_readCommand 267 = .ok (.dup, 1) := by decide +kernel
theorem dX6_readCommand_268 : decode cX6_readCommand 268 = .ok (.getfield 161, 3) := by decide +kernel
theorem dX6_readCommand_271 : decode cX6_readCommand 271 = .ok (.iconst 1, 1) := by decide +kernel
theorem dX6_readCommand_272 : decode cX6_readCommand 272 = .ok (.isub, 1) := by decide +kernel
theorem dX6_readCommand_273 : decode cX6_readCommand 273 = .ok (.putfield 161, 3) := by decide +kernel
theorem dX6_readCommand_276 : decode cX6_readCommand 276 = .ok (.iconst 0, 1) := by decide +kernel
theorem dX6_readCommand_277 : decode cX6_readCommand 277 = .ok (.ireturn, 1) := by decide +kernel
theorem dX6_readText_0 : decode cX6_readText 0 = .ok (.aload_n 1, 1) := by decide +kernel
theorem dX6_readText_1 : decode cX6_readText 1 = .ok (.invokestatic 41, 3) := by decide +kernel
theorem dX6_readText_4 : decode cX6_readText 4 = .ok (.aload_n 0, 1) := by decide +kernel
theorem dX6_readText_5 : decode cX6_readText 5 = .ok (.iconst 0, 1) := by decide +kernel
theorem dX6_readText_6 : decode cX6_readText 6 = .ok (.putfield 164, 3) := by decide +kernel
theorem dX6_readText_9 : decode cX6_readText 9 = .ok (.aload_n 0, 1) := by decide +kernel
theorem dX6_readText_10 : decode cX6_readText 10 = .ok (.iconst 0, 1) := by decide +kernel
theorem dX6_readText_11 : decode cX6_readText 11 = .ok (.putfield 161, 3) := by decide +kernel
theorem dX6_readText_14 : decode cX6_readText 14 = .ok (.aload_n 0, 1) := by decide +kernel
theorem dX6_readText_15 : decode cX6_readText 15 = .ok (.getfield 155, 3) := by decide +kernel
theorem dX6_readText_18 : decode cX6_readText 18 = .ok (.ifCond .eq 14, 3) := by decide +kernel
theorem dX6_readText_21 : decode cX6_readText 21 = .ok (.aload_n 0, 1) := by decide +kernel
theorem dX6_readText_22 : decode cX6_readText 22 = .ok (.getfield 7, 3) := by decide +kernel
theorem dX6_readText_25 : decode cX6_readText 25 = .ok (.iconst 0, 1) := by decide +kernel
theorem dX6_readText_26 : decode cX6_readText 26 = .ok (.iaload, 1) := by decide +kernel
theorem dX6_readText_27 : decode cX6_readText 27 = .ok (.bipush 74, 2) := by decide +kernel
theorem dX6_readText_29 : decode cX6_readText 29 = .ok (.if_icmp .eq 5, 3) := by decide +kernel
theorem dX6_readText_32 : decode cX6_readText 32 = .ok (.iconst 0, 1) := by decide +kernel
theorem dX6_readText_33 : decode cX6_readText 33 = .ok (.ireturn, 1) := by decide +kernel
theorem dX6_readText_34 : decode cX6_readText 34 = .ok (.aload_n 0, 1) := by decide +kernel
theorem dX6_readText_35 : decode cX6_readText 35 = .ok (.iconst 1, 1) := by decide +kernel
theorem dX6_readText_36 : decode cX6_readText 36 = .ok (.putfield 161, 3) := by decide +kernel
theorem dX6_readText_39 : decode cX6_readText 39 = .ok (.aload_n 0, 1) := by decide +kernel
theorem dX6_readText_40 : decode cX6_readText 40 = .ok (.getfield 161, 3) := by decide +kernel
theorem dX6_readText_43 : decode cX6_readText 43 = .ok (.aload_n 0, 1) := by decide +kernel
theorem dX6_readText_44 : decode cX6_readText 44 = .ok (.getfield 155, 3) := by decide +kernel
theorem dX6_readText_47 : decode cX6_readText 47 = .ok (.if_icmp .ge 16, 3) := by decide +kernel
theorem dX6_readText_50 : decode cX6_readText 50 = .ok (.aload_n 0, 1) := by decide +kernel
theorem dX6_readText_51 : decode cX6_readText 51 = .ok (.aload_n 1, 1) := by decide +kernel
theorem dX6_readText_52 : decode cX6_readText 52 = .ok (.invokevirtual 210, 3) := by decide +kernel
theorem dX6_readText_55 : decode cX6_readText 55 = .ok (.ifCond .ne (-16), 3) := by decide +kernel
theorem dX6_readText_58 : decode cX6_readText 58 = .ok (.aload_n 0, 1) := by decide +kernel
theorem dX6_readText_59 : decode cX6_readText 59 = .ok (.getfield 161, 3) := by decide +kernel
theorem dX6_readText_62 : decode cX6_readText 62 = .ok (.ireturn, 1) := by decide +kernel
theorem dX6_readText_63 : decode cX6_readText 63 = .ok (.iconst (-1), 1) := by decide +kernel
theorem dX6_readText_64 : decode cX6_readText 64 = .ok (.ireturn, 1) := by decide +kernel
theorem dX6_errorPosition_0 : decode cX6_errorPosition 0 = .ok (.aload_n 0, 1) := by decide +kernel
theorem dX6_errorPosition_1 : decode cX6_errorPosition 1 = .ok (.iconst 0, 1) := by decide +kernel
theorem dX6_errorPosition_2 : decode cX6_errorPosition 2 = .ok (.putfield 45, 3) := by decide +kernel
theorem dX6_errorPosition_5 : decode cX6_errorPosition 5 = .ok (.aload_n 0, 1) := by decide +kernel
theorem dX6_errorPosition_6 : decode cX6_errorPosition 6 = .ok (.aload_n 0, 1) := by decide +kernel
theorem dX6_errorPosition_7 : decode cX6_errorPosition 7 = .ok (.getfield 16, 3) := by decide +kernel
theorem dX6_errorPosition_10 : decode cX6_errorPosition 10 = .ok (.invokevirtual 213, 3) := by decide +kernel
theorem dX6_errorPosition_13 : decode cX6_errorPosition 13 = .ok (.ireturn, 1) := by decide +kernel
theorem dX6_load_0 : decode cX6_load 0 = .ok (.aload_n 0, 1) := by decide +kernel
theorem dX6_load_1 : decode cX6_load 1 = .ok (.aload_n 0, 1) := by decide +kernel
theorem dX6_load_2 : decode cX6_load 2 = .ok (.aload_n 0, 1) := by decide +kernel
theorem dX6_load_3 : decode cX6_load 3 = .ok (.getfield 16, 3) := by decide +kernel
theorem dX6_load_6 : decode cX6_load 6 = .ok (.invokevirtual 213, 3) := by decide +kernel
theorem dX6_load_9 : decode cX6_load 9 = .ok (.iconst (-1), 1) := by decide +kernel
theorem dX6_load_10 : decode cX6_load 10 = .ok (.if_icmp .ne 7, 3) := by decide +kernel
theorem dX6_load_13 : decode cX6_load 13 = .ok (.iconst 0, 1) := by decide +kernel
theorem dX6_load_14 : decode cX6_load 14 = .ok (.goto 4, 3) := by decide +kernel
theorem dX6_load_17 : decode cX6_load 17 = .ok (.iconst 1, 1) := by decide +kernel
theorem dX6_load_18 : decode cX6_load 18 = .ok (.invokevirtual 158, 3) := by decide +kernel
theorem dX6_load_21 : decode cX6_load 21 = .ok (.ifCond .eq 5, 3) := by decide +kernel
theorem dX6_load_24 : decode cX6_load 24 = .ok (.iconst 0, 1) := by decide +kernel
theorem dX6_load_25 : decode cX6_load 25 = .ok (.ireturn, 1) := by decide +kernel
theorem dX6_load_26 : decode cX6_load 26 = .ok (.aload_n 0, 1) := by decide +kernel
theorem dX6_load_27 : decode cX6_load 27 = .ok (.getfield 16, 3) := by decide +kernel
theorem dX6_load_30 : decode cX6_load 30 = .ok (.iconst 0, 1) := by decide +kernel
theorem dX6_load_31 : decode cX6_load 31 = .ok (.aload_n 0, 1) := by decide +kernel
theorem dX6_load_32 : decode cX6_load 32 = .ok (.getfield 13, 3) := by decide +kernel
theorem dX6_load_35 : decode cX6_load 35 = .ok (.iconst 0, 1) := by decide +kernel
theorem dX6_load_36 : decode cX6_load 36 = .ok (.invokestatic 216, 3) := by decide +kernel
theorem dX6_load_39 : decode cX6_load 39 = .ok (.aload_n 0, 1) := by decide +kernel
theorem dX6_load_40 : decode cX6_load 40 = .ok (.iconst 0, 1) := by decide +kernel
theorem dX6_load_41 : decode cX6_load 41 = .ok (.putfield 220, 3) := by decide +kernel
theorem dX6_load_44 : decode cX6_load 44 = .ok (.aload_n 0, 1) := by decide +kernel
theorem dX6_load_45 : decode cX6_load 45 = .ok (.getfield 25, 3) := by decide +kernel
theorem dX6_load_48 : decode cX6_load 48 = .ok (.iconst 0, 1) := by decide +kernel
theorem dX6_load_49 : decode cX6_load 49 = .ok (.iconst 0, 1) := by decide +kernel
theorem dX6_load_50 : decode cX6_load 50 = .ok (.bastore, 1) := by decide +kernel
theorem dX6_load_51 : decode cX6_load 51 = .ok (.aload_n 0, 1) := by decide +kernel
theorem dX6_load_52 : decode cX6_load 52 = .ok (.getfield 25, 3) := by decide +kernel
theorem dX6_load_55 : decode cX6_load 55 = .ok (.iconst 1, 1) := by decide +kernel
theorem dX6_load_56 : decode cX6_load 56 = .ok (.iconst 0, 1) := by decide +kernel
theorem dX6_load_57 : decode cX6_load 57 = .ok (.bastore, 1) := by decide +kernel
theorem dX6_load_58 : decode cX6_load 58 = .ok (.aload_n 0, 1) := by decide +kernel
theorem dX6_load_59 : decode cX6_load 59 = .ok (.getfield 164, 3) := by decide +kernel
theorem dX6_load_62 : decode cX6_load 62 = .ok (.ireturn, 1) := by decide +kernel
theorem dX6_sessionsOf_0 : decode cX6_sessionsOf 0 = .ok (.iconst 0, 1) := by decide +kernel
theorem dX6_sessionsOf_1 : decode cX6_sessionsOf 1 = .ok (.istore_n 2, 1) := by decide +kernel
theorem dX6_sessionsOf_2 : decode cX6_sessionsOf 2 = .ok (.iconst 0, 1) := by decide +kernel
theorem dX6_sessionsOf_3 : decode cX6_sessionsOf 3 = .ok (.istore_n 3, 1) := by decide +kernel
theorem dX6_sessionsOf_4 : decode cX6_sessionsOf 4 = .ok (.iload_n 3, 1) := by decide +kernel
theorem dX6_sessionsOf_5 : decode cX6_sessionsOf 5 = .ok (.aload_n 0, 1) := by decide +kernel
theorem dX6_sessionsOf_6 : decode cX6_sessionsOf 6 = .ok (.iconst 1, 1) := by decide +kernel
theorem dX6_sessionsOf_7 : decode cX6_sessionsOf 7 = .ok (.iaload, 1) := by decide +kernel
theorem dX6_sessionsOf_8 : decode cX6_sessionsOf 8 = .ok (.if_icmp .ge 27, 3) := by decide +kernel
theorem dX6_sessionsOf_11 : decode cX6_sessionsOf 11 = .ok (.iload_n 2, 1) := by decide +kernel
theorem dX6_sessionsOf_12 : decode cX6_sessionsOf 12 = .ok (.aload_n 0, 1) := by decide +kernel
theorem dX6_sessionsOf_13 : decode cX6_sessionsOf 13 = .ok (.iload_n 3, 1) := by decide +kernel
theorem dX6_sessionsOf_14 : decode cX6_sessionsOf 14 = .ok (.iconst 5, 1) := by decide +kernel
theorem dX6_sessionsOf_15 : decode cX6_sessionsOf 15 = .ok (.invokestatic 55, 3) := by decide +kernel
theorem dX6_sessionsOf_18 : decode cX6_sessionsOf 18 = .ok (.iload_n 1, 1) := by decide +kernel
theorem dX6_sessionsOf_19 : decode cX6_sessionsOf 19 = .ok (.if_icmp .ne 7, 3) := by decide +kernel
theorem dX6_sessionsOf_22 : decode cX6_sessionsOf 22 = .ok (.iconst 1, 1) := by decide +kernel
theorem dX6_sessionsOf_23 : decode cX6_sessionsOf 23 = .ok (.goto 4, 3) := by decide +kernel
theorem dX6_sessionsOf_26 : decode cX6_sessionsOf 26 = .ok (.iconst 0, 1) := by decide +kernel
theorem dX6_sessionsOf_27 : decode cX6_sessionsOf 27 = .ok (.iadd, 1) := by decide +kernel
theorem dX6_sessionsOf_28 : decode cX6_sessionsOf 28 = .ok (.istore_n 2, 1) := by decide +kernel
theorem dX6_sessionsOf_29 : decode cX6_sessionsOf 29 = .ok (.iinc 3 1, 3) := by decide +kernel
theorem dX6_sessionsOf_32 : decode cX6_sessionsOf 32 = .ok (.goto (-28), 3) := by decide +kernel
theorem dX6_sessionsOf_35 : decode cX6_sessionsOf 35 = .ok (.iload_n 2, 1) := by decide +kernel
theorem dX6_sessionsOf_36 : decode cX6_sessionsOf 36 = .ok (.ireturn, 1) := by decide +kernel
theorem dX6_about_0 : decode cX6_about 0 = .ok (.aload_n 0, 1) := by decide +kernel
theorem dX6_about_1 : decode cX6_about 1 = .ok (.iload_n 1, 1) := by decide +kernel
theorem dX6_about_2 : decode cX6_about 2 = .ok (.i2l, 1) := by decide +kernel
theorem dX6_about_3 : decode cX6_about 3 = .ok (.lconst 0, 1) := by decide +kernel
theorem dX6_about_4 : decode cX6_about 4 = .ok (.ldc2_w 223, 3) := by decide +kernel
theorem dX6_about_7 : decode cX6_about 7 = .ok (.invokestatic 49, 3) := by decide +kernel
theorem dX6_about_10 : decode cX6_about 10 = .ok (.ifCond .eq 7, 3) := by decide +kernel
theorem dX6_about_13 : decode cX6_about 13 = .ok (.iconst 0, 1) := by decide +kernel
theorem dX6_about_14 : decode cX6_about 14 = .ok (.goto 4, 3) := by decide +kernel
theorem dX6_about_17 : decode cX6_about 17 = .ok (.iconst 1, 1) := by decide +kernel
theorem dX6_about_18 : decode cX6_about 18 = .ok (.invokevirtual 158, 3) := by decide +kernel
theorem dX6_about_21 : decode cX6_about 21 = .ok (.ifCond .eq 5, 3) := by decide +kernel
theorem dX6_about_24 : decode cX6_about 24 = .ok (.iconst 0, 1) := by decide +kernel
theorem dX6_about_25 : decode cX6_about 25 = .ok (.ireturn, 1) := by decide +kernel
theorem dX6_about_26 : decode cX6_about 26 = .ok (.iload_n 1, 1) := by decide +kernel
theorem dX6_about_27 : decode cX6_about 27 = .ok (.tableswitch 77 0 5 #[37, 37, 44, 51, 60, 67], 37) := by decide +kernel
theorem dX6_about_64 : decode cX6_about 64 = .ok (.aload_n 0, 1) := by decide +kernel
theorem dX6_about_65 : decode cX6_about 65 = .ok (.getfield 13, 3) := by decide +kernel
theorem dX6_about_68 : decode cX6_about 68 = .ok (.iload_n 1, 1) := by decide +kernel
theorem dX6_about_69 : decode cX6_about 69 = .ok (.iaload, 1) := by decide +kernel
theorem dX6_about_70 : decode cX6_about 70 = .ok (.ireturn, 1) := by decide +kernel
theorem dX6_about_71 : decode cX6_about 71 = .ok (.aload_n 0, 1) := by decide +kernel
theorem dX6_about_72 : decode cX6_about 72 = .ok (.getfield 13, 3) := by decide +kernel
theorem dX6_about_75 : decode cX6_about 75 = .ok (.iconst 3, 1) := by decide +kernel
theorem dX6_about_76 : decode cX6_about 76 = .ok (.iaload, 1) := by decide +kernel
theorem dX6_about_77 : decode cX6_about 77 = .ok (.ireturn, 1) := by decide +kernel
theorem dX6_about_78 : decode cX6_about 78 = .ok (.aload_n 0, 1) := by decide +kernel
theorem dX6_about_79 : decode cX6_about 79 = .ok (.getfield 13, 3) := by decide +kernel
theorem dX6_about_82 : decode cX6_about 82 = .ok (.iconst (-1), 1) := by decide +kernel
theorem dX6_about_83 : decode cX6_about 83 = .ok (.invokestatic 225, 3) := by decide +kernel
theorem dX6_about_86 : decode cX6_about 86 = .ok (.ireturn, 1) := by decide +kernel
theorem dX6_about_87 : decode cX6_about 87 = .ok (.aload_n 0, 1) := by decide +kernel
theorem dX6_about_88 : decode cX6_about 88 = .ok (.getfield 13, 3) := by decide +kernel
theorem dX6_about_91 : decode cX6_about 91 = .ok (.iconst 2, 1) := by decide +kernel
theorem dX6_about_92 : decode cX6_about 92 = .ok (.iaload, 1) := by decide +kernel
theorem dX6_about_93 : decode cX6_about 93 = .ok (.ireturn, 1) := by decide +kernel
theorem dX6_about_94 : decode cX6_about 94 = .ok (.aload_n 0, 1) := by decide +kernel
theorem dX6_about_95 : decode cX6_about 95 = .ok (.getfield 13, 3) := by decide +kernel
theorem dX6_about_98 : decode cX6_about 98 = .ok (.iconst (-1), 1) := by decide +kernel
theorem dX6_about_99 : decode cX6_about 99 = .ok (.iconst 1, 1) := by decide +kernel
theorem dX6_about_100 : decode cX6_about 100 = .ok (.invokestatic 108, 3) := by decide +kernel
theorem dX6_about_103 : decode cX6_about 103 = .ok (.ireturn, 1) := by decide +kernel
theorem dX6_about_104 : decode cX6_about 104 = .ok (.aload_n 0, 1) := by decide +kernel
theorem dX6_about_105 : decode cX6_about 105 = .ok (.getfield 13, 3) := by decide +kernel
theorem dX6_about_108 : decode cX6_about 108 = .ok (.iconst 4, 1) := by decide +kernel
theorem dX6_about_109 : decode cX6_about 109 = .ok (.iload_n 1, 1) := by decide +kernel
theorem dX6_about_110 : decode cX6_about 110 = .ok (.iadd, 1) := by decide +kernel
theorem dX6_about_111 : decode cX6_about 111 = .ok (.bipush 6, 2) := by decide +kernel
theorem dX6_about_113 : decode cX6_about 113 = .ok (.isub, 1) := by decide +kernel
theorem dX6_about_114 : decode cX6_about 114 = .ok (.iaload, 1) := by decide +kernel
theorem dX6_about_115 : decode cX6_about 115 = .ok (.ireturn, 1) := by decide +kernel
theorem dX6_stenographer_0 : decode cX6_stenographer 0 = .ok (.aload_n 0, 1) := by decide +kernel
theorem dX6_stenographer_1 : decode cX6_stenographer 1 = .ok (.aload_n 0, 1) := by decide +kernel
theorem dX6_stenographer_2 : decode cX6_stenographer 2 = .ok (.getfield 13, 3) := by decide +kernel
theorem dX6_stenographer_5 : decode cX6_stenographer 5 = .ok (.iload_n 1, 1) := by decide +kernel
theorem dX6_stenographer_6 : decode cX6_stenographer 6 = .ok (.invokestatic 193, 3) := by decide +kernel
theorem dX6_stenographer_9 : decode cX6_stenographer 9 = .ok (.ifCond .ne 7, 3) := by decide +kernel
theorem dX6_stenographer_12 : decode cX6_stenographer 12 = .ok (.iconst 1, 1) := by decide +kernel
theorem dX6_stenographer_13 : decode cX6_stenographer 13 = .ok (.goto 20, 3) := by decide +kernel
theorem dX6_stenographer_16 : decode cX6_stenographer 16 = .ok (.iload_n 2, 1) := by decide +kernel
theorem dX6_stenographer_17 : decode cX6_stenographer 17 = .ok (.i2l, 1) := by decide +kernel
theorem dX6_stenographer_18 : decode cX6_stenographer 18 = .ok (.lconst 0, 1) := by decide +kernel
theorem dX6_stenographer_19 : decode cX6_stenographer 19 = .ok (.ldc2_w 228, 3) := by decide +kernel
theorem dX6_stenographer_22 : decode cX6_stenographer 22 = .ok (.invokestatic 49, 3) := by decide +kernel
theorem dX6_stenographer_25 : decode cX6_stenographer 25 = .ok (.ifCond .eq 7, 3) := by decide +kernel
theorem dX6_stenographer_28 : decode cX6_stenographer 28 = .ok (.iconst 0, 1) := by decide +kernel
theorem dX6_stenographer_29 : decode cX6_stenographer 29 = .ok (.goto 4, 3) := by decide +kernel
theorem dX6_stenographer_32 : decode cX6_stenographer 32 = .ok (.iconst 2, 1) := by decide +kernel
theorem dX6_stenographer_33 : decode cX6_stenographer 33 = .ok (.invokevirtual 158, 3) := by decide +kernel
theorem dX6_stenographer_36 : decode cX6_stenographer 36 = .ok (.ifCond .eq 5, 3) := by decide +kernel
theorem dX6_stenographer_39 : decode cX6_stenographer 39 = .ok (.iconst 0, 1) := by decide +kernel
theorem dX6_stenographer_40 : decode cX6_stenographer 40 = .ok (.ireturn, 1) := by decide +kernel
theorem dX6_stenographer_41 : decode cX6_stenographer 41 = .ok (.iload_n 2, 1) := by decide +kernel
theorem dX6_stenographer_42 : decode cX6_stenographer 42 = .ok (.tableswitch 99 0 5 #[38, 38, 52, 61, 61, 80], 38) := by decide +kernel
theorem dX6_stenographer_80 : decode cX6_stenographer 80 = .ok (.aload_n 0, 1) := by decide +kernel
theorem dX6_stenographer_81 : decode cX6_stenographer 81 = .ok (.getfield 13, 3) := by decide +kernel
theorem dX6_stenographer_84 : decode cX6_stenographer 84 = .ok (.bipush 13, 2) := by decide +kernel
theorem dX6_stenographer_86 : decode cX6_stenographer 86 = .ok (.iconst 3, 1) := by decide +kernel
theorem dX6_stenographer_87 : decode cX6_stenographer 87 = .ok (.iload_n 1, 1) := by decide +kernel
theorem dX6_stenographer_88 : decode cX6_stenographer 88 = .ok (.imul, 1) := by decide +kernel
theorem dX6_stenographer_89 : decode cX6_stenographer 89 = .ok (.iadd, 1) := by decide +kernel
theorem dX6_stenographer_90 : decode cX6_stenographer 90 = .ok (.iload_n 2, 1) := by decide +kernel
theorem dX6_stenographer_91 : decode cX6_stenographer 91 = .ok (.iadd, 1) := by decide +kernel
theorem dX6_stenographer_92 : decode cX6_stenographer 92 = .ok (.iaload, 1) := by decide +kernel
theorem dX6_stenographer_93 : decode cX6_stenographer 93 = .ok (.ireturn, 1) := by decide +kernel
theorem dX6_stenographer_94 : decode cX6_stenographer 94 = .ok (.aload_n 0, 1) := by decide +kernel
theorem dX6_stenographer_95 : decode cX6_stenographer 95 = .ok (.getfield 13, 3) := by decide +kernel
theorem dX6_stenographer_98 : decode cX6_stenographer 98 = .ok (.iload_n 1, 1) := by decide +kernel
theorem dX6_stenographer_99 : decode cX6_stenographer 99 = .ok (.invokestatic 225, 3) := by decide +kernel
theorem dX6_stenographer_102 : decode cX6_stenographer 102 = .ok (.ireturn, 1) := by decide +kernel
theorem dX6_stenographer_103 : decode cX6_stenographer 103 = .ok (.aload_n 0, 1) := by decide +kernel
theorem dX6_stenographer_104 : decode cX6_stenographer 104 = .ok (.getfield 13, 3) := by decide +kernel
theorem dX6_stenographer_107 : decode cX6_stenographer 107 = .ok (.iload_n 1, 1) := by decide +kernel
theorem dX6_stenographer_108 : decode cX6_stenographer 108 = .ok (.iload_n 2, 1) := by decide +kernel
theorem dX6_stenographer_109 : decode cX6_stenographer 109 = .ok (.iconst 4, 1) := by decide +kernel
theorem dX6_stenographer_110 : decode cX6_stenographer 110 = .ok (.if_icmp .ne 7, 3) := by decide +kernel
theorem dX6_stenographer_113 : decode cX6_stenographer 113 = .ok (.iconst 1, 1) := by decide +kernel
theorem dX6_stenographer_114 : decode cX6_stenographer 114 = .ok (.goto 4, 3) := by decide +kernel
theorem dX6_stenographer_117 : decode cX6_stenographer 117 = .ok (.iconst 0, 1) := by decide +kernel
theorem dX6_stenographer_118 : decode cX6_stenographer 118 = .ok (.invokestatic 108, 3) := by decide +kernel
theorem dX6_stenographer_121 : decode cX6_stenographer 121 = .ok (.ireturn, 1) := by decide +kernel
theorem dX6_stenographer_122 : decode cX6_stenographer 122 = .ok (.aload_n 0, 1) := by decide +kernel
theorem dX6_stenographer_123 : decode cX6_stenographer 123 = .ok (.getfield 13, 3) := by decide +kernel
theorem dX6_stenographer_126 : decode cX6_stenographer 126 = .ok (.iload_n 1, 1) := by decide +kernel
theorem dX6_stenographer_127 : decode cX6_stenographer 127 = .ok (.aload_n 0, 1) := by decide +kernel
theorem dX6_stenographer_128 : decode cX6_stenographer 128 = .ok (.getfield 13, 3) := by decide +kernel
theorem dX6_stenographer_131 : decode cX6_stenographer 131 = .ok (.iconst 3, 1) := by decide +kernel
theorem dX6_stenographer_132 : decode cX6_stenographer 132 = .ok (.iaload, 1) := by decide +kernel
theorem dX6_stenographer_133 : decode cX6_stenographer 133 = .ok (.iconst (-1), 1) := by decide +kernel
theorem dX6_stenographer_134 : decode cX6_stenographer 134 = .ok (.invokestatic 91, 3) := by decide +kernel
theorem dX6_stenographer_137 : decode cX6_stenographer 137 = .ok (.invokestatic 102, 3) := by decide +kernel
theorem dX6_stenographer_140 : decode cX6_stenographer 140 = .ok (.ireturn, 1) := by decide +kernel
theorem dX6_stenographer_141 : decode cX6_stenographer 141 = .ok (.aload_n 0, 1) := by decide +kernel
theorem dX6_stenographer_142 : decode cX6_stenographer 142 = .ok (.getfield 13, 3) := by decide +kernel
theorem dX6_stenographer_145 : decode cX6_stenographer 145 = .ok (.bipush 13, 2) := by decide +kernel
theorem dX6_stenographer_147 : decode cX6_stenographer 147 = .ok (.iconst 3, 1) := by decide +kernel
theorem dX6_stenographer_148 : decode cX6_stenographer 148 = .ok (.iload_n 1, 1) := by decide +kernel
theorem dX6_stenographer_149 : decode cX6_stenographer 149 = .ok (.imul, 1) := by decide +kernel
theorem dX6_stenographer_150 : decode cX6_stenographer 150 = .ok (.iadd, 1) := by decide +kernel
theorem dX6_stenographer_151 : decode cX6_stenographer 151 = .ok (.iconst 2, 1) := by decide +kernel
theorem dX6_stenographer_152 : decode cX6_stenographer 152 = .ok (.iadd, 1) := by decide +kernel
theorem dX6_stenographer_153 : decode cX6_stenographer 153 = .ok (.iaload, 1) := by decide +kernel
theorem dX6_stenographer_154 : decode cX6_stenographer 154 = .ok (.ireturn, 1) := by decide +kernel
theorem dX6_sessionOf_0 : decode cX6_sessionOf 0 = .ok (.aload_n 0, 1) := by decide +kernel
theorem dX6_sessionOf_1 : decode cX6_sessionOf 1 = .ok (.aload_n 0, 1) := by decide +kernel
theorem dX6_sessionOf_2 : decode cX6_sessionOf 2 = .ok (.getfield 13, 3) := by decide +kernel
theorem dX6_sessionOf_5 : decode cX6_sessionOf 5 = .ok (.iload_n 1, 1) := by decide +kernel
theorem dX6_sessionOf_6 : decode cX6_sessionOf 6 = .ok (.invokestatic 189, 3) := by decide +kernel
theorem dX6_sessionOf_9 : decode cX6_sessionOf 9 = .ok (.ifCond .ne 7, 3) := by decide +kernel
theorem dX6_sessionOf_12 : decode cX6_sessionOf 12 = .ok (.iconst 1, 1) := by decide +kernel
theorem dX6_sessionOf_13 : decode cX6_sessionOf 13 = .ok (.goto 20, 3) := by decide +kernel
theorem dX6_sessionOf_16 : decode cX6_sessionOf 16 = .ok (.iload_n 2, 1) := by decide +kernel
theorem dX6_sessionOf_17 : decode cX6_sessionOf 17 = .ok (.i2l, 1) := by decide +kernel
theorem dX6_sessionOf_18 : decode cX6_sessionOf 18 = .ok (.lconst 0, 1) := by decide +kernel
theorem dX6_sessionOf_19 : decode cX6_sessionOf 19 = .ok (.ldc2_w 230, 3) := by decide +kernel
theorem dX6_sessionOf_22 : decode cX6_sessionOf 22 = .ok (.invokestatic 49, 3) := by decide +kernel
theorem dX6_sessionOf_25 : decode cX6_sessionOf 25 = .ok (.ifCond .eq 7, 3) := by decide +kernel
theorem dX6_sessionOf_28 : decode cX6_sessionOf 28 = .ok (.iconst 0, 1) := by decide +kernel
theorem dX6_sessionOf_29 : decode cX6_sessionOf 29 = .ok (.goto 4, 3) := by decide +kernel
theorem dX6_sessionOf_32 : decode cX6_sessionOf 32 = .ok (.iconst 2, 1) := by decide +kernel
theorem dX6_sessionOf_33 : decode cX6_sessionOf 33 = .ok (.invokevirtual 158, 3) := by decide +kernel
theorem dX6_sessionOf_36 : decode cX6_sessionOf 36 = .ok (.ifCond .eq 5, 3) := by decide +kernel
theorem dX6_sessionOf_39 : decode cX6_sessionOf 39 = .ok (.iconst 0, 1) := by decide +kernel
theorem dX6_sessionOf_40 : decode cX6_sessionOf 40 = .ok (.ireturn, 1) := by decide +kernel
theorem dX6_sessionOf_41 : decode cX6_sessionOf 41 = .ok (.aload_n 0, 1) := by decide +kernel
theorem dX6_sessionOf_42 : decode cX6_sessionOf 42 = .ok (.getfield 13, 3) := by decide +kernel
theorem dX6_sessionOf_45 : decode cX6_sessionOf 45 = .ok (.iload_n 1, 1) := by decide +kernel
theorem dX6_sessionOf_46 : decode cX6_sessionOf 46 = .ok (.iload_n 2, 1) := by decide +kernel
theorem dX6_sessionOf_47 : decode cX6_sessionOf 47 = .ok (.invokestatic 55, 3) := by decide +kernel
theorem dX6_sessionOf_50 : decode cX6_sessionOf 50 = .ok (.ireturn, 1) := by decide +kernel
theorem dX6_transcript_0 : decode cX6_transcript 0 = .ok (.aload_n 0, 1) := by decide +kernel
theorem dX6_transcript_1 : decode cX6_transcript 1 = .ok (.aload_n 0, 1) := by decide +kernel
theorem dX6_transcript_2 : decode cX6_transcript 2 = .ok (.getfield 13, 3) := by decide +kernel
theorem dX6_transcript_5 : decode cX6_transcript 5 = .ok (.iload_n 1, 1) := by decide +kernel
theorem dX6_transcript_6 : decode cX6_transcript 6 = .ok (.invokestatic 193, 3) := by decide +kernel
theorem dX6_transcript_9 : decode cX6_transcript 9 = .ok (.ifCond .eq 24, 3) := by decide +kernel
theorem dX6_transcript_12 : decode cX6_transcript 12 = .ok (.iload_n 2, 1) := by decide +kernel
theorem dX6_transcript_13 : decode cX6_transcript 13 = .ok (.i2l, 1) := by decide +kernel
theorem dX6_transcript_14 : decode cX6_transcript 14 = .ok (.lconst 0, 1) := by decide +kernel
theorem dX6_transcript_15 : decode cX6_transcript 15 = .ok (.aload_n 0, 1) := by decide +kernel
theorem dX6_transcript_16 : decode cX6_transcript 16 = .ok (.getfield 13, 3) := by decide +kernel
theorem dX6_transcript_19 : decode cX6_transcript 19 = .ok (.iload_n 1, 1) := by decide +kernel
theorem dX6_transcript_20 : decode cX6_transcript 20 = .ok (.iconst 0, 1) := by decide +kernel
theorem dX6_transcript_21 : decode cX6_transcript 21 = .ok (.invokestatic 108, 3) := by decide +kernel
theorem dX6_transcript_24 : decode cX6_transcript 24 = .ok (.iconst 1, 1) := by decide +kernel
theorem dX6_transcript_25 : decode cX6_transcript 25 = .ok (.isub, 1) := by decide +kernel
theorem dX6_transcript_26 : decode cX6_transcript 26 = .ok (.i2l, 1) := by decide +kernel
theorem dX6_transcript_27 : decode cX6_transcript 27 = .ok (.invokestatic 49, 3) := by decide +kernel
theorem dX6_transcript_30 : decode cX6_transcript 30 = .ok (.ifCond .ne 7, 3) := by decide +kernel
theorem dX6_transcript_33 : decode cX6_transcript 33 = .ok (.iconst 1, 1) := by decide +kernel
theorem dX6_transcript_34 : decode cX6_transcript 34 = .ok (.goto 18, 3) := by decide +kernel
theorem dX6_transcript_37 : decode cX6_transcript 37 = .ok (.iload_n 3, 1) := by decide +kernel
theorem dX6_transcript_38 : decode cX6_transcript 38 = .ok (.i2l, 1) := by decide +kernel
theorem dX6_transcript_39 : decode cX6_transcript 39 = .ok (.lconst 0, 1) := by decide +kernel
theorem dX6_transcript_40 : decode cX6_transcript 40 = .ok (.lconst 1, 1) := by decide +kernel
theorem dX6_transcript_41 : decode cX6_transcript 41 = .ok (.invokestatic 49, 3) := by decide +kernel
theorem dX6_transcript_44 : decode cX6_transcript 44 = .ok (.ifCond .eq 7, 3) := by decide +kernel
theorem dX6_transcript_47 : decode cX6_transcript 47 = .ok (.iconst 0, 1) := by decide +kernel
theorem dX6_transcript_48 : decode cX6_transcript 48 = .ok (.goto 4, 3) := by decide +kernel
theorem dX6_transcript_51 : decode cX6_transcript 51 = .ok (.iconst 2, 1) := by decide +kernel
theorem dX6_transcript_52 : decode cX6_transcript 52 = .ok (.invokevirtual 158, 3) := by decide +kernel
theorem dX6_transcript_55 : decode cX6_transcript 55 = .ok (.ifCond .eq 5, 3) := by decide +kernel
theorem dX6_transcript_58 : decode cX6_transcript 58 = .ok (.iconst 0, 1) := by decide +kernel
theorem dX6_transcript_59 : decode cX6_transcript 59 = .ok (.ireturn, 1) := by decide +kernel
theorem dX6_transcript_60 : decode cX6_transcript 60 = .ok (.iload_n 2, 1) := by decide +kernel
theorem dX6_transcript_61 : decode cX6_transcript 61 = .ok (.istore 4, 2) := by decide +kernel
theorem dX6_transcript_63 : decode cX6_transcript 63 = .ok (.bipush 127, 2) := by decide +kernel
theorem dX6_transcript_65 : decode cX6_transcript 65 = .ok (.istore 5, 2) := by decide +kernel
theorem dX6_transcript_67 : decode cX6_transcript 67 = .ok (.aload_n 0, 1) := by decide +kernel
theorem dX6_transcript_68 : decode cX6_transcript 68 = .ok (.getfield 13, 3) := by decide +kernel
theorem dX6_transcript_71 : decode cX6_transcript 71 = .ok (.iload 5, 2) := by decide +kernel
theorem dX6_transcript_73 : decode cX6_transcript 73 = .ok (.iaload, 1) := by decide +kernel
theorem dX6_transcript_74 : decode cX6_transcript 74 = .ok (.iload_n 1, 1) := by decide +kernel
theorem dX6_transcript_75 : decode cX6_transcript 75 = .ok (.if_icmp .ne 8, 3) := by decide +kernel
theorem dX6_transcript_78 : decode cX6_transcript 78 = .ok (.iload 4, 2) := by decide +kernel
theorem dX6_transcript_80 : decode cX6_transcript 80 = .ok (.ifCond .le 30, 3) := by decide +kernel
theorem dX6_transcript_83 : decode cX6_transcript 83 = .ok (.iload 4, 2) := by decide +kernel
theorem dX6_transcript_85 : decode cX6_transcript 85 = .ok (.aload_n 0, 1) := by decide +kernel
theorem dX6_transcript_86 : decode cX6_transcript 86 = .ok (.getfield 13, 3) := by decide +kernel
theorem dX6_transcript_89 : decode cX6_transcript 89 = .ok (.iload 5, 2) := by decide +kernel
theorem dX6_transcript_91 : decode cX6_transcript 91 = .ok (.iaload, 1) := by decide +kernel
theorem dX6_transcript_92 : decode cX6_transcript 92 = .ok (.iload_n 1, 1) := by decide +kernel
theorem dX6_transcript_93 : decode cX6_transcript 93 = .ok (.if_icmp .ne 7, 3) := by decide +kernel
theorem dX6_transcript_96 : decode cX6_transcript 96 = .ok (.iconst 1, 1) := by decide +kernel
theorem dX6_transcript_97 : decode cX6_transcript 97 = .ok (.goto 4, 3) := by decide +kernel
theorem dX6_transcript_100 : decode cX6_transcript 100 = .ok (.iconst 0, 1) := by decide +kernel
theorem dX6_transcript_101 : decode cX6_transcript 101 = .ok (.isub, 1) := by decide +kernel
theorem dX6_transcript_102 : decode cX6_transcript 102 = .ok (.istore 4, 2) := by decide +kernel
theorem dX6_transcript_104 : decode cX6_transcript 104 = .ok (.iinc 5 3, 3) := by decide +kernel
theorem dX6_transcript_107 : decode cX6_transcript 107 = .ok (.goto (-40), 3) := by decide +kernel
theorem dX6_transcript_110 : decode cX6_transcript 110 = .ok (.aload_n 0, 1) := by decide +kernel
theorem dX6_transcript_111 : decode cX6_transcript 111 = .ok (.getfield 13, 3) := by decide +kernel
theorem dX6_transcript_114 : decode cX6_transcript 114 = .ok (.iload 5, 2) := by decide +kernel
theorem dX6_transcript_116 : decode cX6_transcript 116 = .ok (.iconst 1, 1) := by decide +kernel
theorem dX6_transcript_117 : decode cX6_transcript 117 = .ok (.iadd, 1) := by decide +kernel
theorem dX6_transcript_118 : decode cX6_transcript 118 = .ok (.iload_n 3, 1) := by decide +kernel
theorem dX6_transcript_119 : decode cX6_transcript 119 = .ok (.iadd, 1) := by decide +kernel
theorem dX6_transcript_120 : decode cX6_transcript 120 = .ok (.iaload, 1) := by decide +kernel
theorem dX6_transcript_121 : decode cX6_transcript 121 = .ok (.ireturn, 1) := by decide +kernel
theorem dX6_setting_0 : decode cX6_setting 0 = .ok (.aload_n 0, 1) := by decide +kernel
theorem dX6_setting_1 : decode cX6_setting 1 = .ok (.iload_n 1, 1) := by decide +kernel
theorem dX6_setting_2 : decode cX6_setting 2 = .ok (.i2l, 1) := by decide +kernel
theorem dX6_setting_3 : decode cX6_setting 3 = .ok (.lconst 0, 1) := by decide +kernel
theorem dX6_setting_4 : decode cX6_setting 4 = .ok (.ldc2_w 145, 3) := by decide +kernel
theorem dX6_setting_7 : decode cX6_setting 7 = .ok (.invokestatic 49, 3) := by decide +kernel
theorem dX6_setting_10 : decode cX6_setting 10 = .ok (.ifCond .eq 7, 3) := by decide +kernel
theorem dX6_setting_13 : decode cX6_setting 13 = .ok (.iconst 0, 1) := by decide +kernel
theorem dX6_setting_14 : decode cX6_setting 14 = .ok (.goto 4, 3) := by decide +kernel
theorem dX6_setting_17 : decode cX6_setting 17 = .ok (.iconst 1, 1) := by decide +kernel
theorem dX6_setting_18 : decode cX6_setting 18 = .ok (.invokevirtual 158, 3) := by decide +kernel
theorem dX6_setting_21 : decode cX6_setting 21 = .ok (.ifCond .eq 5, 3) := by decide +kernel
theorem dX6_setting_24 : decode cX6_setting 24 = .ok (.iconst 0, 1) := by decide +kernel
theorem dX6_setting_25 : decode cX6_setting 25 = .ok (.ireturn, 1) := by decide +kernel
theorem dX6_setting_26 : decode cX6_setting 26 = .ok (.aload_n 0, 1) := by decide +kernel
theorem dX6_setting_27 : decode cX6_setting 27 = .ok (.getfield 13, 3) := by decide +kernel
theorem dX6_setting_30 : decode cX6_setting 30 = .ok (.bipush 9, 2) := by decide +kernel
theorem dX6_setting_32 : decode cX6_setting 32 = .ok (.iload_n 1, 1) := by decide +kernel
theorem dX6_setting_33 : decode cX6_setting 33 = .ok (.iadd, 1) := by decide +kernel
theorem dX6_setting_34 : decode cX6_setting 34 = .ok (.iaload, 1) := by decide +kernel
theorem dX6_setting_35 : decode cX6_setting 35 = .ok (.ireturn, 1) := by decide +kernel
theorem dX6_remember_0 : decode cX6_remember 0 = .ok (.aload_n 0, 1) := by decide +kernel
theorem dX6_remember_1 : decode cX6_remember 1 = .ok (.getfield 220, 3) := by decide +kernel
theorem dX6_remember_4 : decode cX6_remember 4 = .ok (.bipush 14, 2) := by decide +kernel
theorem dX6_remember_6 : decode cX6_remember 6 = .ok (.if_icmp .ne 50, 3) := by decide +kernel
theorem dX6_remember_9 : decode cX6_remember 9 = .ok (.iconst 1, 1) := by decide +kernel
theorem dX6_remember_10 : decode cX6_remember 10 = .ok (.istore_n 1, 1) := by decide +kernel
theorem dX6_remember_11 : decode cX6_remember 11 = .ok (.iload_n 1, 1) := by decide +kernel
theorem dX6_remember_12 : decode cX6_remember 12 = .ok (.bipush 14, 2) := by decide +kernel
theorem dX6_remember_14 : decode cX6_remember 14 = .ok (.if_icmp .ge 32, 3) := by decide +kernel
theorem dX6_remember_17 : decode cX6_remember 17 = .ok (.aload_n 0, 1) := by decide +kernel
theorem dX6_remember_18 : decode cX6_remember 18 = .ok (.getfield 19, 3) := by decide +kernel
theorem dX6_remember_21 : decode cX6_remember 21 = .ok (.sipush 2047, 3) := by decide +kernel
theorem dX6_remember_24 : decode cX6_remember 24 = .ok (.iload_n 1, 1) := by decide +kernel
theorem dX6_remember_25 : decode cX6_remember 25 = .ok (.imul, 1) := by decide +kernel
theorem dX6_remember_26 : decode cX6_remember 26 = .ok (.aload_n 0, 1) := by decide +kernel
theorem dX6_remember_27 : decode cX6_remember 27 = .ok (.getfield 19, 3) := by decide +kernel
theorem dX6_remember_30 : decode cX6_remember 30 = .ok (.sipush 2047, 3) := by decide +kernel
theorem dX6_remember_33 : decode cX6_remember 33 = .ok (.iload_n 1, 1) := by decide +kernel
theorem dX6_remember_34 : decode cX6_remember 34 = .ok (.iconst 1, 1) := by decide +kernel
theorem dX6_remember_35 : decode cX6_remember 35 = .ok (.isub, 1) := by decide +kernel
theorem dX6_remember_36 : decode cX6_remember 36 = .ok (.imul, 1) := by decide +kernel
theorem dX6_remember_37 : decode cX6_remember 37 = .ok (.invokestatic 216, 3) := by decide +kernel
theorem dX6_remember_40 : decode cX6_remember 40 = .ok (.iinc 1 1, 3) := by decide +kernel
theorem dX6_remember_43 : decode cX6_remember 43 = .ok (.goto (-32), 3) := by decide +kernel
theorem dX6_remember_46 : decode cX6_remember 46 = .ok (.aload_n 0, 1) := by decide +kernel
theorem dX6_remember_47 : decode cX6_remember 47 = .ok (.dup, 1) := by decide +kernel
theorem dX6_remember_48 : decode cX6_remember 48 = .ok (.getfield 220, 3) := by decide +kernel
theorem dX6_remember_51 : decode cX6_remember 51 = .ok (.iconst 1, 1) := by decide +kernel
theorem dX6_remember_52 : decode cX6_remember 52 = .ok (.isub, 1) := by decide +kernel
theorem dX6_remember_53 : decode cX6_remember 53 = .ok (.putfield 220, 3) := by decide +kernel
theorem dX6_remember_56 : decode cX6_remember 56 = .ok (.aload_n 0, 1) := by decide +kernel
theorem dX6_remember_57 : decode cX6_remember 57 = .ok (.getfield 13, 3) := by decide +kernel
theorem dX6_remember_60 : decode cX6_remember 60 = .ok (.iconst 0, 1) := by decide +kernel
theorem dX6_remember_61 : decode cX6_remember 61 = .ok (.aload_n 0, 1) := by decide +kernel
theorem dX6_remember_62 : decode cX6_remember 62 = .ok (.getfield 19, 3) := by decide +kernel
theorem dX6_remember_65 : decode cX6_remember 65 = .ok (.sipush 2047, 3) := by decide +kernel
theorem dX6_remember_68 : decode cX6_remember 68 = .ok (.aload_n 0, 1) := by decide +kernel
theorem dX6_remember_69 : decode cX6_remember 69 = .ok (.getfield 220, 3) := by decide +kernel
theorem dX6_remember_72 : decode cX6_remember 72 = .ok (.imul, 1) := by decide +kernel
theorem dX6_remember_73 : decode cX6_remember 73 = .ok (.invokestatic 216, 3) := by decide +kernel
theorem dX6_remember_76 : decode cX6_remember 76 = .ok (.aload_n 0, 1) := by decide +kernel
theorem dX6_remember_77 : decode cX6_remember 77 = .ok (.dup, 1) := by decide +kernel
theorem dX6_remember_78 : decode cX6_remember 78 = .ok (.getfield 220, 3) := by decide +kernel
theorem dX6_remember_81 : decode cX6_remember 81 = .ok (.iconst 1, 1) := by decide +kernel
theorem dX6_remember_82 : decode cX6_remember 82 = .ok (.iadd, 1) := by decide +kernel
theorem dX6_remember_83 : decode cX6_remember 83 = .ok (.putfield 220, 3) := by decide +kernel
theorem dX6_remember_86 : decode cX6_remember 86 = .ok (.return_, 1) := by decide +kernel
theorem dX6_hire_0 : decode cX6_hire 0 = .ok (.aload_n 0, 1) := by decide +kernel
theorem dX6_hire_1 : decode cX6_hire 1 = .ok (.iload_n 1, 1) := by decide +kernel
theorem dX6_hire_2 : decode cX6_hire 2 = .ok (.i2l, 1) := by decide +kernel
theorem dX6_hire_3 : decode cX6_hire 3 = .ok (.lconst 1, 1) := by decide +kernel
theorem dX6_hire_4 : decode cX6_hire 4 = .ok (.ldc2_w 232, 3) := by decide +kernel
theorem dX6_hire_7 : decode cX6_hire 7 = .ok (.invokestatic 49, 3) := by decide +kernel
theorem dX6_hire_10 : decode cX6_hire 10 = .ok (.ifCond .ne 7, 3) := by decide +kernel
theorem dX6_hire_13 : decode cX6_hire 13 = .ok (.iconst 1, 1) := by decide +kernel
theorem dX6_hire_14 : decode cX6_hire 14 = .ok (.goto 18, 3) := by decide +kernel
theorem dX6_hire_17 : decode cX6_hire 17 = .ok (.aload_n 0, 1) := by decide +kernel
theorem dX6_hire_18 : decode cX6_hire 18 = .ok (.getfield 13, 3) := by decide +kernel
theorem dX6_hire_21 : decode cX6_hire 21 = .ok (.invokestatic 179, 3) := by decide +kernel
theorem dX6_hire_24 : decode cX6_hire 24 = .ok (.ifCond .eq 7, 3) := by decide +kernel
theorem dX6_hire_27 : decode cX6_hire 27 = .ok (.iconst 0, 1) := by decide +kernel
theorem dX6_hire_28 : decode cX6_hire 28 = .ok (.goto 4, 3) := by decide +kernel
theorem dX6_hire_31 : decode cX6_hire 31 = .ok (.iconst 2, 1) := by decide +kernel
theorem dX6_hire_32 : decode cX6_hire 32 = .ok (.invokevirtual 158, 3) := by decide +kernel
theorem dX6_hire_35 : decode cX6_hire 35 = .ok (.ifCond .eq 5, 3) := by decide +kernel
theorem dX6_hire_38 : decode cX6_hire 38 = .ok (.iconst 0, 1) := by decide +kernel
theorem dX6_hire_39 : decode cX6_hire 39 = .ok (.ireturn, 1) := by decide +kernel
theorem dX6_hire_40 : decode cX6_hire 40 = .ok (.aload_n 0, 1) := by decide +kernel
theorem dX6_hire_41 : decode cX6_hire 41 = .ok (.invokevirtual 234, 3) := by decide +kernel
theorem dX6_hire_44 : decode cX6_hire 44 = .ok (.aload_n 0, 1) := by decide +kernel
theorem dX6_hire_45 : decode cX6_hire 45 = .ok (.getfield 13, 3) := by decide +kernel
theorem dX6_hire_48 : decode cX6_hire 48 = .ok (.iload_n 1, 1) := by decide +kernel
theorem dX6_hire_49 : decode cX6_hire 49 = .ok (.invokestatic 183, 3) := by decide +kernel
theorem dX6_hire_52 : decode cX6_hire 52 = .ok (.ireturn, 1) := by decide +kernel
theorem dX6_session_0 : decode cX6_session 0 = .ok (.aload_n 0, 1) := by decide +kernel
theorem dX6_session_1 : decode cX6_session 1 = .ok (.iload_n 1, 1) := by decide +kernel
theorem dX6_session_2 : decode cX6_session 2 = .ok (.invokestatic 75, 3) := by decide +kernel
theorem dX6_session_5 : decode cX6_session 5 = .ok (.ifCond .ne 7, 3) := by decide +kernel
theorem dX6_session_8 : decode cX6_session 8 = .ok (.iconst 1, 1) := by decide +kernel
theorem dX6_session_9 : decode cX6_session 9 = .ok (.goto 56, 3) := by decide +kernel
theorem dX6_session_12 : decode cX6_session 12 = .ok (.aload_n 0, 1) := by decide +kernel
theorem dX6_session_13 : decode cX6_session 13 = .ok (.getfield 13, 3) := by decide +kernel
theorem dX6_session_16 : decode cX6_session 16 = .ok (.iload_n 2, 1) := by decide +kernel
theorem dX6_session_17 : decode cX6_session 17 = .ok (.iload_n 3, 1) := by decide +kernel
theorem dX6_session_18 : decode cX6_session 18 = .ok (.iload 4, 2) := by decide +kernel
theorem dX6_session_20 : decode cX6_session 20 = .ok (.invokestatic 79, 3) := by decide +kernel
theorem dX6_session_23 : decode cX6_session 23 = .ok (.ifCond .eq 16, 3) := by decide +kernel
theorem dX6_session_26 : decode cX6_session 26 = .ok (.iload 5, 2) := by decide +kernel
theorem dX6_session_28 : decode cX6_session 28 = .ok (.i2l, 1) := by decide +kernel
theorem dX6_session_29 : decode cX6_session 29 = .ok (.lconst 1, 1) := by decide +kernel
theorem dX6_session_30 : decode cX6_session 30 = .ok (.ldc2_w 83, 3) := by decide +kernel
theorem dX6_session_33 : decode cX6_session 33 = .ok (.invokestatic 49, 3) := by decide +kernel
theorem dX6_session_36 : decode cX6_session 36 = .ok (.ifCond .ne 7, 3) := by decide +kernel
theorem dX6_session_39 : decode cX6_session 39 = .ok (.iconst 2, 1) := by decide +kernel
theorem dX6_session_40 : decode cX6_session 40 = .ok (.goto 25, 3) := by decide +kernel
theorem dX6_session_43 : decode cX6_session 43 = .ok (.aload_n 0, 1) := by decide +kernel
theorem dX6_session_44 : decode cX6_session 44 = .ok (.getfield 13, 3) := by decide +kernel
theorem dX6_session_47 : decode cX6_session 47 = .ok (.iload_n 1, 1) := by decide +kernel
theorem dX6_session_48 : decode cX6_session 48 = .ok (.iload_n 2, 1) := by decide +kernel
theorem dX6_session_49 : decode cX6_session 49 = .ok (.iload_n 3, 1) := by decide +kernel
theorem dX6_session_50 : decode cX6_session 50 = .ok (.iload 4, 2) := by decide +kernel
theorem dX6_session_52 : decode cX6_session 52 = .ok (.iload 5, 2) := by decide +kernel
theorem dX6_session_54 : decode cX6_session 54 = .ok (.invokestatic 171, 3) := by decide +kernel
theorem dX6_session_57 : decode cX6_session 57 = .ok (.ifCond .eq 7, 3) := by decide +kernel
theorem dX6_session_60 : decode cX6_session 60 = .ok (.iconst 0, 1) := by decide +kernel
theorem dX6_session_61 : decode cX6_session 61 = .ok (.goto 4, 3) := by decide +kernel
theorem dX6_session_64 : decode cX6_session 64 = .ok (.iconst 3, 1) := by decide +kernel
theorem dX6_session_65 : decode cX6_session 65 = .ok (.invokevirtual 158, 3) := by decide +kernel
theorem dX6_session_68 : decode cX6_session 68 = .ok (.ifCond .eq 5, 3) := by decide +kernel
theorem dX6_session_71 : decode cX6_session 71 = .ok (.iconst 0, 1) := by decide +kernel
theorem dX6_session_72 : decode cX6_session 72 = .ok (.ireturn, 1) := by decide +kernel
theorem dX6_session_73 : decode cX6_session 73 = .ok (.aload_n 0, 1) := by decide +kernel
theorem dX6_session_74 : decode cX6_session 74 = .ok (.invokevirtual 234, 3) := by decide +kernel
theorem dX6_session_77 : decode cX6_session 77 = .ok (.aload_n 0, 1) := by decide +kernel
theorem dX6_session_78 : decode cX6_session 78 = .ok (.getfield 13, 3) := by decide +kernel
theorem dX6_session_81 : decode cX6_session 81 = .ok (.iload_n 1, 1) := by decide +kernel
theorem dX6_session_82 : decode cX6_session 82 = .ok (.iload_n 2, 1) := by decide +kernel
theorem dX6_session_83 : decode cX6_session 83 = .ok (.iload_n 3, 1) := by decide +kernel
theorem dX6_session_84 : decode cX6_session 84 = .ok (.iload 4, 2) := by decide +kernel
theorem dX6_session_86 : decode cX6_session 86 = .ok (.iload 5, 2) := by decide +kernel
theorem dX6_session_88 : decode cX6_session 88 = .ok (.iconst (-1), 1) := by decide +kernel
theorem dX6_session_89 : decode cX6_session 89 = .ok (.invokestatic 121, 3) := by decide +kernel
theorem dX6_session_92 : decode cX6_session 92 = .ok (.ireturn, 1) := by decide +kernel
theorem dX6_cancel_0 : decode cX6_cancel 0 = .ok (.aload_n 0, 1) := by decide +kernel
theorem dX6_cancel_1 : decode cX6_cancel 1 = .ok (.aload_n 0, 1) := by decide +kernel
theorem dX6_cancel_2 : decode cX6_cancel 2 = .ok (.getfield 13, 3) := by decide +kernel
theorem dX6_cancel_5 : decode cX6_cancel 5 = .ok (.iload_n 1, 1) := by decide +kernel
theorem dX6_cancel_6 : decode cX6_cancel 6 = .ok (.invokestatic 189, 3) := by decide +kernel
theorem dX6_cancel_9 : decode cX6_cancel 9 = .ok (.ifCond .eq 7, 3) := by decide +kernel
theorem dX6_cancel_12 : decode cX6_cancel 12 = .ok (.iconst 0, 1) := by decide +kernel
theorem dX6_cancel_13 : decode cX6_cancel 13 = .ok (.goto 4, 3) := by decide +kernel
theorem dX6_cancel_16 : decode cX6_cancel 16 = .ok (.iconst 1, 1) := by decide +kernel
theorem dX6_cancel_17 : decode cX6_cancel 17 = .ok (.invokevirtual 158, 3) := by decide +kernel
theorem dX6_cancel_20 : decode cX6_cancel 20 = .ok (.ifCond .eq 5, 3) := by decide +kernel
theorem dX6_cancel_23 : decode cX6_cancel 23 = .ok (.iconst 0, 1) := by decide +kernel
theorem dX6_cancel_24 : decode cX6_cancel 24 = .ok (.ireturn, 1) := by decide +kernel
theorem dX6_cancel_25 : decode cX6_cancel 25 = .ok (.aload_n 0, 1) := by decide +kernel
theorem dX6_cancel_26 : decode cX6_cancel 26 = .ok (.invokevirtual 234, 3) := by decide +kernel
theorem dX6_cancel_29 : decode cX6_cancel 29 = .ok (.aload_n 0, 1) := by decide +kernel
theorem dX6_cancel_30 : decode cX6_cancel 30 = .ok (.getfield 13, 3) := by decide +kernel
theorem dX6_cancel_33 : decode cX6_cancel 33 = .ok (.iload_n 1, 1) := by decide +kernel
theorem dX6_cancel_34 : decode cX6_cancel 34 = .ok (.invokestatic 115, 3) := by decide +kernel
theorem dX6_cancel_37 : decode cX6_cancel 37 = .ok (.ireturn, 1) := by decide +kernel
theorem dX6_give_0 : decode cX6_give 0 = .ok (.aload_n 0, 1) := by decide +kernel
theorem dX6_give_1 : decode cX6_give 1 = .ok (.aload_n 0, 1) := by decide +kernel
theorem dX6_give_2 : decode cX6_give 2 = .ok (.getfield 13, 3) := by decide +kernel
theorem dX6_give_5 : decode cX6_give 5 = .ok (.iload_n 1, 1) := by decide +kernel
theorem dX6_give_6 : decode cX6_give 6 = .ok (.invokestatic 189, 3) := by decide +kernel
theorem dX6_give_9 : decode cX6_give 9 = .ok (.ifCond .eq 19, 3) := by decide +kernel
theorem dX6_give_12 : decode cX6_give 12 = .ok (.iload_n 2, 1) := by decide +kernel
theorem dX6_give_13 : decode cX6_give 13 = .ok (.iconst (-1), 1) := by decide +kernel
theorem dX6_give_14 : decode cX6_give 14 = .ok (.if_icmp .eq 18, 3) := by decide +kernel
theorem dX6_give_17 : decode cX6_give 17 = .ok (.aload_n 0, 1) := by decide +kernel
theorem dX6_give_18 : decode cX6_give 18 = .ok (.getfield 13, 3) := by decide +kernel
theorem dX6_give_21 : decode cX6_give 21 = .ok (.iload_n 2, 1) := by decide +kernel
theorem dX6_give_22 : decode cX6_give 22 = .ok (.invokestatic 193, 3) := by decide +kernel
theorem dX6_give_25 : decode cX6_give 25 = .ok (.ifCond .ne 7, 3) := by decide +kernel
theorem dX6_give_28 : decode cX6_give 28 = .ok (.iconst 1, 1) := by decide +kernel
theorem dX6_give_29 : decode cX6_give 29 = .ok (.goto 20, 3) := by decide +kernel
theorem dX6_give_32 : decode cX6_give 32 = .ok (.aload_n 0, 1) := by decide +kernel
theorem dX6_give_33 : decode cX6_give 33 = .ok (.getfield 13, 3) := by decide +kernel
theorem dX6_give_36 : decode cX6_give 36 = .ok (.iload_n 1, 1) := by decide +kernel
theorem dX6_give_37 : decode cX6_give 37 = .ok (.iload_n 2, 1) := by decide +kernel
theorem dX6_give_38 : decode cX6_give 38 = .ok (.invokestatic 196, 3) := by decide +kernel
theorem dX6_give_41 : decode cX6_give 41 = .ok (.ifCond .eq 7, 3) := by decide +kernel
theorem dX6_give_44 : decode cX6_give 44 = .ok (.iconst 0, 1) := by decide +kernel
theorem dX6_give_45 : decode cX6_give 45 = .ok (.goto 4, 3) := by decide +kernel
theorem dX6_give_48 : decode cX6_give 48 = .ok (.iconst 2, 1) := by decide +kernel
theorem dX6_give_49 : decode cX6_give 49 = .ok (.invokevirtual 158, 3) := by decide +kernel
theorem dX6_give_52 : decode cX6_give 52 = .ok (.ifCond .eq 5, 3) := by decide +kernel
theorem dX6_give_55 : decode cX6_give 55 = .ok (.iconst 0, 1) := by decide +kernel
theorem dX6_give_56 : decode cX6_give 56 = .ok (.ireturn, 1) := by decide +kernel
theorem dX6_give_57 : decode cX6_give 57 = .ok (.aload_n 0, 1) := by decide +kernel
theorem dX6_give_58 : decode cX6_give 58 = .ok (.invokevirtual 234, 3) := by decide +kernel
theorem dX6_give_61 : decode cX6_give 61 = .ok (.aload_n 0, 1) := by decide +kernel
theorem dX6_give_62 : decode cX6_give 62 = .ok (.getfield 13, 3) := by decide +kernel
theorem dX6_give_65 : decode cX6_give 65 = .ok (.iload_n 1, 1) := by decide +kernel
theorem dX6_give_66 : decode cX6_give 66 = .ok (.iload_n 2, 1) := by decide +kernel
theorem dX6_give_67 : decode cX6_give 67 = .ok (.invokestatic 200, 3) := by decide +kernel
theorem dX6_give_70 : decode cX6_give 70 = .ok (.ireturn, 1) := by decide +kernel
theorem dX6_giveAll_0 : decode cX6_giveAll 0 = .ok (.aload_n 0, 1) := by decide +kernel
theorem dX6_giveAll_1 : decode cX6_giveAll 1 = .ok (.iconst 0, 1) := by decide +kernel
theorem dX6_giveAll_2 : decode cX6_giveAll 2 = .ok (.putfield 45, 3) := by decide +kernel
theorem dX6_giveAll_5 : decode cX6_giveAll 5 = .ok (.aload_n 0, 1) := by decide +kernel
theorem dX6_giveAll_6 : decode cX6_giveAll 6 = .ok (.invokevirtual 234, 3) := by decide +kernel
theorem dX6_giveAll_9 : decode cX6_giveAll 9 = .ok (.aload_n 0, 1) := by decide +kernel
theorem dX6_giveAll_10 : decode cX6_giveAll 10 = .ok (.getfield 13, 3) := by decide +kernel
theorem dX6_giveAll_13 : decode cX6_giveAll 13 = .ok (.invokestatic 203, 3) := by decide +kernel
theorem dX6_giveAll_16 : decode cX6_giveAll 16 = .ok (.ireturn, 1) := by decide +kernel
theorem dX6_extend_0 : decode cX6_extend 0 = .ok (.aload_n 0, 1) := by decide +kernel
theorem dX6_extend_1 : decode cX6_extend 1 = .ok (.aload_n 0, 1) := by decide +kernel
theorem dX6_extend_2 : decode cX6_extend 2 = .ok (.getfield 13, 3) := by decide +kernel
theorem dX6_extend_5 : decode cX6_extend 5 = .ok (.iload_n 1, 1) := by decide +kernel
theorem dX6_extend_6 : decode cX6_extend 6 = .ok (.invokestatic 189, 3) := by decide +kernel
theorem dX6_extend_9 : decode cX6_extend 9 = .ok (.ifCond .ne 7, 3) := by decide +kernel
theorem dX6_extend_12 : decode cX6_extend 12 = .ok (.iconst 1, 1) := by decide +kernel
theorem dX6_extend_13 : decode cX6_extend 13 = .ok (.goto 20, 3) := by decide +kernel
theorem dX6_extend_16 : decode cX6_extend 16 = .ok (.iload_n 2, 1) := by decide +kernel
theorem dX6_extend_17 : decode cX6_extend 17 = .ok (.i2l, 1) := by decide +kernel
theorem dX6_extend_18 : decode cX6_extend 18 = .ok (.lconst 1, 1) := by decide +kernel
theorem dX6_extend_19 : decode cX6_extend 19 = .ok (.ldc2_w 147, 3) := by decide +kernel
theorem dX6_extend_22 : decode cX6_extend 22 = .ok (.invokestatic 49, 3) := by decide +kernel
theorem dX6_extend_25 : decode cX6_extend 25 = .ok (.ifCond .eq 7, 3) := by decide +kernel
theorem dX6_extend_28 : decode cX6_extend 28 = .ok (.iconst 0, 1) := by decide +kernel
theorem dX6_extend_29 : decode cX6_extend 29 = .ok (.goto 4, 3) := by decide +kernel
theorem dX6_extend_32 : decode cX6_extend 32 = .ok (.iconst 2, 1) := by decide +kernel
theorem dX6_extend_33 : decode cX6_extend 33 = .ok (.invokevirtual 158, 3) := by decide +kernel
theorem dX6_extend_36 : decode cX6_extend 36 = .ok (.ifCond .eq 5, 3) := by decide +kernel
theorem dX6_extend_39 : decode cX6_extend 39 = .ok (.iconst 0, 1) := by decide +kernel
theorem dX6_extend_40 : decode cX6_extend 40 = .ok (.ireturn, 1) := by decide +kernel
theorem dX6_extend_41 : decode cX6_extend 41 = .ok (.aload_n 0, 1) := by decide +kernel
theorem dX6_extend_42 : decode cX6_extend 42 = .ok (.invokevirtual 234, 3) := by decide +kernel
theorem dX6_extend_45 : decode cX6_extend 45 = .ok (.aload_n 0, 1) := by decide +kernel
theorem dX6_extend_46 : decode cX6_extend 46 = .ok (.aload_n 0, 1) := by decide +kernel
theorem dX6_extend_47 : decode cX6_extend 47 = .ok (.getfield 13, 3) := by decide +kernel
theorem dX6_extend_50 : decode cX6_extend 50 = .ok (.iload_n 1, 1) := by decide +kernel
theorem dX6_extend_51 : decode cX6_extend 51 = .ok (.iload_n 2, 1) := by decide +kernel
theorem dX6_extend_52 : decode cX6_extend 52 = .ok (.invokevirtual 237, 3) := by decide +kernel
theorem dX6_extend_55 : decode cX6_extend 55 = .ok (.ireturn, 1) := by decide +kernel
theorem dX6_leave_0 : decode cX6_leave 0 = .ok (.aload_n 0, 1) := by decide +kernel
theorem dX6_leave_1 : decode cX6_leave 1 = .ok (.aload_n 0, 1) := by decide +kernel
theorem dX6_leave_2 : decode cX6_leave 2 = .ok (.getfield 13, 3) := by decide +kernel
theorem dX6_leave_5 : decode cX6_leave 5 = .ok (.iload_n 1, 1) := by decide +kernel
theorem dX6_leave_6 : decode cX6_leave 6 = .ok (.invokestatic 193, 3) := by decide +kernel
theorem dX6_leave_9 : decode cX6_leave 9 = .ok (.ifCond .ne 7, 3) := by decide +kernel
theorem dX6_leave_12 : decode cX6_leave 12 = .ok (.iconst 1, 1) := by decide +kernel
theorem dX6_leave_13 : decode cX6_leave 13 = .ok (.goto 20, 3) := by decide +kernel
theorem dX6_leave_16 : decode cX6_leave 16 = .ok (.iload_n 2, 1) := by decide +kernel
theorem dX6_leave_17 : decode cX6_leave 17 = .ok (.i2l, 1) := by decide +kernel
theorem dX6_leave_18 : decode cX6_leave 18 = .ok (.lconst 0, 1) := by decide +kernel
theorem dX6_leave_19 : decode cX6_leave 19 = .ok (.ldc2_w 149, 3) := by decide +kernel
theorem dX6_leave_22 : decode cX6_leave 22 = .ok (.invokestatic 49, 3) := by decide +kernel
theorem dX6_leave_25 : decode cX6_leave 25 = .ok (.ifCond .eq 7, 3) := by decide +kernel
theorem dX6_leave_28 : decode cX6_leave 28 = .ok (.iconst 0, 1) := by decide +kernel
theorem dX6_leave_29 : decode cX6_leave 29 = .ok (.goto 4, 3) := by decide +kernel
theorem dX6_leave_32 : decode cX6_leave 32 = .ok (.iconst 2, 1) := by decide +kernel
theorem dX6_leave_33 : decode cX6_leave 33 = .ok (.invokevirtual 158, 3) := by decide +kernel
theorem dX6_leave_36 : decode cX6_leave 36 = .ok (.ifCond .eq 5, 3) := by decide +kernel
theorem dX6_leave_39 : decode cX6_leave 39 = .ok (.iconst 0, 1) := by decide +kernel
theorem dX6_leave_40 : decode cX6_leave 40 = .ok (.ireturn, 1) := by decide +kernel
theorem dX6_leave_41 : decode cX6_leave 41 = .ok (.aload_n 0, 1) := by decide +kernel
theorem dX6_leave_42 : decode cX6_leave 42 = .ok (.invokevirtual 234, 3) := by decide +kernel
theorem dX6_leave_45 : decode cX6_leave 45 = .ok (.aload_n 0, 1) := by decide +kernel
theorem dX6_leave_46 : decode cX6_leave 46 = .ok (.getfield 13, 3) := by decide +kernel
theorem dX6_leave_49 : decode cX6_leave 49 = .ok (.iload_n 1, 1) := by decide +kernel
theorem dX6_leave_50 : decode cX6_leave 50 = .ok (.iload_n 2, 1) := by decide +kernel
theorem dX6_leave_51 : decode cX6_leave 51 = .ok (.invokestatic 240, 3) := by decide +kernel
theorem dX6_leave_54 : decode cX6_leave 54 = .ok (.ireturn, 1) := by decide +kernel
theorem dX6_run_0 : decode cX6_run 0 = .ok (.aload_n 0, 1) := by decide +kernel
theorem dX6_run_1 : decode cX6_run 1 = .ok (.iload_n 1, 1) := by decide +kernel
theorem dX6_run_2 : decode cX6_run 2 = .ok (.i2l, 1) := by decide +kernel
theorem dX6_run_3 : decode cX6_run 3 = .ok (.lconst 1, 1) := by decide +kernel
theorem dX6_run_4 : decode cX6_run 4 = .ok (.ldc2_w 149, 3) := by decide +kernel
theorem dX6_run_7 : decode cX6_run 7 = .ok (.invokestatic 49, 3) := by decide +kernel
theorem dX6_run_10 : decode cX6_run 10 = .ok (.ifCond .eq 7, 3) := by decide +kernel
theorem dX6_run_13 : decode cX6_run 13 = .ok (.iconst 0, 1) := by decide +kernel
theorem dX6_run_14 : decode cX6_run 14 = .ok (.goto 4, 3) := by decide +kernel
theorem dX6_run_17 : decode cX6_run 17 = .ok (.iconst 1, 1) := by decide +kernel
theorem dX6_run_18 : decode cX6_run 18 = .ok (.invokevirtual 158, 3) := by decide +kernel
theorem dX6_run_21 : decode cX6_run 21 = .ok (.ifCond .eq 5, 3) := by decide +kernel
theorem dX6_run_24 : decode cX6_run 24 = .ok (.iconst 0, 1) := by decide +kernel
theorem dX6_run_25 : decode cX6_run 25 = .ok (.ireturn, 1) := by decide +kernel
theorem dX6_run_26 : decode cX6_run 26 = .ok (.aload_n 0, 1) := by decide +kernel
theorem dX6_run_27 : decode cX6_run 27 = .ok (.invokevirtual 234, 3) := by decide +kernel
theorem dX6_run_30 : decode cX6_run 30 = .ok (.aload_n 0, 1) := by decide +kernel
theorem dX6_run_31 : decode cX6_run 31 = .ok (.getfield 13, 3) := by decide +kernel
theorem dX6_run_34 : decode cX6_run 34 = .ok (.iload_n 1, 1) := by decide +kernel
theorem dX6_run_35 : decode cX6_run 35 = .ok (.invokestatic 207, 3) := by decide +kernel
theorem dX6_run_38 : decode cX6_run 38 = .ok (.ireturn, 1) := by decide +kernel
theorem dX6_set_0 : decode cX6_set 0 = .ok (.aload_n 0, 1) := by decide +kernel
theorem dX6_set_1 : decode cX6_set 1 = .ok (.iload_n 1, 1) := by decide +kernel
theorem dX6_set_2 : decode cX6_set 2 = .ok (.iload_n 2, 1) := by decide +kernel
theorem dX6_set_3 : decode cX6_set 3 = .ok (.invokestatic 243, 3) := by decide +kernel
theorem dX6_set_6 : decode cX6_set 6 = .ok (.ifCond .eq 7, 3) := by decide +kernel
theorem dX6_set_9 : decode cX6_set 9 = .ok (.iconst 0, 1) := by decide +kernel
theorem dX6_set_10 : decode cX6_set 10 = .ok (.goto 4, 3) := by decide +kernel
theorem dX6_set_13 : decode cX6_set 13 = .ok (.iconst 1, 1) := by decide +kernel
theorem dX6_set_14 : decode cX6_set 14 = .ok (.invokevirtual 158, 3) := by decide +kernel
theorem dX6_set_17 : decode cX6_set 17 = .ok (.ifCond .eq 5, 3) := by decide +kernel
theorem dX6_set_20 : decode cX6_set 20 = .ok (.iconst 0, 1) := by decide +kernel
theorem dX6_set_21 : decode cX6_set 21 = .ok (.ireturn, 1) := by decide +kernel
theorem dX6_set_22 : decode cX6_set 22 = .ok (.aload_n 0, 1) := by decide +kernel
theorem dX6_set_23 : decode cX6_set 23 = .ok (.invokevirtual 234, 3) := by decide +kernel
theorem dX6_set_26 : decode cX6_set 26 = .ok (.aload_n 0, 1) := by decide +kernel
theorem dX6_set_27 : decode cX6_set 27 = .ok (.getfield 13, 3) := by decide +kernel
theorem dX6_set_30 : decode cX6_set 30 = .ok (.bipush 9, 2) := by decide +kernel
theorem dX6_set_32 : decode cX6_set 32 = .ok (.iload_n 1, 1) := by decide +kernel
theorem dX6_set_33 : decode cX6_set 33 = .ok (.iadd, 1) := by decide +kernel
theorem dX6_set_34 : decode cX6_set 34 = .ok (.iaload, 1) := by decide +kernel
theorem dX6_set_35 : decode cX6_set 35 = .ok (.istore_n 3, 1) := by decide +kernel
theorem dX6_set_36 : decode cX6_set 36 = .ok (.aload_n 0, 1) := by decide +kernel
theorem dX6_set_37 : decode cX6_set 37 = .ok (.getfield 13, 3) := by decide +kernel
theorem dX6_set_40 : decode cX6_set 40 = .ok (.bipush 9, 2) := by decide +kernel
theorem dX6_set_42 : decode cX6_set 42 = .ok (.iload_n 1, 1) := by decide +kernel
theorem dX6_set_43 : decode cX6_set 43 = .ok (.iadd, 1) := by decide +kernel
theorem dX6_set_44 : decode cX6_set 44 = .ok (.iload_n 2, 1) := by decide +kernel
theorem dX6_set_45 : decode cX6_set 45 = .ok (.iastore, 1) := by decide +kernel
theorem dX6_set_46 : decode cX6_set 46 = .ok (.iload_n 3, 1) := by decide +kernel
theorem dX6_set_47 : decode cX6_set 47 = .ok (.ireturn, 1) := by decide +kernel
theorem dX6_undo_0 : decode cX6_undo 0 = .ok (.aload_n 0, 1) := by decide +kernel
theorem dX6_undo_1 : decode cX6_undo 1 = .ok (.aload_n 0, 1) := by decide +kernel
theorem dX6_undo_2 : decode cX6_undo 2 = .ok (.getfield 220, 3) := by decide +kernel
theorem dX6_undo_5 : decode cX6_undo 5 = .ok (.ifCond .ne 7, 3) := by decide +kernel
theorem dX6_undo_8 : decode cX6_undo 8 = .ok (.iconst 1, 1) := by decide +kernel
theorem dX6_undo_9 : decode cX6_undo 9 = .ok (.goto 4, 3) := by decide +kernel
theorem dX6_undo_12 : decode cX6_undo 12 = .ok (.iconst 0, 1) := by decide +kernel
theorem dX6_undo_13 : decode cX6_undo 13 = .ok (.invokevirtual 158, 3) := by decide +kernel
theorem dX6_undo_16 : decode cX6_undo 16 = .ok (.ifCond .eq 5, 3) := by decide +kernel
theorem dX6_undo_19 : decode cX6_undo 19 = .ok (.iconst 0, 1) := by decide +kernel
theorem dX6_undo_20 : decode cX6_undo 20 = .ok (.ireturn, 1) := by decide +kernel
theorem dX6_undo_21 : decode cX6_undo 21 = .ok (.aload_n 0, 1) := by decide +kernel
theorem dX6_undo_22 : decode cX6_undo 22 = .ok (.dup, 1) := by decide +kernel
theorem dX6_undo_23 : decode cX6_undo 23 = .ok (.getfield 220, 3) := by decide +kernel
theorem dX6_undo_26 : decode cX6_undo 26 = .ok (.iconst 1, 1) := by decide +kernel
theorem dX6_undo_27 : decode cX6_undo 27 = .ok (.isub, 1) := by decide +kernel
theorem dX6_undo_28 : decode cX6_undo 28 = .ok (.putfield 220, 3) := by decide +kernel
theorem dX6_undo_31 : decode cX6_undo 31 = .ok (.aload_n 0, 1) := by decide +kernel
theorem dX6_undo_32 : decode cX6_undo 32 = .ok (.getfield 19, 3) := by decide +kernel
theorem dX6_undo_35 : decode cX6_undo 35 = .ok (.sipush 2047, 3) := by decide +kernel
theorem dX6_undo_38 : decode cX6_undo 38 = .ok (.aload_n 0, 1) := by decide +kernel
theorem dX6_undo_39 : decode cX6_undo 39 = .ok (.getfield 220, 3) := by decide +kernel
theorem dX6_undo_42 : decode cX6_undo 42 = .ok (.imul, 1) := by decide +kernel
theorem dX6_undo_43 : decode cX6_undo 43 = .ok (.aload_n 0, 1) := by decide +kernel
theorem dX6_undo_44 : decode cX6_undo 44 = .ok (.getfield 13, 3) := by decide +kernel
theorem dX6_undo_47 : decode cX6_undo 47 = .ok (.iconst 0, 1) := by decide +kernel
theorem dX6_undo_48 : decode cX6_undo 48 = .ok (.invokestatic 216, 3) := by decide +kernel
theorem dX6_undo_51 : decode cX6_undo 51 = .ok (.aload_n 0, 1) := by decide +kernel
theorem dX6_undo_52 : decode cX6_undo 52 = .ok (.getfield 220, 3) := by decide +kernel
theorem dX6_undo_55 : decode cX6_undo 55 = .ok (.ireturn, 1) := by decide +kernel
theorem dX6_whyNot_0 : decode cX6_whyNot 0 = .ok (.aload_n 0, 1) := by decide +kernel
theorem dX6_whyNot_1 : decode cX6_whyNot 1 = .ok (.aload_n 0, 1) := by decide +kernel
theorem dX6_whyNot_2 : decode cX6_whyNot 2 = .ok (.getfield 13, 3) := by decide +kernel
theorem dX6_whyNot_5 : decode cX6_whyNot 5 = .ok (.iload_n 1, 1) := by decide +kernel
theorem dX6_whyNot_6 : decode cX6_whyNot 6 = .ok (.invokestatic 189, 3) := by decide +kernel
theorem dX6_whyNot_9 : decode cX6_whyNot 9 = .ok (.ifCond .eq 18, 3) := by decide +kernel
theorem dX6_whyNot_12 : decode cX6_whyNot 12 = .ok (.aload_n 0, 1) := by decide +kernel
theorem dX6_whyNot_13 : decode cX6_whyNot 13 = .ok (.getfield 13, 3) := by decide +kernel
theorem dX6_whyNot_16 : decode cX6_whyNot 16 = .ok (.iload_n 2, 1) := by decide +kernel
theorem dX6_whyNot_17 : decode cX6_whyNot 17 = .ok (.invokestatic 193, 3) := by decide +kernel
theorem dX6_whyNot_20 : decode cX6_whyNot 20 = .ok (.ifCond .eq 7, 3) := by decide +kernel
theorem dX6_whyNot_23 : decode cX6_whyNot 23 = .ok (.iconst 0, 1) := by decide +kernel
theorem dX6_whyNot_24 : decode cX6_whyNot 24 = .ok (.goto 4, 3) := by decide +kernel
theorem dX6_whyNot_27 : decode cX6_whyNot 27 = .ok (.iconst 1, 1) := by decide +kernel
theorem dX6_whyNot_28 : decode cX6_whyNot 28 = .ok (.invokevirtual 158, 3) := by decide +kernel
theorem dX6_whyNot_31 : decode cX6_whyNot 31 = .ok (.ifCond .eq 5, 3) := by decide +kernel
theorem dX6_whyNot_34 : decode cX6_whyNot 34 = .ok (.iconst 0, 1) := by decide +kernel
theorem dX6_whyNot_35 : decode cX6_whyNot 35 = .ok (.ireturn, 1) := by decide +kernel
theorem dX6_whyNot_36 : decode cX6_whyNot 36 = .ok (.aload_n 0, 1) := by decide +kernel
theorem dX6_whyNot_37 : decode cX6_whyNot 37 = .ok (.getfield 13, 3) := by decide +kernel
theorem dX6_whyNot_40 : decode cX6_whyNot 40 = .ok (.iload_n 1, 1) := by decide +kernel
theorem dX6_whyNot_41 : decode cX6_whyNot 41 = .ok (.iload_n 2, 1) := by decide +kernel
theorem dX6_whyNot_42 : decode cX6_whyNot 42 = .ok (.invokestatic 105, 3) := by decide +kernel
theorem dX6_whyNot_45 : decode cX6_whyNot 45 = .ok (.ireturn, 1) := by decide +kernel
theorem dX6_whom_0 : decode cX6_whom 0 = .ok (.aload_n 0, 1) := by decide +kernel
theorem dX6_whom_1 : decode cX6_whom 1 = .ok (.aload_n 0, 1) := by decide +kernel
theorem dX6_whom_2 : decode cX6_whom 2 = .ok (.getfield 13, 3) := by decide +kernel
theorem dX6_whom_5 : decode cX6_whom 5 = .ok (.iload_n 1, 1) := by decide +kernel
theorem dX6_whom_6 : decode cX6_whom 6 = .ok (.invokestatic 189, 3) := by decide +kernel
theorem dX6_whom_9 : decode cX6_whom 9 = .ok (.ifCond .eq 7, 3) := by decide +kernel
theorem dX6_whom_12 : decode cX6_whom 12 = .ok (.iconst 0, 1) := by decide +kernel
theorem dX6_whom_13 : decode cX6_whom 13 = .ok (.goto 4, 3) := by decide +kernel
theorem dX6_whom_16 : decode cX6_whom 16 = .ok (.iconst 1, 1) := by decide +kernel
theorem dX6_whom_17 : decode cX6_whom 17 = .ok (.invokevirtual 158, 3) := by decide +kernel
theorem dX6_whom_20 : decode cX6_whom 20 = .ok (.ifCond .eq 5, 3) := by decide +kernel
theorem dX6_whom_23 : decode cX6_whom 23 = .ok (.iconst 0, 1) := by decide +kernel
theorem dX6_whom_24 : decode cX6_whom 24 = .ok (.ireturn, 1) := by decide +kernel
theorem dX6_whom_25 : decode cX6_whom 25 = .ok (.aload_n 0, 1) := by decide +kernel
theorem dX6_whom_26 : decode cX6_whom 26 = .ok (.getfield 13, 3) := by decide +kernel
theorem dX6_whom_29 : decode cX6_whom 29 = .ok (.iconst 0, 1) := by decide +kernel
theorem dX6_whom_30 : decode cX6_whom 30 = .ok (.aload_n 0, 1) := by decide +kernel
theorem dX6_whom_31 : decode cX6_whom 31 = .ok (.getfield 16, 3) := by decide +kernel
theorem dX6_whom_34 : decode cX6_whom 34 = .ok (.iconst 0, 1) := by decide +kernel
theorem dX6_whom_35 : decode cX6_whom 35 = .ok (.invokestatic 216, 3) := by decide +kernel
theorem dX6_whom_38 : decode cX6_whom 38 = .ok (.aload_n 0, 1) := by decide +kernel
theorem dX6_whom_39 : decode cX6_whom 39 = .ok (.getfield 16, 3) := by decide +kernel
theorem dX6_whom_42 : decode cX6_whom 42 = .ok (.iload_n 1, 1) := by decide +kernel
theorem dX6_whom_43 : decode cX6_whom 43 = .ok (.iconst 5, 1) := by decide +kernel
theorem dX6_whom_44 : decode cX6_whom 44 = .ok (.iconst (-1), 1) := by decide +kernel
theorem dX6_whom_45 : decode cX6_whom 45 = .ok (.invokestatic 63, 3) := by decide +kernel
theorem dX6_whom_48 : decode cX6_whom 48 = .ok (.aload_n 0, 1) := by decide +kernel
theorem dX6_whom_49 : decode cX6_whom 49 = .ok (.getfield 16, 3) := by decide +kernel
theorem dX6_whom_52 : decode cX6_whom 52 = .ok (.iload_n 1, 1) := by decide +kernel
theorem dX6_whom_53 : decode cX6_whom 53 = .ok (.invokestatic 112, 3) := by decide +kernel
theorem dX6_whom_56 : decode cX6_whom 56 = .ok (.ireturn, 1) := by decide +kernel
theorem dX6_coming_0 : decode cX6_coming 0 = .ok (.aload_n 0, 1) := by decide +kernel
theorem dX6_coming_1 : decode cX6_coming 1 = .ok (.iload_n 1, 1) := by decide +kernel
theorem dX6_coming_2 : decode cX6_coming 2 = .ok (.i2l, 1) := by decide +kernel
theorem dX6_coming_3 : decode cX6_coming 3 = .ok (.lconst 1, 1) := by decide +kernel
theorem dX6_coming_4 : decode cX6_coming 4 = .ok (.ldc2_w 247, 3) := by decide +kernel
theorem dX6_coming_7 : decode cX6_coming 7 = .ok (.invokestatic 49, 3) := by decide +kernel
theorem dX6_coming_10 : decode cX6_coming 10 = .ok (.ifCond .eq 19, 3) := by decide +kernel
theorem dX6_coming_13 : decode cX6_coming 13 = .ok (.iload_n 2, 1) := by decide +kernel
theorem dX6_coming_14 : decode cX6_coming 14 = .ok (.i2l, 1) := by decide +kernel
theorem dX6_coming_15 : decode cX6_coming 15 = .ok (.lconst 0, 1) := by decide +kernel
theorem dX6_coming_16 : decode cX6_coming 16 = .ok (.ldc2_w 145, 3) := by decide +kernel
theorem dX6_coming_19 : decode cX6_coming 19 = .ok (.invokestatic 49, 3) := by decide +kernel
theorem dX6_coming_22 : decode cX6_coming 22 = .ok (.ifCond .eq 7, 3) := by decide +kernel
theorem dX6_coming_25 : decode cX6_coming 25 = .ok (.iconst 0, 1) := by decide +kernel
theorem dX6_coming_26 : decode cX6_coming 26 = .ok (.goto 4, 3) := by decide +kernel
theorem dX6_coming_29 : decode cX6_coming 29 = .ok (.iconst 1, 1) := by decide +kernel
theorem dX6_coming_30 : decode cX6_coming 30 = .ok (.invokevirtual 158, 3) := by decide +kernel
theorem dX6_coming_33 : decode cX6_coming 33 = .ok (.ifCond .eq 5, 3) := by decide +kernel
theorem dX6_coming_36 : decode cX6_coming 36 = .ok (.iconst 0, 1) := by decide +kernel
theorem dX6_coming_37 : decode cX6_coming 37 = .ok (.ireturn, 1) := by decide +kernel
theorem dX6_coming_38 : decode cX6_coming 38 = .ok (.aload_n 0, 1) := by decide +kernel
theorem dX6_coming_39 : decode cX6_coming 39 = .ok (.getfield 13, 3) := by decide +kernel
theorem dX6_coming_42 : decode cX6_coming 42 = .ok (.iconst 0, 1) := by decide +kernel
theorem dX6_coming_43 : decode cX6_coming 43 = .ok (.aload_n 0, 1) := by decide +kernel
theorem dX6_coming_44 : decode cX6_coming 44 = .ok (.getfield 16, 3) := by decide +kernel
theorem dX6_coming_47 : decode cX6_coming 47 = .ok (.iconst 0, 1) := by decide +kernel
theorem dX6_coming_48 : decode cX6_coming 48 = .ok (.invokestatic 216, 3) := by decide +kernel
theorem dX6_coming_51 : decode cX6_coming 51 = .ok (.aload_n 0, 1) := by decide +kernel
theorem dX6_coming_52 : decode cX6_coming 52 = .ok (.getfield 16, 3) := by decide +kernel
theorem dX6_coming_55 : decode cX6_coming 55 = .ok (.iload_n 1, 1) := by decide +kernel
theorem dX6_coming_56 : decode cX6_coming 56 = .ok (.invokestatic 207, 3) := by decide +kernel
theorem dX6_coming_59 : decode cX6_coming 59 = .ok (.pop, 1) := by decide +kernel
theorem dX6_coming_60 : decode cX6_coming 60 = .ok (.iload_n 2, 1) := by decide +kernel
theorem dX6_coming_61 : decode cX6_coming 61 = .ok (.iconst 3, 1) := by decide +kernel
theorem dX6_coming_62 : decode cX6_coming 62 = .ok (.if_icmp .ne 12, 3) := by decide +kernel
theorem dX6_coming_65 : decode cX6_coming 65 = .ok (.aload_n 0, 1) := by decide +kernel
theorem dX6_coming_66 : decode cX6_coming 66 = .ok (.getfield 16, 3) := by decide +kernel
theorem dX6_coming_69 : decode cX6_coming 69 = .ok (.iconst 2, 1) := by decide +kernel
theorem dX6_coming_70 : decode cX6_coming 70 = .ok (.iaload, 1) := by decide +kernel
theorem dX6_coming_71 : decode cX6_coming 71 = .ok (.goto 20, 3) := by decide +kernel
theorem dX6_coming_74 : decode cX6_coming 74 = .ok (.aload_n 0, 1) := by decide +kernel
theorem dX6_coming_75 : decode cX6_coming 75 = .ok (.getfield 16, 3) := by decide +kernel
theorem dX6_coming_78 : decode cX6_coming 78 = .ok (.iconst 4, 1) := by decide +kernel
theorem dX6_coming_79 : decode cX6_coming 79 = .ok (.iload_n 2, 1) := by decide +kernel
theorem dX6_coming_80 : decode cX6_coming 80 = .ok (.iadd, 1) := by decide +kernel
theorem dX6_coming_81 : decode cX6_coming 81 = .ok (.iaload, 1) := by decide +kernel
theorem dX6_coming_82 : decode cX6_coming 82 = .ok (.aload_n 0, 1) := by decide +kernel
theorem dX6_coming_83 : decode cX6_coming 83 = .ok (.getfield 13, 3) := by decide +kernel
theorem dX6_coming_86 : decode cX6_coming 86 = .ok (.iconst 4, 1) := by decide +kernel
theorem dX6_coming_87 : decode cX6_coming 87 = .ok (.iload_n 2, 1) := by decide +kernel
theorem dX6_coming_88 : decode cX6_coming 88 = .ok (.iadd, 1) := by decide +kernel
theorem dX6_coming_89 : decode cX6_coming 89 = .ok (.iaload, 1) := by decide +kernel
theorem dX6_coming_90 : decode cX6_coming 90 = .ok (.isub, 1) := by decide +kernel
theorem dX6_coming_91 : decode cX6_coming 91 = .ok (.ireturn, 1) := by decide +kernel
theorem dX6_emptyIn_0 : decode cX6_emptyIn 0 = .ok (.aload_n 0, 1) := by decide +kernel
theorem dX6_emptyIn_1 : decode cX6_emptyIn 1 = .ok (.aload_n 0, 1) := by decide +kernel
theorem dX6_emptyIn_2 : decode cX6_emptyIn 2 = .ok (.getfield 13, 3) := by decide +kernel
theorem dX6_emptyIn_5 : decode cX6_emptyIn 5 = .ok (.iload_n 1, 1) := by decide +kernel
theorem dX6_emptyIn_6 : decode cX6_emptyIn 6 = .ok (.invokestatic 193, 3) := by decide +kernel
theorem dX6_emptyIn_9 : decode cX6_emptyIn 9 = .ok (.ifCond .eq 7, 3) := by decide +kernel
theorem dX6_emptyIn_12 : decode cX6_emptyIn 12 = .ok (.iconst 0, 1) := by decide +kernel
theorem dX6_emptyIn_13 : decode cX6_emptyIn 13 = .ok (.goto 4, 3) := by decide +kernel
theorem dX6_emptyIn_16 : decode cX6_emptyIn 16 = .ok (.iconst 1, 1) := by decide +kernel
theorem dX6_emptyIn_17 : decode cX6_emptyIn 17 = .ok (.invokevirtual 158, 3) := by decide +kernel
theorem dX6_emptyIn_20 : decode cX6_emptyIn 20 = .ok (.ifCond .eq 5, 3) := by decide +kernel
theorem dX6_emptyIn_23 : decode cX6_emptyIn 23 = .ok (.iconst 0, 1) := by decide +kernel
theorem dX6_emptyIn_24 : decode cX6_emptyIn 24 = .ok (.ireturn, 1) := by decide +kernel
theorem dX6_emptyIn_25 : decode cX6_emptyIn 25 = .ok (.aload_n 0, 1) := by decide +kernel
theorem dX6_emptyIn_26 : decode cX6_emptyIn 26 = .ok (.getfield 13, 3) := by decide +kernel
theorem dX6_emptyIn_29 : decode cX6_emptyIn 29 = .ok (.iconst 0, 1) := by decide +kernel
theorem dX6_emptyIn_30 : decode cX6_emptyIn 30 = .ok (.aload_n 0, 1) := by decide +kernel
theorem dX6_emptyIn_31 : decode cX6_emptyIn 31 = .ok (.getfield 16, 3) := by decide +kernel
theorem dX6_emptyIn_34 : decode cX6_emptyIn 34 = .ok (.iconst 0, 1) := by decide +kernel
theorem dX6_emptyIn_35 : decode cX6_emptyIn 35 = .ok (.invokestatic 216, 3) := by decide +kernel
theorem dX6_emptyIn_38 : decode cX6_emptyIn 38 = .ok (.iconst 0, 1) := by decide +kernel
theorem dX6_emptyIn_39 : decode cX6_emptyIn 39 = .ok (.istore_n 2, 1) := by decide +kernel
theorem dX6_emptyIn_40 : decode cX6_emptyIn 40 = .ok (.iload_n 2, 1) := by decide +kernel
theorem dX6_emptyIn_41 : decode cX6_emptyIn 41 = .ok (.bipush 60, 2) := by decide +kernel
theorem dX6_emptyIn_43 : decode cX6_emptyIn 43 = .ok (.if_icmp .gt 30, 3) := by decide +kernel
theorem dX6_emptyIn_46 : decode cX6_emptyIn 46 = .ok (.aload_n 0, 1) := by decide +kernel
theorem dX6_emptyIn_47 : decode cX6_emptyIn 47 = .ok (.getfield 16, 3) := by decide +kernel
theorem dX6_emptyIn_50 : decode cX6_emptyIn 50 = .ok (.iload_n 1, 1) := by decide +kernel
theorem dX6_emptyIn_51 : decode cX6_emptyIn 51 = .ok (.iconst 0, 1) := by decide +kernel
theorem dX6_emptyIn_52 : decode cX6_emptyIn 52 = .ok (.invokestatic 108, 3) := by decide +kernel
theorem dX6_emptyIn_55 : decode cX6_emptyIn 55 = .ok (.ifCond .ne 5, 3) := by decide +kernel
theorem dX6_emptyIn_58 : decode cX6_emptyIn 58 = .ok (.iload_n 2, 1) := by decide +kernel
theorem dX6_emptyIn_59 : decode cX6_emptyIn 59 = .ok (.ireturn, 1) := by decide +kernel
theorem dX6_emptyIn_60 : decode cX6_emptyIn 60 = .ok (.aload_n 0, 1) := by decide +kernel
theorem dX6_emptyIn_61 : decode cX6_emptyIn 61 = .ok (.getfield 16, 3) := by decide +kernel
theorem dX6_emptyIn_64 : decode cX6_emptyIn 64 = .ok (.invokestatic 142, 3) := by decide +kernel
theorem dX6_emptyIn_67 : decode cX6_emptyIn 67 = .ok (.iinc 2 1, 3) := by decide +kernel
theorem dX6_emptyIn_70 : decode cX6_emptyIn 70 = .ok (.goto (-30), 3) := by decide +kernel
theorem dX6_emptyIn_73 : decode cX6_emptyIn 73 = .ok (.iconst (-1), 1) := by decide +kernel
theorem dX6_emptyIn_74 : decode cX6_emptyIn 74 = .ok (.ireturn, 1) := by decide +kernel
theorem dX6_finesWith_0 : decode cX6_finesWith 0 = .ok (.aload_n 0, 1) := by decide +kernel
theorem dX6_finesWith_1 : decode cX6_finesWith 1 = .ok (.getfield 13, 3) := by decide +kernel
theorem dX6_finesWith_4 : decode cX6_finesWith 4 = .ok (.iconst 0, 1) := by decide +kernel
theorem dX6_finesWith_5 : decode cX6_finesWith 5 = .ok (.aload_n 0, 1) := by decide +kernel
theorem dX6_finesWith_6 : decode cX6_finesWith 6 = .ok (.getfield 16, 3) := by decide +kernel
theorem dX6_finesWith_9 : decode cX6_finesWith 9 = .ok (.iconst 0, 1) := by decide +kernel
theorem dX6_finesWith_10 : decode cX6_finesWith 10 = .ok (.invokestatic 216, 3) := by decide +kernel
theorem dX6_finesWith_13 : decode cX6_finesWith 13 = .ok (.iload_n 1, 1) := by decide +kernel
theorem dX6_finesWith_14 : decode cX6_finesWith 14 = .ok (.iconst (-1), 1) := by decide +kernel
theorem dX6_finesWith_15 : decode cX6_finesWith 15 = .ok (.if_icmp .eq 12, 3) := by decide +kernel
theorem dX6_finesWith_18 : decode cX6_finesWith 18 = .ok (.aload_n 0, 1) := by decide +kernel
theorem dX6_finesWith_19 : decode cX6_finesWith 19 = .ok (.getfield 16, 3) := by decide +kernel
theorem dX6_finesWith_22 : decode cX6_finesWith 22 = .ok (.iload_n 1, 1) := by decide +kernel
theorem dX6_finesWith_23 : decode cX6_finesWith 23 = .ok (.invokestatic 183, 3) := by decide +kernel
theorem dX6_finesWith_26 : decode cX6_finesWith 26 = .ok (.pop, 1) := by decide +kernel
theorem dX6_finesWith_27 : decode cX6_finesWith 27 = .ok (.aload_n 0, 1) := by decide +kernel
theorem dX6_finesWith_28 : decode cX6_finesWith 28 = .ok (.getfield 16, 3) := by decide +kernel
theorem dX6_finesWith_31 : decode cX6_finesWith 31 = .ok (.invokestatic 203, 3) := by decide +kernel
theorem dX6_finesWith_34 : decode cX6_finesWith 34 = .ok (.pop, 1) := by decide +kernel
theorem dX6_finesWith_35 : decode cX6_finesWith 35 = .ok (.aload_n 0, 1) := by decide +kernel
theorem dX6_finesWith_36 : decode cX6_finesWith 36 = .ok (.getfield 16, 3) := by decide +kernel
theorem dX6_finesWith_39 : decode cX6_finesWith 39 = .ok (.iload_n 2, 1) := by decide +kernel
theorem dX6_finesWith_40 : decode cX6_finesWith 40 = .ok (.invokestatic 207, 3) := by decide +kernel
theorem dX6_finesWith_43 : decode cX6_finesWith 43 = .ok (.ireturn, 1) := by decide +kernel
theorem dX6_ifHired_0 : decode cX6_ifHired 0 = .ok (.aload_n 0, 1) := by decide +kernel
theorem dX6_ifHired_1 : decode cX6_ifHired 1 = .ok (.iload_n 1, 1) := by decide +kernel
theorem dX6_ifHired_2 : decode cX6_ifHired 2 = .ok (.i2l, 1) := by decide +kernel
theorem dX6_ifHired_3 : decode cX6_ifHired 3 = .ok (.lconst 1, 1) := by decide +kernel
theorem dX6_ifHired_4 : decode cX6_ifHired 4 = .ok (.ldc2_w 232, 3) := by decide +kernel
theorem dX6_ifHired_7 : decode cX6_ifHired 7 = .ok (.invokestatic 49, 3) := by decide +kernel
theorem dX6_ifHired_10 : decode cX6_ifHired 10 = .ok (.ifCond .eq 15, 3) := by decide +kernel
theorem dX6_ifHired_13 : decode cX6_ifHired 13 = .ok (.iload_n 2, 1) := by decide +kernel
theorem dX6_ifHired_14 : decode cX6_ifHired 14 = .ok (.i2l, 1) := by decide +kernel
theorem dX6_ifHired_15 : decode cX6_ifHired 15 = .ok (.lconst 1, 1) := by decide +kernel
theorem dX6_ifHired_16 : decode cX6_ifHired 16 = .ok (.ldc2_w 149, 3) := by decide +kernel
theorem dX6_ifHired_19 : decode cX6_ifHired 19 = .ok (.invokestatic 49, 3) := by decide +kernel
theorem dX6_ifHired_22 : decode cX6_ifHired 22 = .ok (.ifCond .ne 7, 3) := by decide +kernel
theorem dX6_ifHired_25 : decode cX6_ifHired 25 = .ok (.iconst 1, 1) := by decide +kernel
theorem dX6_ifHired_26 : decode cX6_ifHired 26 = .ok (.goto 18, 3) := by decide +kernel
theorem dX6_ifHired_29 : decode cX6_ifHired 29 = .ok (.aload_n 0, 1) := by decide +kernel
theorem dX6_ifHired_30 : decode cX6_ifHired 30 = .ok (.getfield 13, 3) := by decide +kernel
theorem dX6_ifHired_33 : decode cX6_ifHired 33 = .ok (.invokestatic 179, 3) := by decide +kernel
theorem dX6_ifHired_36 : decode cX6_ifHired 36 = .ok (.ifCond .eq 7, 3) := by decide +kernel
theorem dX6_ifHired_39 : decode cX6_ifHired 39 = .ok (.iconst 0, 1) := by decide +kernel
theorem dX6_ifHired_40 : decode cX6_ifHired 40 = .ok (.goto 4, 3) := by decide +kernel
theorem dX6_ifHired_43 : decode cX6_ifHired 43 = .ok (.iconst 2, 1) := by decide +kernel
theorem dX6_ifHired_44 : decode cX6_ifHired 44 = .ok (.invokevirtual 158, 3) := by decide +kernel
theorem dX6_ifHired_47 : decode cX6_ifHired 47 = .ok (.ifCond .eq 5, 3) := by decide +kernel
theorem dX6_ifHired_50 : decode cX6_ifHired 50 = .ok (.iconst 0, 1) := by decide +kernel
theorem dX6_ifHired_51 : decode cX6_ifHired 51 = .ok (.ireturn, 1) := by decide +kernel
theorem dX6_ifHired_52 : decode cX6_ifHired 52 = .ok (.aload_n 0, 1) := by decide +kernel
theorem dX6_ifHired_53 : decode cX6_ifHired 53 = .ok (.iconst (-1), 1) := by decide +kernel
theorem dX6_ifHired_54 : decode cX6_ifHired 54 = .ok (.iload_n 2, 1) := by decide +kernel
theorem dX6_ifHired_55 : decode cX6_ifHired 55 = .ok (.invokevirtual 249, 3) := by decide +kernel
theorem dX6_ifHired_58 : decode cX6_ifHired 58 = .ok (.istore_n 3, 1) := by decide +kernel
theorem dX6_ifHired_59 : decode cX6_ifHired 59 = .ok (.iload_n 3, 1) := by decide +kernel
theorem dX6_ifHired_60 : decode cX6_ifHired 60 = .ok (.aload_n 0, 1) := by decide +kernel
theorem dX6_ifHired_61 : decode cX6_ifHired 61 = .ok (.iload_n 1, 1) := by decide +kernel
theorem dX6_ifHired_62 : decode cX6_ifHired 62 = .ok (.iload_n 2, 1) := by decide +kernel
theorem dX6_ifHired_63 : decode cX6_ifHired 63 = .ok (.invokevirtual 249, 3) := by decide +kernel
theorem dX6_ifHired_66 : decode cX6_ifHired 66 = .ok (.isub, 1) := by decide +kernel
theorem dX6_ifHired_67 : decode cX6_ifHired 67 = .ok (.ireturn, 1) := by decide +kernel
theorem dX6_freeRoom_0 : decode cX6_freeRoom 0 = .ok (.aload_n 0, 1) := by decide +kernel
theorem dX6_freeRoom_1 : decode cX6_freeRoom 1 = .ok (.aload_n 0, 1) := by decide +kernel
theorem dX6_freeRoom_2 : decode cX6_freeRoom 2 = .ok (.getfield 13, 3) := by decide +kernel
theorem dX6_freeRoom_5 : decode cX6_freeRoom 5 = .ok (.iload_n 1, 1) := by decide +kernel
theorem dX6_freeRoom_6 : decode cX6_freeRoom 6 = .ok (.iload_n 2, 1) := by decide +kernel
theorem dX6_freeRoom_7 : decode cX6_freeRoom 7 = .ok (.iload_n 3, 1) := by decide +kernel
theorem dX6_freeRoom_8 : decode cX6_freeRoom 8 = .ok (.invokestatic 79, 3) := by decide +kernel
theorem dX6_freeRoom_11 : decode cX6_freeRoom 11 = .ok (.ifCond .eq 7, 3) := by decide +kernel
theorem dX6_freeRoom_14 : decode cX6_freeRoom 14 = .ok (.iconst 0, 1) := by decide +kernel
theorem dX6_freeRoom_15 : decode cX6_freeRoom 15 = .ok (.goto 4, 3) := by decide +kernel
theorem dX6_freeRoom_18 : decode cX6_freeRoom 18 = .ok (.iconst 1, 1) := by decide +kernel
theorem dX6_freeRoom_19 : decode cX6_freeRoom 19 = .ok (.invokevirtual 158, 3) := by decide +kernel
theorem dX6_freeRoom_22 : decode cX6_freeRoom 22 = .ok (.ifCond .eq 5, 3) := by decide +kernel
theorem dX6_freeRoom_25 : decode cX6_freeRoom 25 = .ok (.iconst 0, 1) := by decide +kernel
theorem dX6_freeRoom_26 : decode cX6_freeRoom 26 = .ok (.ireturn, 1) := by decide +kernel
theorem dX6_freeRoom_27 : decode cX6_freeRoom 27 = .ok (.iconst 0, 1) := by decide +kernel
theorem dX6_freeRoom_28 : decode cX6_freeRoom 28 = .ok (.istore 4, 2) := by decide +kernel
theorem dX6_freeRoom_30 : decode cX6_freeRoom 30 = .ok (.iload 4, 2) := by decide +kernel
theorem dX6_freeRoom_32 : decode cX6_freeRoom 32 = .ok (.iconst 5, 1) := by decide +kernel
theorem dX6_freeRoom_33 : decode cX6_freeRoom 33 = .ok (.if_icmp .ge 27, 3) := by decide +kernel
theorem dX6_freeRoom_36 : decode cX6_freeRoom 36 = .ok (.aload_n 0, 1) := by decide +kernel
theorem dX6_freeRoom_37 : decode cX6_freeRoom 37 = .ok (.getfield 13, 3) := by decide +kernel
theorem dX6_freeRoom_40 : decode cX6_freeRoom 40 = .ok (.iload 4, 2) := by decide +kernel
theorem dX6_freeRoom_42 : decode cX6_freeRoom 42 = .ok (.iload_n 1, 1) := by decide +kernel
theorem dX6_freeRoom_43 : decode cX6_freeRoom 43 = .ok (.iload_n 2, 1) := by decide +kernel
theorem dX6_freeRoom_44 : decode cX6_freeRoom 44 = .ok (.iload_n 3, 1) := by decide +kernel
theorem dX6_freeRoom_45 : decode cX6_freeRoom 45 = .ok (.invokestatic 85, 3) := by decide +kernel
theorem dX6_freeRoom_48 : decode cX6_freeRoom 48 = .ok (.ifCond .eq 6, 3) := by decide +kernel
theorem dX6_freeRoom_51 : decode cX6_freeRoom 51 = .ok (.iload 4, 2) := by decide +kernel
theorem dX6_freeRoom_53 : decode cX6_freeRoom 53 = .ok (.ireturn, 1) := by decide +kernel
theorem dX6_freeRoom_54 : decode cX6_freeRoom 54 = .ok (.iinc 4 1, 3) := by decide +kernel
theorem dX6_freeRoom_57 : decode cX6_freeRoom 57 = .ok (.goto (-27), 3) := by decide +kernel
theorem dX6_freeRoom_60 : decode cX6_freeRoom 60 = .ok (.iconst (-1), 1) := by decide +kernel
theorem dX6_freeRoom_61 : decode cX6_freeRoom 61 = .ok (.ireturn, 1) := by decide +kernel
theorem dX6_command_0 : decode cX6_command 0 = .ok (.iload_n 2, 1) := by decide +kernel
theorem dX6_command_1 : decode cX6_command 1 = .ok (.sipush 1000, 3) := by decide +kernel
theorem dX6_command_4 : decode cX6_command 4 = .ok (.idiv, 1) := by decide +kernel
theorem dX6_command_5 : decode cX6_command 5 = .ok (.istore_n 3, 1) := by decide +kernel
theorem dX6_command_6 : decode cX6_command 6 = .ok (.iload_n 2, 1) := by decide +kernel
theorem dX6_command_7 : decode cX6_command 7 = .ok (.bipush 100, 2) := by decide +kernel
theorem dX6_command_9 : decode cX6_command 9 = .ok (.idiv, 1) := by decide +kernel
theorem dX6_command_10 : decode cX6_command 10 = .ok (.istore 4, 2) := by decide +kernel
theorem dX6_command_12 : decode cX6_command 12 = .ok (.iload_n 2, 1) := by decide +kernel
theorem dX6_command_13 : decode cX6_command 13 = .ok (.bipush 100, 2) := by decide +kernel
theorem dX6_command_15 : decode cX6_command 15 = .ok (.irem, 1) := by decide +kernel
theorem dX6_command_16 : decode cX6_command 16 = .ok (.istore 5, 2) := by decide +kernel
theorem dX6_command_18 : decode cX6_command 18 = .ok (.iload_n 2, 1) := by decide +kernel
theorem dX6_command_19 : decode cX6_command 19 = .ok (.bipush 10, 2) := by decide +kernel
theorem dX6_command_21 : decode cX6_command 21 = .ok (.idiv, 1) := by decide +kernel
theorem dX6_command_22 : decode cX6_command 22 = .ok (.bipush 100, 2) := by decide +kernel
theorem dX6_command_24 : decode cX6_command 24 = .ok (.irem, 1) := by decide +kernel
theorem dX6_command_25 : decode cX6_command 25 = .ok (.istore 6, 2) := by decide +kernel
theorem dX6_command_27 : decode cX6_command 27 = .ok (.iload_n 2, 1) := by decide +kernel
theorem dX6_command_28 : decode cX6_command 28 = .ok (.bipush 10, 2) := by decide +kernel
theorem dX6_command_30 : decode cX6_command 30 = .ok (.idiv, 1) := by decide +kernel
theorem dX6_command_31 : decode cX6_command 31 = .ok (.bipush 10, 2) := by decide +kernel
theorem dX6_command_33 : decode cX6_command 33 = .ok (.irem, 1) := by decide +kernel
theorem dX6_command_34 : decode cX6_command 34 = .ok (.istore 7, 2) := by decide +kernel
theorem dX6_command_36 : decode cX6_command 36 = .ok (.iload_n 1, 1) := by decide +kernel
theorem dX6_command_37 : decode cX6_command 37 = .ok (.tableswitch 439 1 9 #[51, 106, 172, 192, 238, 289, 325, 349, 387], 51) := by decide +kernel
theorem dX6_command_88 : decode cX6_command 88 = .ok (.aload_n 0, 1) := by decide +kernel
theorem dX6_command_89 : decode cX6_command 89 = .ok (.getfield 16, 3) := by decide +kernel
theorem dX6_command_92 : decode cX6_command 92 = .ok (.iload_n 3, 1) := by decide +kernel
theorem dX6_command_93 : decode cX6_command 93 = .ok (.aload_n 0, 1) := by decide +kernel
theorem dX6_command_94 : decode cX6_command 94 = .ok (.getfield 16, 3) := by decide +kernel
theorem dX6_command_97 : decode cX6_command 97 = .ok (.iconst 3, 1) := by decide +kernel
theorem dX6_command_98 : decode cX6_command 98 = .ok (.iaload, 1) := by decide +kernel
theorem dX6_command_99 : decode cX6_command 99 = .ok (.iload 6, 2) := by decide +kernel
theorem dX6_command_101 : decode cX6_command 101 = .ok (.iload_n 2, 1) := by decide +kernel
theorem dX6_command_102 : decode cX6_command 102 = .ok (.bipush 10, 2) := by decide +kernel
theorem dX6_command_104 : decode cX6_command 104 = .ok (.irem, 1) := by decide +kernel
theorem dX6_command_105 : decode cX6_command 105 = .ok (.iconst 3, 1) := by decide +kernel
theorem dX6_command_106 : decode cX6_command 106 = .ok (.invokestatic 171, 3) := by decide +kernel
theorem dX6_command_109 : decode cX6_command 109 = .ok (.ifCond .eq 32, 3) := by decide +kernel
theorem dX6_command_112 : decode cX6_command 112 = .ok (.aload_n 0, 1) := by decide +kernel
theorem dX6_command_113 : decode cX6_command 113 = .ok (.getfield 16, 3) := by decide +kernel
theorem dX6_command_116 : decode cX6_command 116 = .ok (.iload_n 3, 1) := by decide +kernel
theorem dX6_command_117 : decode cX6_command 117 = .ok (.aload_n 0, 1) := by decide +kernel
theorem dX6_command_118 : decode cX6_command 118 = .ok (.getfield 16, 3) := by decide +kernel
theorem dX6_command_121 : decode cX6_command 121 = .ok (.iconst 3, 1) := by decide +kernel
theorem dX6_command_122 : decode cX6_command 122 = .ok (.iaload, 1) := by decide +kernel
theorem dX6_command_123 : decode cX6_command 123 = .ok (.iload 6, 2) := by decide +kernel
theorem dX6_command_125 : decode cX6_command 125 = .ok (.iload_n 2, 1) := by decide +kernel
theorem dX6_command_126 : decode cX6_command 126 = .ok (.bipush 10, 2) := by decide +kernel
theorem dX6_command_128 : decode cX6_command 128 = .ok (.irem, 1) := by decide +kernel
theorem dX6_command_129 : decode cX6_command 129 = .ok (.iconst 3, 1) := by decide +kernel
theorem dX6_command_130 : decode cX6_command 130 = .ok (.iconst (-1), 1) := by decide +kernel
theorem dX6_command_131 : decode cX6_command 131 = .ok (.invokestatic 121, 3) := by decide +kernel
theorem dX6_command_134 : decode cX6_command 134 = .ok (.ifCond .lt 7, 3) := by decide +kernel
theorem dX6_command_137 : decode cX6_command 137 = .ok (.iconst 1, 1) := by decide +kernel
theorem dX6_command_138 : decode cX6_command 138 = .ok (.goto 4, 3) := by decide +kernel
theorem dX6_command_141 : decode cX6_command 141 = .ok (.iconst 0, 1) := by decide +kernel
theorem dX6_command_142 : decode cX6_command 142 = .ok (.ireturn, 1) := by decide +kernel
theorem dX6_command_143 : decode cX6_command 143 = .ok (.iload_n 2, 1) := by decide +kernel
theorem dX6_command_144 : decode cX6_command 144 = .ok (.bipush 10, 2) := by decide +kernel
theorem dX6_command_146 : decode cX6_command 146 = .ok (.irem, 1) := by decide +kernel
theorem dX6_command_147 : decode cX6_command 147 = .ok (.ifCond .ne 60, 3) := by decide +kernel
theorem dX6_command_150 : decode cX6_command 150 = .ok (.aload_n 0, 1) := by decide +kernel
theorem dX6_command_151 : decode cX6_command 151 = .ok (.getfield 16, 3) := by decide +kernel
theorem dX6_command_154 : decode cX6_command 154 = .ok (.iload 4, 2) := by decide +kernel
theorem dX6_command_156 : decode cX6_command 156 = .ok (.invokestatic 189, 3) := by decide +kernel
theorem dX6_command_159 : decode cX6_command 159 = .ok (.ifCond .eq 48, 3) := by decide +kernel
theorem dX6_command_162 : decode cX6_command 162 = .ok (.aload_n 0, 1) := by decide +kernel
theorem dX6_command_163 : decode cX6_command 163 = .ok (.getfield 16, 3) := by decide +kernel
theorem dX6_command_166 : decode cX6_command 166 = .ok (.iload 7, 2) := by decide +kernel
theorem dX6_command_168 : decode cX6_command 168 = .ok (.invokestatic 193, 3) := by decide +kernel
theorem dX6_command_171 : decode cX6_command 171 = .ok (.ifCond .eq 36, 3) := by decide +kernel
theorem dX6_command_174 : decode cX6_command 174 = .ok (.aload_n 0, 1) := by decide +kernel
theorem dX6_command_175 : decode cX6_command 175 = .ok (.getfield 16, 3) := by decide +kernel
theorem dX6_command_178 : decode cX6_command 178 = .ok (.iload 4, 2) := by decide +kernel
theorem dX6_command_180 : decode cX6_command 180 = .ok (.iload 7, 2) := by decide +kernel
theorem dX6_command_182 : decode cX6_command 182 = .ok (.invokestatic 196, 3) := by decide +kernel
theorem dX6_command_185 : decode cX6_command 185 = .ok (.ifCond .eq 22, 3) := by decide +kernel
theorem dX6_command_188 : decode cX6_command 188 = .ok (.aload_n 0, 1) := by decide +kernel
theorem dX6_command_189 : decode cX6_command 189 = .ok (.getfield 16, 3) := by decide +kernel
theorem dX6_command_192 : decode cX6_command 192 = .ok (.iload 4, 2) := by decide +kernel
theorem dX6_command_194 : decode cX6_command 194 = .ok (.iload 7, 2) := by decide +kernel
theorem dX6_command_196 : decode cX6_command 196 = .ok (.invokestatic 200, 3) := by decide +kernel
theorem dX6_command_199 : decode cX6_command 199 = .ok (.iconst (-1), 1) := by decide +kernel
theorem dX6_command_200 : decode cX6_command 200 = .ok (.if_icmp .lt 7, 3) := by decide +kernel
theorem dX6_command_203 : decode cX6_command 203 = .ok (.iconst 1, 1) := by decide +kernel
theorem dX6_command_204 : decode cX6_command 204 = .ok (.goto 4, 3) := by decide +kernel
theorem dX6_command_207 : decode cX6_command 207 = .ok (.iconst 0, 1) := by decide +kernel
theorem dX6_command_208 : decode cX6_command 208 = .ok (.ireturn, 1) := by decide +kernel
theorem dX6_command_209 : decode cX6_command 209 = .ok (.iload_n 2, 1) := by decide +kernel
theorem dX6_command_210 : decode cX6_command 210 = .ok (.ifCond .ne 17, 3) := by decide +kernel
theorem dX6_command_213 : decode cX6_command 213 = .ok (.aload_n 0, 1) := by decide +kernel
theorem dX6_command_214 : decode cX6_command 214 = .ok (.getfield 16, 3) := by decide +kernel
theorem dX6_command_217 : decode cX6_command 217 = .ok (.invokestatic 203, 3) := by decide +kernel
theorem dX6_command_220 : decode cX6_command 220 = .ok (.ifCond .lt 7, 3) := by decide +kernel
theorem dX6_command_223 : decode cX6_command 223 = .ok (.iconst 1, 1) := by decide +kernel
theorem dX6_command_224 : decode cX6_command 224 = .ok (.goto 4, 3) := by decide +kernel
theorem dX6_command_227 : decode cX6_command 227 = .ok (.iconst 0, 1) := by decide +kernel
theorem dX6_command_228 : decode cX6_command 228 = .ok (.ireturn, 1) := by decide +kernel
theorem dX6_command_229 : decode cX6_command 229 = .ok (.aload_n 0, 1) := by decide +kernel
theorem dX6_command_230 : decode cX6_command 230 = .ok (.getfield 16, 3) := by decide +kernel
theorem dX6_command_233 : decode cX6_command 233 = .ok (.iload 4, 2) := by decide +kernel
theorem dX6_command_235 : decode cX6_command 235 = .ok (.invokestatic 189, 3) := by decide +kernel
theorem dX6_command_238 : decode cX6_command 238 = .ok (.ifCond .eq 35, 3) := by decide +kernel
theorem dX6_command_241 : decode cX6_command 241 = .ok (.iload 5, 2) := by decide +kernel
theorem dX6_command_243 : decode cX6_command 243 = .ok (.i2l, 1) := by decide +kernel
theorem dX6_command_244 : decode cX6_command 244 = .ok (.lconst 1, 1) := by decide +kernel
theorem dX6_command_245 : decode cX6_command 245 = .ok (.ldc2_w 147, 3) := by decide +kernel
theorem dX6_command_248 : decode cX6_command 248 = .ok (.invokestatic 49, 3) := by decide +kernel
theorem dX6_command_251 : decode cX6_command 251 = .ok (.ifCond .eq 22, 3) := by decide +kernel
theorem dX6_command_254 : decode cX6_command 254 = .ok (.aload_n 0, 1) := by decide +kernel
theorem dX6_command_255 : decode cX6_command 255 = .ok (.aload_n 0, 1) := by decide +kernel
theorem dX6_command_256 : decode cX6_command 256 = .ok (.getfield 16, 3) := by decide +kernel
theorem dX6_command_259 : decode cX6_command 259 = .ok (.iload 4, 2) := by decide +kernel
theorem dX6_command_261 : decode cX6_command 261 = .ok (.iload 5, 2) := by decide +kernel
theorem dX6_command_263 : decode cX6_command 263 = .ok (.invokevirtual 237, 3) := by decide +kernel
theorem dX6_command_266 : decode cX6_command 266 = .ok (.ifCond .le 7, 3) := by decide +kernel
theorem dX6_command_269 : decode cX6_command 269 = .ok (.iconst 1, 1) := by decide +kernel
theorem dX6_command_270 : decode cX6_command 270 = .ok (.goto 4, 3) := by decide +kernel
theorem dX6_command_273 : decode cX6_command 273 = .ok (.iconst 0, 1) := by decide +kernel
theorem dX6_command_274 : decode cX6_command 274 = .ok (.ireturn, 1) := by decide +kernel
theorem dX6_command_275 : decode cX6_command 275 = .ok (.iload 4, 2) := by decide +kernel
theorem dX6_command_277 : decode cX6_command 277 = .ok (.bipush 10, 2) := by decide +kernel
theorem dX6_command_279 : decode cX6_command 279 = .ok (.irem, 1) := by decide +kernel
theorem dX6_command_280 : decode cX6_command 280 = .ok (.ifCond .ne 44, 3) := by decide +kernel
theorem dX6_command_283 : decode cX6_command 283 = .ok (.aload_n 0, 1) := by decide +kernel
theorem dX6_command_284 : decode cX6_command 284 = .ok (.getfield 16, 3) := by decide +kernel
theorem dX6_command_287 : decode cX6_command 287 = .ok (.iload_n 3, 1) := by decide +kernel
theorem dX6_command_288 : decode cX6_command 288 = .ok (.invokestatic 193, 3) := by decide +kernel
theorem dX6_command_291 : decode cX6_command 291 = .ok (.ifCond .eq 33, 3) := by decide +kernel
theorem dX6_command_294 : decode cX6_command 294 = .ok (.iload 5, 2) := by decide +kernel
theorem dX6_command_296 : decode cX6_command 296 = .ok (.i2l, 1) := by decide +kernel
theorem dX6_command_297 : decode cX6_command 297 = .ok (.lconst 0, 1) := by decide +kernel
theorem dX6_command_298 : decode cX6_command 298 = .ok (.ldc2_w 149, 3) := by decide +kernel
theorem dX6_command_301 : decode cX6_command 301 = .ok (.invokestatic 49, 3) := by decide +kernel
theorem dX6_command_304 : decode cX6_command 304 = .ok (.ifCond .eq 20, 3) := by decide +kernel
theorem dX6_command_307 : decode cX6_command 307 = .ok (.aload_n 0, 1) := by decide +kernel
theorem dX6_command_308 : decode cX6_command 308 = .ok (.getfield 16, 3) := by decide +kernel
theorem dX6_command_311 : decode cX6_command 311 = .ok (.iload_n 3, 1) := by decide +kernel
theorem dX6_command_312 : decode cX6_command 312 = .ok (.iload 5, 2) := by decide +kernel
theorem dX6_command_314 : decode cX6_command 314 = .ok (.invokestatic 240, 3) := by decide +kernel
theorem dX6_command_317 : decode cX6_command 317 = .ok (.ifCond .lt 7, 3) := by decide +kernel
theorem dX6_command_320 : decode cX6_command 320 = .ok (.iconst 1, 1) := by decide +kernel
theorem dX6_command_321 : decode cX6_command 321 = .ok (.goto 4, 3) := by decide +kernel
theorem dX6_command_324 : decode cX6_command 324 = .ok (.iconst 0, 1) := by decide +kernel
theorem dX6_command_325 : decode cX6_command 325 = .ok (.ireturn, 1) := by decide +kernel
theorem dX6_command_326 : decode cX6_command 326 = .ok (.iload 4, 2) := by decide +kernel
theorem dX6_command_328 : decode cX6_command 328 = .ok (.ifCond .ne 32, 3) := by decide +kernel
theorem dX6_command_331 : decode cX6_command 331 = .ok (.iload 5, 2) := by decide +kernel
theorem dX6_command_333 : decode cX6_command 333 = .ok (.i2l, 1) := by decide +kernel
theorem dX6_command_334 : decode cX6_command 334 = .ok (.lconst 1, 1) := by decide +kernel
theorem dX6_command_335 : decode cX6_command 335 = .ok (.ldc2_w 149, 3) := by decide +kernel
theorem dX6_command_338 : decode cX6_command 338 = .ok (.invokestatic 49, 3) := by decide +kernel
theorem dX6_command_341 : decode cX6_command 341 = .ok (.ifCond .eq 19, 3) := by decide +kernel
theorem dX6_command_344 : decode cX6_command 344 = .ok (.aload_n 0, 1) := by decide +kernel
theorem dX6_command_345 : decode cX6_command 345 = .ok (.getfield 16, 3) := by decide +kernel
theorem dX6_command_348 : decode cX6_command 348 = .ok (.iload 5, 2) := by decide +kernel
theorem dX6_command_350 : decode cX6_command 350 = .ok (.invokestatic 207, 3) := by decide +kernel
theorem dX6_command_353 : decode cX6_command 353 = .ok (.ifCond .lt 7, 3) := by decide +kernel
theorem dX6_command_356 : decode cX6_command 356 = .ok (.iconst 1, 1) := by decide +kernel
theorem dX6_command_357 : decode cX6_command 357 = .ok (.goto 4, 3) := by decide +kernel
theorem dX6_command_360 : decode cX6_command 360 = .ok (.iconst 0, 1) := by decide +kernel
theorem dX6_command_361 : decode cX6_command 361 = .ok (.ireturn, 1) := by decide +kernel
theorem dX6_command_362 : decode cX6_command 362 = .ok (.iload 4, 2) := by decide +kernel
theorem dX6_command_364 : decode cX6_command 364 = .ok (.ifCond .ne 20, 3) := by decide +kernel
theorem dX6_command_367 : decode cX6_command 367 = .ok (.aload_n 0, 1) := by decide +kernel
theorem dX6_command_368 : decode cX6_command 368 = .ok (.getfield 16, 3) := by decide +kernel
theorem dX6_command_371 : decode cX6_command 371 = .ok (.iconst (-1), 1) := by decide +kernel
theorem dX6_command_372 : decode cX6_command 372 = .ok (.invokestatic 225, 3) := by decide +kernel
theorem dX6_command_375 : decode cX6_command 375 = .ok (.iload 5, 2) := by decide +kernel
theorem dX6_command_377 : decode cX6_command 377 = .ok (.if_icmp .gt 7, 3) := by decide +kernel
theorem dX6_command_380 : decode cX6_command 380 = .ok (.iconst 1, 1) := by decide +kernel
theorem dX6_command_381 : decode cX6_command 381 = .ok (.goto 4, 3) := by decide +kernel
theorem dX6_command_384 : decode cX6_command 384 = .ok (.iconst 0, 1) := by decide +kernel
theorem dX6_command_385 : decode cX6_command 385 = .ok (.ireturn, 1) := by decide +kernel
theorem dX6_command_386 : decode cX6_command 386 = .ok (.iload_n 2, 1) := by decide +kernel
theorem dX6_command_387 : decode cX6_command 387 = .ok (.bipush 10, 2) := by decide +kernel
theorem dX6_command_389 : decode cX6_command 389 = .ok (.irem, 1) := by decide +kernel
theorem dX6_command_390 : decode cX6_command 390 = .ok (.ifCond .ne 32, 3) := by decide +kernel
theorem dX6_command_393 : decode cX6_command 393 = .ok (.aload_n 0, 1) := by decide +kernel
theorem dX6_command_394 : decode cX6_command 394 = .ok (.getfield 16, 3) := by decide +kernel
theorem dX6_command_397 : decode cX6_command 397 = .ok (.iload_n 3, 1) := by decide +kernel
theorem dX6_command_398 : decode cX6_command 398 = .ok (.invokestatic 193, 3) := by decide +kernel
theorem dX6_command_401 : decode cX6_command 401 = .ok (.ifCond .eq 21, 3) := by decide +kernel
theorem dX6_command_404 : decode cX6_command 404 = .ok (.aload_n 0, 1) := by decide +kernel
theorem dX6_command_405 : decode cX6_command 405 = .ok (.getfield 16, 3) := by decide +kernel
theorem dX6_command_408 : decode cX6_command 408 = .ok (.iload_n 3, 1) := by decide +kernel
theorem dX6_command_409 : decode cX6_command 409 = .ok (.iconst 0, 1) := by decide +kernel
theorem dX6_command_410 : decode cX6_command 410 = .ok (.invokestatic 108, 3) := by decide +kernel
theorem dX6_command_413 : decode cX6_command 413 = .ok (.iload 6, 2) := by decide +kernel
theorem dX6_command_415 : decode cX6_command 415 = .ok (.if_icmp .gt 7, 3) := by decide +kernel
theorem dX6_command_418 : decode cX6_command 418 = .ok (.iconst 1, 1) := by decide +kernel
theorem dX6_command_419 : decode cX6_command 419 = .ok (.goto 4, 3) := by decide +kernel
theorem dX6_command_422 : decode cX6_command 422 = .ok (.iconst 0, 1) := by decide +kernel
theorem dX6_command_423 : decode cX6_command 423 = .ok (.ireturn, 1) := by decide +kernel
theorem dX6_command_424 : decode cX6_command 424 = .ok (.iload_n 2, 1) := by decide +kernel
theorem dX6_command_425 : decode cX6_command 425 = .ok (.bipush 10, 2) := by decide +kernel
theorem dX6_command_427 : decode cX6_command 427 = .ok (.irem, 1) := by decide +kernel
theorem dX6_command_428 : decode cX6_command 428 = .ok (.ifCond .ne 46, 3) := by decide +kernel
theorem dX6_command_431 : decode cX6_command 431 = .ok (.aload_n 0, 1) := by decide +kernel
theorem dX6_command_432 : decode cX6_command 432 = .ok (.getfield 16, 3) := by decide +kernel
theorem dX6_command_435 : decode cX6_command 435 = .ok (.iload 4, 2) := by decide +kernel
theorem dX6_command_437 : decode cX6_command 437 = .ok (.invokestatic 189, 3) := by decide +kernel
theorem dX6_command_440 : decode cX6_command 440 = .ok (.ifCond .eq 34, 3) := by decide +kernel
theorem dX6_command_443 : decode cX6_command 443 = .ok (.aload_n 0, 1) := by decide +kernel
theorem dX6_command_444 : decode cX6_command 444 = .ok (.getfield 16, 3) := by decide +kernel
theorem dX6_command_447 : decode cX6_command 447 = .ok (.iload 7, 2) := by decide +kernel
theorem dX6_command_449 : decode cX6_command 449 = .ok (.invokestatic 193, 3) := by decide +kernel
theorem dX6_command_452 : decode cX6_command 452 = .ok (.ifCond .eq 22, 3) := by decide +kernel
theorem dX6_command_455 : decode cX6_command 455 = .ok (.aload_n 0, 1) := by decide +kernel
theorem dX6_command_456 : decode cX6_command 456 = .ok (.getfield 16, 3) := by decide +kernel
theorem dX6_command_459 : decode cX6_command 459 = .ok (.iload 4, 2) := by decide +kernel
theorem dX6_command_461 : decode cX6_command 461 = .ok (.iconst 5, 1) := by decide +kernel
theorem dX6_command_462 : decode cX6_command 462 = .ok (.invokestatic 55, 3) := by decide +kernel
theorem dX6_command_465 : decode cX6_command 465 = .ok (.iload 7, 2) := by decide +kernel
theorem dX6_command_467 : decode cX6_command 467 = .ok (.if_icmp .ne 7, 3) := by decide +kernel
theorem dX6_command_470 : decode cX6_command 470 = .ok (.iconst 1, 1) := by decide +kernel
theorem dX6_command_471 : decode cX6_command 471 = .ok (.goto 4, 3) := by decide +kernel
theorem dX6_command_474 : decode cX6_command 474 = .ok (.iconst 0, 1) := by decide +kernel
theorem dX6_command_475 : decode cX6_command 475 = .ok (.ireturn, 1) := by decide +kernel
theorem dX6_command_476 : decode cX6_command 476 = .ok (.iconst 0, 1) := by decide +kernel
theorem dX6_command_477 : decode cX6_command 477 = .ok (.ireturn, 1) := by decide +kernel
theorem dX6_runScript_0 : decode cX6_runScript 0 = .ok (.lconst 1, 1) := by decide +kernel
theorem dX6_runScript_1 : decode cX6_runScript 1 = .ok (.lstore 4, 2) := by decide +kernel
theorem dX6_runScript_3 : decode cX6_runScript 3 = .ok (.iconst 0, 1) := by decide +kernel
theorem dX6_runScript_4 : decode cX6_runScript 4 = .ok (.istore 6, 2) := by decide +kernel
theorem dX6_runScript_6 : decode cX6_runScript 6 = .ok (.iload 6, 2) := by decide +kernel
theorem dX6_runScript_8 : decode cX6_runScript 8 = .ok (.iload_n 1, 1) := by decide +kernel
theorem dX6_runScript_9 : decode cX6_runScript 9 = .ok (.if_icmp .ge 23, 3) := by decide +kernel
theorem dX6_runScript_12 : decode cX6_runScript 12 = .ok (.iload 6, 2) := by decide +kernel
theorem dX6_runScript_14 : decode cX6_runScript 14 = .ok (.iconst 3, 1) := by decide +kernel
theorem dX6_runScript_15 : decode cX6_runScript 15 = .ok (.if_icmp .ge 17, 3) := by decide +kernel
theorem dX6_runScript_18 : decode cX6_runScript 18 = .ok (.lload 4, 2) := by decide +kernel
theorem dX6_runScript_20 : decode cX6_runScript 20 = .ok (.ldc2_w 253, 3) := by decide +kernel
theorem dX6_runScript_23 : decode cX6_runScript 23 = .ok (.lmul, 1) := by decide +kernel
theorem dX6_runScript_24 : decode cX6_runScript 24 = .ok (.lstore 4, 2) := by decide +kernel
theorem dX6_runScript_26 : decode cX6_runScript 26 = .ok (.iinc 6 1, 3) := by decide +kernel
theorem dX6_runScript_29 : decode cX6_runScript 29 = .ok (.goto (-23), 3) := by decide +kernel
theorem dX6_runScript_32 : decode cX6_runScript 32 = .ok (.aload_n 0, 1) := by decide +kernel
theorem dX6_runScript_33 : decode cX6_runScript 33 = .ok (.iload_n 1, 1) := by decide +kernel
theorem dX6_runScript_34 : decode cX6_runScript 34 = .ok (.i2l, 1) := by decide +kernel
theorem dX6_runScript_35 : decode cX6_runScript 35 = .ok (.lconst 1, 1) := by decide +kernel
theorem dX6_runScript_36 : decode cX6_runScript 36 = .ok (.ldc2_w 145, 3) := by decide +kernel
theorem dX6_runScript_39 : decode cX6_runScript 39 = .ok (.invokestatic 49, 3) := by decide +kernel
theorem dX6_runScript_42 : decode cX6_runScript 42 = .ok (.ifCond .eq 19, 3) := by decide +kernel
theorem dX6_runScript_45 : decode cX6_runScript 45 = .ok (.lload_n 2, 1) := by decide +kernel
theorem dX6_runScript_46 : decode cX6_runScript 46 = .ok (.lconst 0, 1) := by decide +kernel
theorem dX6_runScript_47 : decode cX6_runScript 47 = .ok (.lload 4, 2) := by decide +kernel
theorem dX6_runScript_49 : decode cX6_runScript 49 = .ok (.lconst 1, 1) := by decide +kernel
theorem dX6_runScript_50 : decode cX6_runScript 50 = .ok (.lsub, 1) := by decide +kernel
theorem dX6_runScript_51 : decode cX6_runScript 51 = .ok (.invokestatic 49, 3) := by decide +kernel
theorem dX6_runScript_54 : decode cX6_runScript 54 = .ok (.ifCond .eq 7, 3) := by decide +kernel
theorem dX6_runScript_57 : decode cX6_runScript 57 = .ok (.iconst 0, 1) := by decide +kernel
theorem dX6_runScript_58 : decode cX6_runScript 58 = .ok (.goto 4, 3) := by decide +kernel
theorem dX6_runScript_61 : decode cX6_runScript 61 = .ok (.iconst 1, 1) := by decide +kernel
theorem dX6_runScript_62 : decode cX6_runScript 62 = .ok (.invokevirtual 158, 3) := by decide +kernel
theorem dX6_runScript_65 : decode cX6_runScript 65 = .ok (.ifCond .eq 5, 3) := by decide +kernel
theorem dX6_runScript_68 : decode cX6_runScript 68 = .ok (.iconst 0, 1) := by decide +kernel
theorem dX6_runScript_69 : decode cX6_runScript 69 = .ok (.ireturn, 1) := by decide +kernel
theorem dX6_runScript_70 : decode cX6_runScript 70 = .ok (.aload_n 0, 1) := by decide +kernel
theorem dX6_runScript_71 : decode cX6_runScript 71 = .ok (.getfield 13, 3) := by decide +kernel
theorem dX6_runScript_74 : decode cX6_runScript 74 = .ok (.iconst 0, 1) := by decide +kernel
theorem dX6_runScript_75 : decode cX6_runScript 75 = .ok (.aload_n 0, 1) := by decide +kernel
theorem dX6_runScript_76 : decode cX6_runScript 76 = .ok (.getfield 16, 3) := by decide +kernel
theorem dX6_runScript_79 : decode cX6_runScript 79 = .ok (.iconst 0, 1) := by decide +kernel
theorem dX6_runScript_80 : decode cX6_runScript 80 = .ok (.invokestatic 216, 3) := by decide +kernel
theorem dX6_runScript_83 : decode cX6_runScript 83 = .ok (.iconst 0, 1) := by decide +kernel
theorem dX6_runScript_84 : decode cX6_runScript 84 = .ok (.istore 6, 2) := by decide +kernel
theorem dX6_runScript_86 : decode cX6_runScript 86 = .ok (.iload 6, 2) := by decide +kernel
theorem dX6_runScript_88 : decode cX6_runScript 88 = .ok (.iload_n 1, 1) := by decide +kernel
theorem dX6_runScript_89 : decode cX6_runScript 89 = .ok (.if_icmp .ge 50, 3) := by decide +kernel
theorem dX6_runScript_92 : decode cX6_runScript 92 = .ok (.lload 4, 2) := by decide +kernel
theorem dX6_runScript_94 : decode cX6_runScript 94 = .ok (.ldc2_w 253, 3) := by decide +kernel
theorem dX6_runScript_97 : decode cX6_runScript 97 = .ok (.ldiv, 1) := by decide +kernel
theorem dX6_runScript_98 : decode cX6_runScript 98 = .ok (.lstore 4, 2) := by decide +kernel
theorem dX6_runScript_100 : decode cX6_runScript 100 = .ok (.lload_n 2, 1) := by decide +kernel
theorem dX6_runScript_101 : decode cX6_runScript 101 = .ok (.lload 4, 2) := by decide +kernel
theorem dX6_runScript_103 : decode cX6_runScript 103 = .ok (.ldiv, 1) := by decide +kernel
theorem dX6_runScript_104 : decode cX6_runScript 104 = .ok (.ldc2_w 253, 3) := by decide +kernel
theorem dX6_runScript_107 : decode cX6_runScript 107 = .ok (.lrem, 1) := by decide +kernel
theorem dX6_runScript_108 : decode cX6_runScript 108 = .ok (.l2i, 1) := by decide +kernel
theorem dX6_runScript_109 : decode cX6_runScript 109 = .ok (.istore 7, 2) := by decide +kernel
theorem dX6_runScript_111 : decode cX6_runScript 111 = .ok (.aload_n 0, 1) := by decide +kernel
theorem dX6_runScript_112 : decode cX6_runScript 112 = .ok (.iload 7, 2) := by decide +kernel
theorem dX6_runScript_114 : decode cX6_runScript 114 = .ok (.sipush 10000, 3) := by decide +kernel
theorem dX6_runScript_117 : decode cX6_runScript 117 = .ok (.idiv, 1) := by decide +kernel
theorem dX6_runScript_118 : decode cX6_runScript 118 = .ok (.iload 7, 2) := by decide +kernel
theorem dX6_runScript_120 : decode cX6_runScript 120 = .ok (.sipush 10000, 3) := by decide +kernel
theorem dX6_runScript_123 : decode cX6_runScript 123 = .ok (.irem, 1) := by decide +kernel
theorem dX6_runScript_124 : decode cX6_runScript 124 = .ok (.invokevirtual 255, 3) := by decide +kernel
theorem dX6_runScript_127 : decode cX6_runScript 127 = .ok (.ifCond .ne 6, 3) := by decide +kernel
theorem dX6_runScript_130 : decode cX6_runScript 130 = .ok (.iload 6, 2) := by decide +kernel
theorem dX6_runScript_132 : decode cX6_runScript 132 = .ok (.ireturn, 1) := by decide +kernel
theorem dX6_runScript_133 : decode cX6_runScript 133 = .ok (.iinc 6 1, 3) := by decide +kernel
theorem dX6_runScript_136 : decode cX6_runScript 136 = .ok (.goto (-50), 3) := by decide +kernel
theorem dX6_runScript_139 : decode cX6_runScript 139 = .ok (.iconst (-1), 1) := by decide +kernel
theorem dX6_runScript_140 : decode cX6_runScript 140 = .ok (.ireturn, 1) := by decide +kernel
theorem dX6_turn_0 : decode cX6_turn 0 = .ok (.iload_n 1, 1) := by decide +kernel
theorem dX6_turn_1 : decode cX6_turn 1 = .ok (.bipush 8, 2) := by decide +kernel
theorem dX6_turn_3 : decode cX6_turn 3 = .ok (.idiv, 1) := by decide +kernel
theorem dX6_turn_4 : decode cX6_turn 4 = .ok (.istore_n 2, 1) := by decide +kernel
theorem dX6_turn_5 : decode cX6_turn 5 = .ok (.aload_n 0, 1) := by decide +kernel
theorem dX6_turn_6 : decode cX6_turn 6 = .ok (.getfield 16, 3) := by decide +kernel
theorem dX6_turn_9 : decode cX6_turn 9 = .ok (.iconst 3, 1) := by decide +kernel
theorem dX6_turn_10 : decode cX6_turn 10 = .ok (.iaload, 1) := by decide +kernel
theorem dX6_turn_11 : decode cX6_turn 11 = .ok (.iload_n 2, 1) := by decide +kernel
theorem dX6_turn_12 : decode cX6_turn 12 = .ok (.iconst 5, 1) := by decide +kernel
theorem dX6_turn_13 : decode cX6_turn 13 = .ok (.idiv, 1) := by decide +kernel
theorem dX6_turn_14 : decode cX6_turn 14 = .ok (.iconst 4, 1) := by decide +kernel
theorem dX6_turn_15 : decode cX6_turn 15 = .ok (.irem, 1) := by decide +kernel
theorem dX6_turn_16 : decode cX6_turn 16 = .ok (.iadd, 1) := by decide +kernel
theorem dX6_turn_17 : decode cX6_turn 17 = .ok (.istore_n 3, 1) := by decide +kernel
theorem dX6_turn_18 : decode cX6_turn 18 = .ok (.iload_n 1, 1) := by decide +kernel
theorem dX6_turn_19 : decode cX6_turn 19 = .ok (.bipush 8, 2) := by decide +kernel
theorem dX6_turn_21 : decode cX6_turn 21 = .ok (.irem, 1) := by decide +kernel
theorem dX6_turn_22 : decode cX6_turn 22 = .ok (.istore 4, 2) := by decide +kernel
theorem dX6_turn_24 : decode cX6_turn 24 = .ok (.iload 4, 2) := by decide +kernel
theorem dX6_turn_26 : decode cX6_turn 26 = .ok (.iconst 3, 1) := by decide +kernel
theorem dX6_turn_27 : decode cX6_turn 27 = .ok (.if_icmp .ge 85, 3) := by decide +kernel
theorem dX6_turn_30 : decode cX6_turn 30 = .ok (.aload_n 0, 1) := by decide +kernel
theorem dX6_turn_31 : decode cX6_turn 31 = .ok (.getfield 16, 3) := by decide +kernel
theorem dX6_turn_34 : decode cX6_turn 34 = .ok (.iload_n 2, 1) := by decide +kernel
theorem dX6_turn_35 : decode cX6_turn 35 = .ok (.iconst 5, 1) := by decide +kernel
theorem dX6_turn_36 : decode cX6_turn 36 = .ok (.irem, 1) := by decide +kernel
theorem dX6_turn_37 : decode cX6_turn 37 = .ok (.iload_n 3, 1) := by decide +kernel
theorem dX6_turn_38 : decode cX6_turn 38 = .ok (.iload_n 2, 1) := by decide +kernel
theorem dX6_turn_39 : decode cX6_turn 39 = .ok (.bipush 20, 2) := by decide +kernel
theorem dX6_turn_41 : decode cX6_turn 41 = .ok (.idiv, 1) := by decide +kernel
theorem dX6_turn_42 : decode cX6_turn 42 = .ok (.bipush 16, 2) := by decide +kernel
theorem dX6_turn_44 : decode cX6_turn 44 = .ok (.irem, 1) := by decide +kernel
theorem dX6_turn_45 : decode cX6_turn 45 = .ok (.iconst 1, 1) := by decide +kernel
theorem dX6_turn_46 : decode cX6_turn 46 = .ok (.iload_n 2, 1) := by decide +kernel
theorem dX6_turn_47 : decode cX6_turn 47 = .ok (.sipush 320, 3) := by decide +kernel
theorem dX6_turn_50 : decode cX6_turn 50 = .ok (.idiv, 1) := by decide +kernel
theorem dX6_turn_51 : decode cX6_turn 51 = .ok (.iconst 5, 1) := by decide +kernel
theorem dX6_turn_52 : decode cX6_turn 52 = .ok (.irem, 1) := by decide +kernel
theorem dX6_turn_53 : decode cX6_turn 53 = .ok (.iadd, 1) := by decide +kernel
theorem dX6_turn_54 : decode cX6_turn 54 = .ok (.iconst 1, 1) := by decide +kernel
theorem dX6_turn_55 : decode cX6_turn 55 = .ok (.iload_n 2, 1) := by decide +kernel
theorem dX6_turn_56 : decode cX6_turn 56 = .ok (.sipush 1600, 3) := by decide +kernel
theorem dX6_turn_59 : decode cX6_turn 59 = .ok (.idiv, 1) := by decide +kernel
theorem dX6_turn_60 : decode cX6_turn 60 = .ok (.bipush 9, 2) := by decide +kernel
theorem dX6_turn_62 : decode cX6_turn 62 = .ok (.irem, 1) := by decide +kernel
theorem dX6_turn_63 : decode cX6_turn 63 = .ok (.iadd, 1) := by decide +kernel
theorem dX6_turn_64 : decode cX6_turn 64 = .ok (.invokestatic 171, 3) := by decide +kernel
theorem dX6_turn_67 : decode cX6_turn 67 = .ok (.ifCond .eq 235, 3) := by decide +kernel
theorem dX6_turn_70 : decode cX6_turn 70 = .ok (.aload_n 0, 1) := by decide +kernel
theorem dX6_turn_71 : decode cX6_turn 71 = .ok (.getfield 16, 3) := by decide +kernel
theorem dX6_turn_74 : decode cX6_turn 74 = .ok (.iload_n 2, 1) := by decide +kernel
theorem dX6_turn_75 : decode cX6_turn 75 = .ok (.iconst 5, 1) := by decide +kernel
theorem dX6_turn_76 : decode cX6_turn 76 = .ok (.irem, 1) := by decide +kernel
theorem dX6_turn_77 : decode cX6_turn 77 = .ok (.iload_n 3, 1) := by decide +kernel
theorem dX6_turn_78 : decode cX6_turn 78 = .ok (.iload_n 2, 1) := by decide +kernel
theorem dX6_turn_79 : decode cX6_turn 79 = .ok (.bipush 20, 2) := by decide +kernel
theorem dX6_turn_81 : decode cX6_turn 81 = .ok (.idiv, 1) := by decide +kernel
theorem dX6_turn_82 : decode cX6_turn 82 = .ok (.bipush 16, 2) := by decide +kernel
theorem dX6_turn_84 : decode cX6_turn 84 = .ok (.irem, 1) := by decide +kernel
theorem dX6_turn_85 : decode cX6_turn 85 = .ok (.iconst 1, 1) := by decide +kernel
theorem dX6_turn_86 : decode cX6_turn 86 = .ok (.iload_n 2, 1) := by decide +kernel
theorem dX6_turn_87 : decode cX6_turn 87 = .ok (.sipush 320, 3) := by decide +kernel
theorem dX6_turn_90 : decode cX6_turn 90 = .ok (.idiv, 1) := by decide +kernel
theorem dX6_turn_91 : decode cX6_turn 91 = .ok (.iconst 5, 1) := by decide +kernel
theorem dX6_turn_92 : decode cX6_turn 92 = .ok (.irem, 1) := by decide +kernel
theorem dX6_turn_93 : decode cX6_turn 93 = .ok (.iadd, 1) := by decide +kernel
theorem dX6_turn_94 : decode cX6_turn 94 = .ok (.iconst 1, 1) := by decide +kernel
theorem dX6_turn_95 : decode cX6_turn 95 = .ok (.iload_n 2, 1) := by decide +kernel
theorem dX6_turn_96 : decode cX6_turn 96 = .ok (.sipush 1600, 3) := by decide +kernel
theorem dX6_turn_99 : decode cX6_turn 99 = .ok (.idiv, 1) := by decide +kernel
theorem dX6_turn_100 : decode cX6_turn 100 = .ok (.bipush 9, 2) := by decide +kernel
theorem dX6_turn_102 : decode cX6_turn 102 = .ok (.irem, 1) := by decide +kernel
theorem dX6_turn_103 : decode cX6_turn 103 = .ok (.iadd, 1) := by decide +kernel
theorem dX6_turn_104 : decode cX6_turn 104 = .ok (.iconst (-1), 1) := by decide +kernel
theorem dX6_turn_105 : decode cX6_turn 105 = .ok (.invokestatic 121, 3) := by decide +kernel
theorem dX6_turn_108 : decode cX6_turn 108 = .ok (.pop, 1) := by decide +kernel
theorem dX6_turn_109 : decode cX6_turn 109 = .ok (.goto 193, 3) := by decide +kernel
theorem dX6_turn_112 : decode cX6_turn 112 = .ok (.iload 4, 2) := by decide +kernel
theorem dX6_turn_114 : decode cX6_turn 114 = .ok (.iconst 3, 1) := by decide +kernel
theorem dX6_turn_115 : decode cX6_turn 115 = .ok (.if_icmp .ne 14, 3) := by decide +kernel
theorem dX6_turn_118 : decode cX6_turn 118 = .ok (.aload_n 0, 1) := by decide +kernel
theorem dX6_turn_119 : decode cX6_turn 119 = .ok (.getfield 16, 3) := by decide +kernel
theorem dX6_turn_122 : decode cX6_turn 122 = .ok (.invokestatic 203, 3) := by decide +kernel
theorem dX6_turn_125 : decode cX6_turn 125 = .ok (.pop, 1) := by decide +kernel
theorem dX6_turn_126 : decode cX6_turn 126 = .ok (.goto 176, 3) := by decide +kernel
theorem dX6_turn_129 : decode cX6_turn 129 = .ok (.iload 4, 2) := by decide +kernel
theorem dX6_turn_131 : decode cX6_turn 131 = .ok (.iconst 4, 1) := by decide +kernel
theorem dX6_turn_132 : decode cX6_turn 132 = .ok (.if_icmp .ne 41, 3) := by decide +kernel
theorem dX6_turn_135 : decode cX6_turn 135 = .ok (.aload_n 0, 1) := by decide +kernel
theorem dX6_turn_136 : decode cX6_turn 136 = .ok (.getfield 16, 3) := by decide +kernel
theorem dX6_turn_139 : decode cX6_turn 139 = .ok (.iload_n 2, 1) := by decide +kernel
theorem dX6_turn_140 : decode cX6_turn 140 = .ok (.bipush 16, 2) := by decide +kernel
theorem dX6_turn_142 : decode cX6_turn 142 = .ok (.irem, 1) := by decide +kernel
theorem dX6_turn_143 : decode cX6_turn 143 = .ok (.invokestatic 189, 3) := by decide +kernel
theorem dX6_turn_146 : decode cX6_turn 146 = .ok (.ifCond .eq 156, 3) := by decide +kernel
theorem dX6_turn_149 : decode cX6_turn 149 = .ok (.aload_n 0, 1) := by decide +kernel
theorem dX6_turn_150 : decode cX6_turn 150 = .ok (.aload_n 0, 1) := by decide +kernel
theorem dX6_turn_151 : decode cX6_turn 151 = .ok (.getfield 16, 3) := by decide +kernel
theorem dX6_turn_154 : decode cX6_turn 154 = .ok (.iload_n 2, 1) := by decide +kernel
theorem dX6_turn_155 : decode cX6_turn 155 = .ok (.bipush 16, 2) := by decide +kernel
theorem dX6_turn_157 : decode cX6_turn 157 = .ok (.irem, 1) := by decide +kernel
theorem dX6_turn_158 : decode cX6_turn 158 = .ok (.iconst 1, 1) := by decide +kernel
theorem dX6_turn_159 : decode cX6_turn 159 = .ok (.iload_n 2, 1) := by decide +kernel
theorem dX6_turn_160 : decode cX6_turn 160 = .ok (.bipush 16, 2) := by decide +kernel
theorem dX6_turn_162 : decode cX6_turn 162 = .ok (.idiv, 1) := by decide +kernel
theorem dX6_turn_163 : decode cX6_turn 163 = .ok (.iconst 4, 1) := by decide +kernel
theorem dX6_turn_164 : decode cX6_turn 164 = .ok (.irem, 1) := by decide +kernel
theorem dX6_turn_165 : decode cX6_turn 165 = .ok (.iadd, 1) := by decide +kernel
theorem dX6_turn_166 : decode cX6_turn 166 = .ok (.invokevirtual 237, 3) := by decide +kernel
theorem dX6_turn_169 : decode cX6_turn 169 = .ok (.pop, 1) := by decide +kernel
theorem dX6_turn_170 : decode cX6_turn 170 = .ok (.goto 132, 3) := by decide +kernel
theorem dX6_turn_173 : decode cX6_turn 173 = .ok (.iload 4, 2) := by decide +kernel
theorem dX6_turn_175 : decode cX6_turn 175 = .ok (.iconst 5, 1) := by decide +kernel
theorem dX6_turn_176 : decode cX6_turn 176 = .ok (.if_icmp .ne 38, 3) := by decide +kernel
theorem dX6_turn_179 : decode cX6_turn 179 = .ok (.aload_n 0, 1) := by decide +kernel
theorem dX6_turn_180 : decode cX6_turn 180 = .ok (.getfield 16, 3) := by decide +kernel
theorem dX6_turn_183 : decode cX6_turn 183 = .ok (.iload_n 2, 1) := by decide +kernel
theorem dX6_turn_184 : decode cX6_turn 184 = .ok (.bipush 6, 2) := by decide +kernel
theorem dX6_turn_186 : decode cX6_turn 186 = .ok (.irem, 1) := by decide +kernel
theorem dX6_turn_187 : decode cX6_turn 187 = .ok (.invokestatic 193, 3) := by decide +kernel
theorem dX6_turn_190 : decode cX6_turn 190 = .ok (.ifCond .eq 112, 3) := by decide +kernel
theorem dX6_turn_193 : decode cX6_turn 193 = .ok (.aload_n 0, 1) := by decide +kernel
theorem dX6_turn_194 : decode cX6_turn 194 = .ok (.getfield 16, 3) := by decide +kernel
theorem dX6_turn_197 : decode cX6_turn 197 = .ok (.iload_n 2, 1) := by decide +kernel
theorem dX6_turn_198 : decode cX6_turn 198 = .ok (.bipush 6, 2) := by decide +kernel
theorem dX6_turn_200 : decode cX6_turn 200 = .ok (.irem, 1) := by decide +kernel
theorem dX6_turn_201 : decode cX6_turn 201 = .ok (.iload_n 2, 1) := by decide +kernel
theorem dX6_turn_202 : decode cX6_turn 202 = .ok (.bipush 6, 2) := by decide +kernel
theorem dX6_turn_204 : decode cX6_turn 204 = .ok (.idiv, 1) := by decide +kernel
theorem dX6_turn_205 : decode cX6_turn 205 = .ok (.iconst 4, 1) := by decide +kernel
theorem dX6_turn_206 : decode cX6_turn 206 = .ok (.irem, 1) := by decide +kernel
theorem dX6_turn_207 : decode cX6_turn 207 = .ok (.invokestatic 240, 3) := by decide +kernel
theorem dX6_turn_210 : decode cX6_turn 210 = .ok (.pop, 1) := by decide +kernel
theorem dX6_turn_211 : decode cX6_turn 211 = .ok (.goto 91, 3) := by decide +kernel
theorem dX6_turn_214 : decode cX6_turn 214 = .ok (.iload 4, 2) := by decide +kernel
theorem dX6_turn_216 : decode cX6_turn 216 = .ok (.bipush 6, 2) := by decide +kernel
theorem dX6_turn_218 : decode cX6_turn 218 = .ok (.if_icmp .ne 77, 3) := by decide +kernel
theorem dX6_turn_221 : decode cX6_turn 221 = .ok (.aload_n 0, 1) := by decide +kernel
theorem dX6_turn_222 : decode cX6_turn 222 = .ok (.getfield 16, 3) := by decide +kernel
theorem dX6_turn_225 : decode cX6_turn 225 = .ok (.iload_n 2, 1) := by decide +kernel
theorem dX6_turn_226 : decode cX6_turn 226 = .ok (.bipush 16, 2) := by decide +kernel
theorem dX6_turn_228 : decode cX6_turn 228 = .ok (.irem, 1) := by decide +kernel
theorem dX6_turn_229 : decode cX6_turn 229 = .ok (.invokestatic 189, 3) := by decide +kernel
theorem dX6_turn_232 : decode cX6_turn 232 = .ok (.ifCond .eq 70, 3) := by decide +kernel
theorem dX6_turn_235 : decode cX6_turn 235 = .ok (.aload_n 0, 1) := by decide +kernel
theorem dX6_turn_236 : decode cX6_turn 236 = .ok (.getfield 16, 3) := by decide +kernel
theorem dX6_turn_239 : decode cX6_turn 239 = .ok (.iload_n 2, 1) := by decide +kernel
theorem dX6_turn_240 : decode cX6_turn 240 = .ok (.bipush 16, 2) := by decide +kernel
theorem dX6_turn_242 : decode cX6_turn 242 = .ok (.idiv, 1) := by decide +kernel
theorem dX6_turn_243 : decode cX6_turn 243 = .ok (.bipush 6, 2) := by decide +kernel
theorem dX6_turn_245 : decode cX6_turn 245 = .ok (.irem, 1) := by decide +kernel
theorem dX6_turn_246 : decode cX6_turn 246 = .ok (.invokestatic 193, 3) := by decide +kernel
theorem dX6_turn_249 : decode cX6_turn 249 = .ok (.ifCond .eq 53, 3) := by decide +kernel
theorem dX6_turn_252 : decode cX6_turn 252 = .ok (.aload_n 0, 1) := by decide +kernel
theorem dX6_turn_253 : decode cX6_turn 253 = .ok (.getfield 16, 3) := by decide +kernel
theorem dX6_turn_256 : decode cX6_turn 256 = .ok (.iload_n 2, 1) := by decide +kernel
theorem dX6_turn_257 : decode cX6_turn 257 = .ok (.bipush 16, 2) := by decide +kernel
theorem dX6_turn_259 : decode cX6_turn 259 = .ok (.irem, 1) := by decide +kernel
theorem dX6_turn_260 : decode cX6_turn 260 = .ok (.iload_n 2, 1) := by decide +kernel
theorem dX6_turn_261 : decode cX6_turn 261 = .ok (.bipush 16, 2) := by decide +kernel
theorem dX6_turn_263 : decode cX6_turn 263 = .ok (.idiv, 1) := by decide +kernel
theorem dX6_turn_264 : decode cX6_turn 264 = .ok (.bipush 6, 2) := by decide +kernel
theorem dX6_turn_266 : decode cX6_turn 266 = .ok (.irem, 1) := by decide +kernel
theorem dX6_turn_267 : decode cX6_turn 267 = .ok (.invokestatic 196, 3) := by decide +kernel
theorem dX6_turn_270 : decode cX6_turn 270 = .ok (.ifCond .eq 32, 3) := by decide +kernel
theorem dX6_turn_273 : decode cX6_turn 273 = .ok (.aload_n 0, 1) := by decide +kernel
theorem dX6_turn_274 : decode cX6_turn 274 = .ok (.getfield 16, 3) := by decide +kernel
theorem dX6_turn_277 : decode cX6_turn 277 = .ok (.iload_n 2, 1) := by decide +kernel
theorem dX6_turn_278 : decode cX6_turn 278 = .ok (.bipush 16, 2) := by decide +kernel
theorem dX6_turn_280 : decode cX6_turn 280 = .ok (.irem, 1) := by decide +kernel
theorem dX6_turn_281 : decode cX6_turn 281 = .ok (.iload_n 2, 1) := by decide +kernel
theorem dX6_turn_282 : decode cX6_turn 282 = .ok (.bipush 16, 2) := by decide +kernel
theorem dX6_turn_284 : decode cX6_turn 284 = .ok (.idiv, 1) := by decide +kernel
theorem dX6_turn_285 : decode cX6_turn 285 = .ok (.bipush 6, 2) := by decide +kernel
theorem dX6_turn_287 : decode cX6_turn 287 = .ok (.irem, 1) := by decide +kernel
theorem dX6_turn_288 : decode cX6_turn 288 = .ok (.invokestatic 200, 3) := by decide +kernel
theorem dX6_turn_291 : decode cX6_turn 291 = .ok (.pop, 1) := by decide +kernel
theorem dX6_turn_292 : decode cX6_turn 292 = .ok (.goto 10, 3) := by decide +kernel
theorem dX6_turn_295 : decode cX6_turn 295 = .ok (.aload_n 0, 1) := by decide +kernel
theorem dX6_turn_296 : decode cX6_turn 296 = .ok (.getfield 16, 3) := by decide +kernel
theorem dX6_turn_299 : decode cX6_turn 299 = .ok (.invokestatic 142, 3) := by decide +kernel
theorem dX6_turn_302 : decode cX6_turn 302 = .ok (.return_, 1) := by decide +kernel
theorem dX6_simulate_0 : decode cX6_simulate 0 = .ok (.aload_n 0, 1) := by decide +kernel
theorem dX6_simulate_1 : decode cX6_simulate 1 = .ok (.iload_n 3, 1) := by decide +kernel
theorem dX6_simulate_2 : decode cX6_simulate 2 = .ok (.i2l, 1) := by decide +kernel
theorem dX6_simulate_3 : decode cX6_simulate 3 = .ok (.lconst 1, 1) := by decide +kernel
theorem dX6_simulate_4 : decode cX6_simulate 4 = .ok (.ldc2_w 247, 3) := by decide +kernel
theorem dX6_simulate_7 : decode cX6_simulate 7 = .ok (.invokestatic 49, 3) := by decide +kernel
theorem dX6_simulate_10 : decode cX6_simulate 10 = .ok (.ifCond .eq 7, 3) := by decide +kernel
theorem dX6_simulate_13 : decode cX6_simulate 13 = .ok (.iconst 0, 1) := by decide +kernel
theorem dX6_simulate_14 : decode cX6_simulate 14 = .ok (.goto 4, 3) := by decide +kernel
theorem dX6_simulate_17 : decode cX6_simulate 17 = .ok (.iconst 1, 1) := by decide +kernel
theorem dX6_simulate_18 : decode cX6_simulate 18 = .ok (.invokevirtual 158, 3) := by decide +kernel
theorem dX6_simulate_21 : decode cX6_simulate 21 = .ok (.ifCond .eq 5, 3) := by decide +kernel
theorem dX6_simulate_24 : decode cX6_simulate 24 = .ok (.iconst 0, 1) := by decide +kernel
theorem dX6_simulate_25 : decode cX6_simulate 25 = .ok (.ireturn, 1) := by decide +kernel
theorem dX6_simulate_26 : decode cX6_simulate 26 = .ok (.aload_n 0, 1) := by decide +kernel
theorem dX6_simulate_27 : decode cX6_simulate 27 = .ok (.getfield 13, 3) := by decide +kernel
theorem dX6_simulate_30 : decode cX6_simulate 30 = .ok (.iconst 0, 1) := by decide +kernel
theorem dX6_simulate_31 : decode cX6_simulate 31 = .ok (.aload_n 0, 1) := by decide +kernel
theorem dX6_simulate_32 : decode cX6_simulate 32 = .ok (.getfield 16, 3) := by decide +kernel
theorem dX6_simulate_35 : decode cX6_simulate 35 = .ok (.iconst 0, 1) := by decide +kernel
theorem dX6_simulate_36 : decode cX6_simulate 36 = .ok (.invokestatic 216, 3) := by decide +kernel
theorem dX6_simulate_39 : decode cX6_simulate 39 = .ok (.lload_n 1, 1) := by decide +kernel
theorem dX6_simulate_40 : decode cX6_simulate 40 = .ok (.lstore 4, 2) := by decide +kernel
theorem dX6_simulate_42 : decode cX6_simulate 42 = .ok (.iconst 0, 1) := by decide +kernel
theorem dX6_simulate_43 : decode cX6_simulate 43 = .ok (.istore 6, 2) := by decide +kernel
theorem dX6_simulate_45 : decode cX6_simulate 45 = .ok (.iload 6, 2) := by decide +kernel
theorem dX6_simulate_47 : decode cX6_simulate 47 = .ok (.iload_n 3, 1) := by decide +kernel
theorem dX6_simulate_48 : decode cX6_simulate 48 = .ok (.if_icmp .ge 31, 3) := by decide +kernel
theorem dX6_simulate_51 : decode cX6_simulate 51 = .ok (.lload 4, 2) := by decide +kernel
theorem dX6_simulate_53 : decode cX6_simulate 53 = .ok (.ldc2_w 258, 3) := by decide +kernel
theorem dX6_simulate_56 : decode cX6_simulate 56 = .ok (.lmul, 1) := by decide +kernel
theorem dX6_simulate_57 : decode cX6_simulate 57 = .ok (.ldc2_w 260, 3) := by decide +kernel
theorem dX6_simulate_60 : decode cX6_simulate 60 = .ok (.ladd, 1) := by decide +kernel
theorem dX6_simulate_61 : decode cX6_simulate 61 = .ok (.lstore 4, 2) := by decide +kernel
theorem dX6_simulate_63 : decode cX6_simulate 63 = .ok (.aload_n 0, 1) := by decide +kernel
theorem dX6_simulate_64 : decode cX6_simulate 64 = .ok (.lload 4, 2) := by decide +kernel
theorem dX6_simulate_66 : decode cX6_simulate 66 = .ok (.bipush 33, 2) := by decide +kernel
theorem dX6_simulate_68 : decode cX6_simulate 68 = .ok (.lushr, 1) := by decide +kernel
theorem dX6_simulate_69 : decode cX6_simulate 69 = .ok (.l2i, 1) := by decide +kernel
theorem dX6_simulate_70 : decode cX6_simulate 70 = .ok (.invokevirtual 262, 3) := by decide +kernel
theorem dX6_simulate_73 : decode cX6_simulate 73 = .ok (.iinc 6 1, 3) := by decide +kernel
theorem dX6_simulate_76 : decode cX6_simulate 76 = .ok (.goto (-31), 3) := by decide +kernel
theorem dX6_simulate_79 : decode cX6_simulate 79 = .ok (.sipush 1000, 3) := by decide +kernel
theorem dX6_simulate_82 : decode cX6_simulate 82 = .ok (.aload_n 0, 1) := by decide +kernel
theorem dX6_simulate_83 : decode cX6_simulate 83 = .ok (.getfield 16, 3) := by decide +kernel
theorem dX6_simulate_86 : decode cX6_simulate 86 = .ok (.iconst 4, 1) := by decide +kernel
theorem dX6_simulate_87 : decode cX6_simulate 87 = .ok (.iaload, 1) := by decide +kernel
theorem dX6_simulate_88 : decode cX6_simulate 88 = .ok (.aload_n 0, 1) := by decide +kernel
theorem dX6_simulate_89 : decode cX6_simulate 89 = .ok (.getfield 13, 3) := by decide +kernel
theorem dX6_simulate_92 : decode cX6_simulate 92 = .ok (.iconst 4, 1) := by decide +kernel
theorem dX6_simulate_93 : decode cX6_simulate 93 = .ok (.iaload, 1) := by decide +kernel
theorem dX6_simulate_94 : decode cX6_simulate 94 = .ok (.isub, 1) := by decide +kernel
theorem dX6_simulate_95 : decode cX6_simulate 95 = .ok (.imul, 1) := by decide +kernel
theorem dX6_simulate_96 : decode cX6_simulate 96 = .ok (.aload_n 0, 1) := by decide +kernel
theorem dX6_simulate_97 : decode cX6_simulate 97 = .ok (.getfield 16, 3) := by decide +kernel
theorem dX6_simulate_100 : decode cX6_simulate 100 = .ok (.iconst 2, 1) := by decide +kernel
theorem dX6_simulate_101 : decode cX6_simulate 101 = .ok (.iaload, 1) := by decide +kernel
theorem dX6_simulate_102 : decode cX6_simulate 102 = .ok (.iadd, 1) := by decide +kernel
theorem dX6_simulate_103 : decode cX6_simulate 103 = .ok (.ireturn, 1) := by decide +kernel
theorem dX6_save_0 : decode cX6_save 0 = .ok (.aload_n 0, 1) := by decide +kernel
theorem dX6_save_1 : decode cX6_save 1 = .ok (.iload_n 1, 1) := by decide +kernel
theorem dX6_save_2 : decode cX6_save 2 = .ok (.i2l, 1) := by decide +kernel
theorem dX6_save_3 : decode cX6_save 3 = .ok (.lconst 0, 1) := by decide +kernel
theorem dX6_save_4 : decode cX6_save 4 = .ok (.lconst 1, 1) := by decide +kernel
theorem dX6_save_5 : decode cX6_save 5 = .ok (.invokestatic 49, 3) := by decide +kernel
theorem dX6_save_8 : decode cX6_save 8 = .ok (.ifCond .eq 7, 3) := by decide +kernel
theorem dX6_save_11 : decode cX6_save 11 = .ok (.iconst 0, 1) := by decide +kernel
theorem dX6_save_12 : decode cX6_save 12 = .ok (.goto 4, 3) := by decide +kernel
theorem dX6_save_15 : decode cX6_save 15 = .ok (.iconst 1, 1) := by decide +kernel
theorem dX6_save_16 : decode cX6_save 16 = .ok (.invokevirtual 158, 3) := by decide +kernel
theorem dX6_save_19 : decode cX6_save 19 = .ok (.ifCond .eq 5, 3) := by decide +kernel
theorem dX6_save_22 : decode cX6_save 22 = .ok (.iconst 0, 1) := by decide +kernel
theorem dX6_save_23 : decode cX6_save 23 = .ok (.ireturn, 1) := by decide +kernel
theorem dX6_save_24 : decode cX6_save 24 = .ok (.aload_n 0, 1) := by decide +kernel
theorem dX6_save_25 : decode cX6_save 25 = .ok (.getfield 13, 3) := by decide +kernel
theorem dX6_save_28 : decode cX6_save 28 = .ok (.iconst 0, 1) := by decide +kernel
theorem dX6_save_29 : decode cX6_save 29 = .ok (.aload_n 0, 1) := by decide +kernel
theorem dX6_save_30 : decode cX6_save 30 = .ok (.getfield 22, 3) := by decide +kernel
theorem dX6_save_33 : decode cX6_save 33 = .ok (.sipush 2047, 3) := by decide +kernel
theorem dX6_save_36 : decode cX6_save 36 = .ok (.iload_n 1, 1) := by decide +kernel
theorem dX6_save_37 : decode cX6_save 37 = .ok (.imul, 1) := by decide +kernel
theorem dX6_save_38 : decode cX6_save 38 = .ok (.invokestatic 216, 3) := by decide +kernel
theorem dX6_save_41 : decode cX6_save 41 = .ok (.aload_n 0, 1) := by decide +kernel
theorem dX6_save_42 : decode cX6_save 42 = .ok (.getfield 25, 3) := by decide +kernel
theorem dX6_save_45 : decode cX6_save 45 = .ok (.iload_n 1, 1) := by decide +kernel
theorem dX6_save_46 : decode cX6_save 46 = .ok (.iconst 1, 1) := by decide +kernel
theorem dX6_save_47 : decode cX6_save 47 = .ok (.bastore, 1) := by decide +kernel
theorem dX6_save_48 : decode cX6_save 48 = .ok (.aload_n 0, 1) := by decide +kernel
theorem dX6_save_49 : decode cX6_save 49 = .ok (.getfield 13, 3) := by decide +kernel
theorem dX6_save_52 : decode cX6_save 52 = .ok (.iconst 3, 1) := by decide +kernel
theorem dX6_save_53 : decode cX6_save 53 = .ok (.iaload, 1) := by decide +kernel
theorem dX6_save_54 : decode cX6_save 54 = .ok (.ireturn, 1) := by decide +kernel
theorem dX6_restore_0 : decode cX6_restore 0 = .ok (.aload_n 0, 1) := by decide +kernel
theorem dX6_restore_1 : decode cX6_restore 1 = .ok (.iload_n 1, 1) := by decide +kernel
theorem dX6_restore_2 : decode cX6_restore 2 = .ok (.i2l, 1) := by decide +kernel
theorem dX6_restore_3 : decode cX6_restore 3 = .ok (.lconst 0, 1) := by decide +kernel
theorem dX6_restore_4 : decode cX6_restore 4 = .ok (.lconst 1, 1) := by decide +kernel
theorem dX6_restore_5 : decode cX6_restore 5 = .ok (.invokestatic 49, 3) := by decide +kernel
theorem dX6_restore_8 : decode cX6_restore 8 = .ok (.ifCond .ne 7, 3) := by decide +kernel
theorem dX6_restore_11 : decode cX6_restore 11 = .ok (.iconst 1, 1) := by decide +kernel
theorem dX6_restore_12 : decode cX6_restore 12 = .ok (.goto 17, 3) := by decide +kernel
theorem dX6_restore_15 : decode cX6_restore 15 = .ok (.aload_n 0, 1) := by decide +kernel
theorem dX6_restore_16 : decode cX6_restore 16 = .ok (.getfield 25, 3) := by decide +kernel
theorem dX6_restore_19 : decode cX6_restore 19 = .ok (.iload_n 1, 1) := by decide +kernel
theorem dX6_restore_20 : decode cX6_restore 20 = .ok (.baload, 1) := by decide +kernel
theorem dX6_restore_21 : decode cX6_restore 21 = .ok (.ifCond .ne 7, 3) := by decide +kernel
theorem dX6_restore_24 : decode cX6_restore 24 = .ok (.iconst 2, 1) := by decide +kernel
theorem dX6_restore_25 : decode cX6_restore 25 = .ok (.goto 4, 3) := by decide +kernel
theorem dX6_restore_28 : decode cX6_restore 28 = .ok (.iconst 0, 1) := by decide +kernel
theorem dX6_restore_29 : decode cX6_restore 29 = .ok (.invokevirtual 158, 3) := by decide +kernel
theorem dX6_restore_32 : decode cX6_restore 32 = .ok (.ifCond .eq 5, 3) := by decide +kernel
theorem dX6_restore_35 : decode cX6_restore 35 = .ok (.iconst 0, 1) := by decide +kernel
theorem dX6_restore_36 : decode cX6_restore 36 = .ok (.ireturn, 1) := by decide +kernel
theorem dX6_restore_37 : decode cX6_restore 37 = .ok (.aload_n 0, 1) := by decide +kernel
theorem dX6_restore_38 : decode cX6_restore 38 = .ok (.getfield 22, 3) := by decide +kernel
theorem dX6_restore_41 : decode cX6_restore 41 = .ok (.sipush 2047, 3) := by decide +kernel
theorem dX6_restore_44 : decode cX6_restore 44 = .ok (.iload_n 1, 1) := by decide +kernel
theorem dX6_restore_45 : decode cX6_restore 45 = .ok (.imul, 1) := by decide +kernel
theorem dX6_restore_46 : decode cX6_restore 46 = .ok (.aload_n 0, 1) := by decide +kernel
theorem dX6_restore_47 : decode cX6_restore 47 = .ok (.getfield 13, 3) := by decide +kernel
theorem dX6_restore_50 : decode cX6_restore 50 = .ok (.iconst 0, 1) := by decide +kernel
theorem dX6_restore_51 : decode cX6_restore 51 = .ok (.invokestatic 216, 3) := by decide +kernel
theorem dX6_restore_54 : decode cX6_restore 54 = .ok (.aload_n 0, 1) := by decide +kernel
theorem dX6_restore_55 : decode cX6_restore 55 = .ok (.iconst 0, 1) := by decide +kernel
theorem dX6_restore_56 : decode cX6_restore 56 = .ok (.putfield 220, 3) := by decide +kernel
theorem dX6_restore_59 : decode cX6_restore 59 = .ok (.aload_n 0, 1) := by decide +kernel
theorem dX6_restore_60 : decode cX6_restore 60 = .ok (.getfield 13, 3) := by decide +kernel
theorem dX6_restore_63 : decode cX6_restore 63 = .ok (.iconst 3, 1) := by decide +kernel
theorem dX6_restore_64 : decode cX6_restore 64 = .ok (.iaload, 1) := by decide +kernel
theorem dX6_restore_65 : decode cX6_restore 65 = .ok (.ireturn, 1) := by decide +kernel
