theorem dX9_lies_0 : decode cX9_lies 0 = .ok (.iload_n 0, 1) := by decide +kernel
theorem dX9_lies_1 : decode cX9_lies 1 = .ok (.iload_n 1, 1) := by decide +kernel
theorem dX9_lies_2 : decode cX9_lies 2 = .ok (.if_icmp .lt 12, 3) := by decide +kernel
theorem dX9_lies_5 : decode cX9_lies 5 = .ok (.iload_n 0, 1) := by decide +kernel
theorem dX9_lies_6 : decode cX9_lies 6 = .ok (.iload_n 2, 1) := by decide +kernel
theorem dX9_lies_7 : decode cX9_lies 7 = .ok (.if_icmp .gt 7, 3) := by decide +kernel
theorem dX9_lies_10 : decode cX9_lies 10 = .ok (.iconst 1, 1) := by decide +kernel
theorem dX9_lies_11 : decode cX9_lies 11 = .ok (.goto 4, 3) := by decide +kernel
theorem dX9_lies_14 : decode cX9_lies 14 = .ok (.iconst 0, 1) := by decide +kernel
theorem dX9_lies_15 : decode cX9_lies 15 = .ok (.ireturn, 1) := by decide +kernel
theorem dX9_lesser_0 : decode cX9_lesser 0 = .ok (.iload_n 0, 1) := by decide +kernel
theorem dX9_lesser_1 : decode cX9_lesser 1 = .ok (.iload_n 1, 1) := by decide +kernel
theorem dX9_lesser_2 : decode cX9_lesser 2 = .ok (.if_icmp .ge 7, 3) := by decide +kernel
theorem dX9_lesser_5 : decode cX9_lesser 5 = .ok (.iload_n 0, 1) := by decide +kernel
theorem dX9_lesser_6 : decode cX9_lesser 6 = .ok (.goto 4, 3) := by decide +kernel
theorem dX9_lesser_9 : decode cX9_lesser 9 = .ok (.iload_n 1, 1) := by decide +kernel
theorem dX9_lesser_10 : decode cX9_lesser 10 = .ok (.ireturn, 1) := by decide +kernel
theorem dX9_greater_0 : decode cX9_greater 0 = .ok (.iload_n 0, 1) := by decide +kernel
theorem dX9_greater_1 : decode cX9_greater 1 = .ok (.iload_n 1, 1) := by decide +kernel
theorem dX9_greater_2 : decode cX9_greater 2 = .ok (.if_icmp .le 7, 3) := by decide +kernel
theorem dX9_greater_5 : decode cX9_greater 5 = .ok (.iload_n 0, 1) := by decide +kernel
theorem dX9_greater_6 : decode cX9_greater 6 = .ok (.goto 4, 3) := by decide +kernel
theorem dX9_greater_9 : decode cX9_greater 9 = .ok (.iload_n 1, 1) := by decide +kernel
theorem dX9_greater_10 : decode cX9_greater 10 = .ok (.ireturn, 1) := by decide +kernel
theorem dX9_refuses_0 : decode cX9_refuses 0 = .ok (.aload_n 0, 1) := by decide +kernel
theorem dX9_refuses_1 : decode cX9_refuses 1 = .ok (.iload_n 1, 1) := by decide +kernel
theorem dX9_refuses_2 : decode cX9_refuses 2 = .ok (.putfield 3, 3) := by decide +kernel
theorem dX9_refuses_5 : decode cX9_refuses 5 = .ok (.aload_n 0, 1) := by decide +kernel
theorem dX9_refuses_6 : decode cX9_refuses 6 = .ok (.getfield 7, 3) := by decide +kernel
theorem dX9_refuses_9 : decode cX9_refuses 9 = .ok (.iload_n 1, 1) := by decide +kernel
theorem dX9_refuses_10 : decode cX9_refuses 10 = .ok (.ineg, 1) := by decide +kernel
theorem dX9_refuses_11 : decode cX9_refuses 11 = .ok (.dup2, 1) := by decide +kernel
theorem dX9_refuses_12 : decode cX9_refuses 12 = .ok (.iaload, 1) := by decide +kernel
theorem dX9_refuses_13 : decode cX9_refuses 13 = .ok (.iconst 1, 1) := by decide +kernel
theorem dX9_refuses_14 : decode cX9_refuses 14 = .ok (.iadd, 1) := by decide +kernel
theorem dX9_refuses_15 : decode cX9_refuses 15 = .ok (.iastore, 1) := by decide +kernel
theorem dX9_refuses_16 : decode cX9_refuses 16 = .ok (.iload_n 1, 1) := by decide +kernel
theorem dX9_refuses_17 : decode cX9_refuses 17 = .ok (.ireturn, 1) := by decide +kernel
theorem dX9_good0_0 : decode cX9_good0 0 = .ok (.aload_n 0, 1) := by decide +kernel
theorem dX9_good0_1 : decode cX9_good0 1 = .ok (.iconst 0, 1) := by decide +kernel
theorem dX9_good0_2 : decode cX9_good0 2 = .ok (.putfield 3, 3) := by decide +kernel
theorem dX9_good0_5 : decode cX9_good0 5 = .ok (.iload_n 1, 1) := by decide +kernel
theorem dX9_good0_6 : decode cX9_good0 6 = .ok (.ireturn, 1) := by decide +kernel
theorem dX9_settled_0 : decode cX9_settled 0 = .ok (.aload_n 0, 1) := by decide +kernel
theorem dX9_settled_1 : decode cX9_settled 1 = .ok (.iconst 0, 1) := by decide +kernel
theorem dX9_settled_2 : decode cX9_settled 2 = .ok (.putfield 11, 3) := by decide +kernel
theorem dX9_settled_5 : decode cX9_settled 5 = .ok (.aload_n 0, 1) := by decide +kernel
theorem dX9_settled_6 : decode cX9_settled 6 = .ok (.iload_n 1, 1) := by decide +kernel
theorem dX9_settled_7 : decode cX9_settled 7 = .ok (.invokevirtual 14, 3) := by decide +kernel
theorem dX9_settled_10 : decode cX9_settled 10 = .ok (.ireturn, 1) := by decide +kernel
theorem dX9_isKey_0 : decode cX9_isKey 0 = .ok (.iload_n 0, 1) := by decide +kernel
theorem dX9_isKey_1 : decode cX9_isKey 1 = .ok (.iconst 0, 1) := by decide +kernel
theorem dX9_isKey_2 : decode cX9_isKey 2 = .ok (.sipush 999, 3) := by decide +kernel
theorem dX9_isKey_5 : decode cX9_isKey 5 = .ok (.invokestatic 18, 3) := by decide +kernel
theorem dX9_isKey_8 : decode cX9_isKey 8 = .ok (.ireturn, 1) := by decide +kernel
theorem dX9_isSeed_0 : decode cX9_isSeed 0 = .ok (.iload_n 0, 1) := by decide +kernel
theorem dX9_isSeed_1 : decode cX9_isSeed 1 = .ok (.iconst 0, 1) := by decide +kernel
theorem dX9_isSeed_2 : decode cX9_isSeed 2 = .ok (.sipush 255, 3) := by decide +kernel
theorem dX9_isSeed_5 : decode cX9_isSeed 5 = .ok (.invokestatic 18, 3) := by decide +kernel
theorem dX9_isSeed_8 : decode cX9_isSeed 8 = .ok (.ireturn, 1) := by decide +kernel
theorem dX9_init_0 : decode cX9_init 0 = .ok (.aload_n 0, 1) := by decide +kernel
theorem dX9_init_1 : decode cX9_init 1 = .ok (.invokespecial 22, 3) := by decide +kernel
theorem dX9_init_4 : decode cX9_init 4 = .ok (.aload_n 0, 1) := by decide +kernel
theorem dX9_init_5 : decode cX9_init 5 = .ok (.bipush 7, 2) := by decide +kernel
theorem dX9_init_7 : decode cX9_init 7 = .ok (.newarray .int, 2) := by decide +kernel
theorem dX9_init_9 : decode cX9_init 9 = .ok (.putfield 7, 3) := by decide +kernel
theorem dX9_init_12 : decode cX9_init 12 = .ok (.aload_n 0, 1) := by decide +kernel
theorem dX9_init_13 : decode cX9_init 13 = .ok (.sipush 5812, 3) := by decide +kernel
theorem dX9_init_16 : decode cX9_init 16 = .ok (.newarray .int, 2) := by decide +kernel
theorem dX9_init_18 : decode cX9_init 18 = .ok (.putfield 28, 3) := by decide +kernel
theorem dX9_init_21 : decode cX9_init 21 = .ok (.aload_n 0, 1) := by decide +kernel
theorem dX9_init_22 : decode cX9_init 22 = .ok (.sipush 11624, 3) := by decide +kernel
theorem dX9_init_25 : decode cX9_init 25 = .ok (.newarray .int, 2) := by decide +kernel
theorem dX9_init_27 : decode cX9_init 27 = .ok (.putfield 31, 3) := by decide +kernel
theorem dX9_init_30 : decode cX9_init 30 = .ok (.aload_n 0, 1) := by decide +kernel
theorem dX9_init_31 : decode cX9_init 31 = .ok (.iconst 2, 1) := by decide +kernel
theorem dX9_init_32 : decode cX9_init 32 = .ok (.newarray .boolean, 2) := by decide +kernel
theorem dX9_init_34 : decode cX9_init 34 = .ok (.putfield 34, 3) := by decide +kernel
theorem dX9_init_37 : decode cX9_init 37 = .ok (.aload_n 0, 1) := by decide +kernel
theorem dX9_init_38 : decode cX9_init 38 = .ok (.sipush 564, 3) := by decide +kernel
theorem dX9_init_41 : decode cX9_init 41 = .ok (.newarray .int, 2) := by decide +kernel
theorem dX9_init_43 : decode cX9_init 43 = .ok (.putfield 38, 3) := by decide +kernel
theorem dX9_init_46 : decode cX9_init 46 = .ok (.aload_n 0, 1) := by decide +kernel
theorem dX9_init_47 : decode cX9_init 47 = .ok (.bipush 113, 2) := by decide +kernel
theorem dX9_init_49 : decode cX9_init 49 = .ok (.newarray .byte, 2) := by decide +kernel
theorem dX9_init_51 : decode cX9_init 51 = .ok (.dup, 1) := by decide +kernel
theorem dX9_init_52 : decode cX9_init 52 = .ok (.iconst 0, 1) := by decide +kernel
theorem dX9_init_53 : decode cX9_init 53 = .ok (.bipush 114, 2) := by decide +kernel
theorem dX9_init_55 : decode cX9_init 55 = .ok (.bastore, 1) := by decide +kernel
theorem dX9_init_56 : decode cX9_init 56 = .ok (.dup, 1) := by decide +kernel
theorem dX9_init_57 : decode cX9_init 57 = .ok (.iconst 1, 1) := by decide +kernel
theorem dX9_init_58 : decode cX9_init 58 = .ok (.bipush 97, 2) := by decide +kernel
theorem dX9_init_60 : decode cX9_init 60 = .ok (.bastore, 1) := by decide +kernel
theorem dX9_init_61 : decode cX9_init 61 = .ok (.dup, 1) := by decide +kernel
theorem dX9_init_62 : decode cX9_init 62 = .ok (.iconst 2, 1) := by decide +kernel
theorem dX9_init_63 : decode cX9_init 63 = .ok (.bipush 110, 2) := by decide +kernel
theorem dX9_init_65 : decode cX9_init 65 = .ok (.bastore, 1) := by decide +kernel
theorem dX9_init_66 : decode cX9_init 66 = .ok (.dup, 1) := by decide +kernel
theorem dX9_init_67 : decode cX9_init 67 = .ok (.iconst 3, 1) := by decide +kernel
theorem dX9_init_68 : decode cX9_init 68 = .ok (.bipush 107, 2) := by decide +kernel
theorem dX9_init_70 : decode cX9_init 70 = .ok (.bastore, 1) := by decide +kernel
theorem dX9_init_71 : decode cX9_init 71 = .ok (.dup, 1) := by decide +kernel
theorem dX9_init_72 : decode cX9_init 72 = .ok (.iconst 4, 1) := by decide +kernel
theorem dX9_init_73 : decode cX9_init 73 = .ok (.bipush 115, 2) := by decide +kernel
theorem dX9_init_75 : decode cX9_init 75 = .ok (.bastore, 1) := by decide +kernel
theorem dX9_init_76 : decode cX9_init 76 = .ok (.dup, 1) := by decide +kernel
theorem dX9_init_77 : decode cX9_init 77 = .ok (.iconst 5, 1) := by decide +kernel
theorem dX9_init_78 : decode cX9_init 78 = .ok (.bipush 32, 2) := by decide +kernel
theorem dX9_init_80 : decode cX9_init 80 = .ok (.bastore, 1) := by decide +kernel
theorem dX9_init_81 : decode cX9_init 81 = .ok (.dup, 1) := by decide +kernel
theorem dX9_init_82 : decode cX9_init 82 = .ok (.bipush 6, 2) := by decide +kernel
theorem dX9_init_84 : decode cX9_init 84 = .ok (.bipush 98, 2) := by decide +kernel
theorem dX9_init_86 : decode cX9_init 86 = .ok (.bastore, 1) := by decide +kernel
theorem dX9_init_87 : decode cX9_init 87 = .ok (.dup, 1) := by decide +kernel
theorem dX9_init_88 : decode cX9_init 88 = .ok (.bipush 7, 2) := by decide +kernel
theorem dX9_init_90 : decode cX9_init 90 = .ok (.bipush 97, 2) := by decide +kernel
theorem dX9_init_92 : decode cX9_init 92 = .ok (.bastore, 1) := by decide +kernel
theorem dX9_init_93 : decode cX9_init 93 = .ok (.dup, 1) := by decide +kernel
theorem dX9_init_94 : decode cX9_init 94 = .ok (.bipush 8, 2) := by decide +kernel
theorem dX9_init_96 : decode cX9_init 96 = .ok (.bipush 114, 2) := by decide +kernel
theorem dX9_init_98 : decode cX9_init 98 = .ok (.bastore, 1) := by decide +kernel
theorem dX9_init_99 : decode cX9_init 99 = .ok (.dup, 1) := by decide +kernel
theorem dX9_init_100 : decode cX9_init 100 = .ok (.bipush 9, 2) := by decide +kernel
theorem dX9_init_102 : decode cX9_init 102 = .ok (.bipush 115, 2) := by decide +kernel
theorem dX9_init_104 : decode cX9_init 104 = .ok (.bastore, 1) := by decide +kernel
theorem dX9_init_105 : decode cX9_init 105 = .ok (.dup, 1) := by decide +kernel
theorem dX9_init_106 : decode cX9_init 106 = .ok (.bipush 10, 2) := by decide +kernel
theorem dX9_init_108 : decode cX9_init 108 = .ok (.bipush 32, 2) := by decide +kernel
theorem dX9_init_110 : decode cX9_init 110 = .ok (.bastore, 1) := by decide +kernel
theorem dX9_init_111 : decode cX9_init 111 = .ok (.dup, 1) := by decide +kernel
theorem dX9_init_112 : decode cX9_init 112 = .ok (.bipush 11, 2) := by decide +kernel
theorem dX9_init_114 : decode cX9_init 114 = .ok (.bipush 105, 2) := by decide +kernel
theorem dX9_init_116 : decode cX9_init 116 = .ok (.bastore, 1) := by decide +kernel
theorem dX9_init_117 : decode cX9_init 117 = .ok (.dup, 1) := by decide +kernel
theorem dX9_init_118 : decode cX9_init 118 = .ok (.bipush 12, 2) := by decide +kernel
theorem dX9_init_120 : decode cX9_init 120 = .ok (.bipush 102, 2) := by decide +kernel
theorem dX9_init_122 : decode cX9_init 122 = .ok (.bastore, 1) := by decide +kernel
theorem dX9_init_123 : decode cX9_init 123 = .ok (.dup, 1) := by decide +kernel
theorem dX9_init_124 : decode cX9_init 124 = .ok (.bipush 13, 2) := by decide +kernel
theorem dX9_init_126 : decode cX9_init 126 = .ok (.bipush 32, 2) := by decide +kernel
theorem dX9_init_128 : decode cX9_init 128 = .ok (.bastore, 1) := by decide +kernel
theorem dX9_init_129 : decode cX9_init 129 = .ok (.dup, 1) := by decide +kernel
theorem dX9_init_130 : decode cX9_init 130 = .ok (.bipush 14, 2) := by decide +kernel
theorem dX9_init_132 : decode cX9_init 132 = .ok (.bipush 111, 2) := by decide +kernel
theorem dX9_init_134 : decode cX9_init 134 = .ok (.bastore, 1) := by decide +kernel
theorem dX9_init_135 : decode cX9_init 135 = .ok (.dup, 1) := by decide +kernel
theorem dX9_init_136 : decode cX9_init 136 = .ok (.bipush 15, 2) := by decide +kernel
theorem dX9_init_138 : decode cX9_init 138 = .ok (.bipush 114, 2) := by decide +kernel
theorem dX9_init_140 : decode cX9_init 140 = .ok (.bastore, 1) := by decide +kernel
theorem dX9_init_141 : decode cX9_init 141 = .ok (.dup, 1) := by decide +kernel
theorem dX9_init_142 : decode cX9_init 142 = .ok (.bipush 16, 2) := by decide +kernel
theorem dX9_init_144 : decode cX9_init 144 = .ok (.bipush 32, 2) := by decide +kernel
theorem dX9_init_146 : decode cX9_init 146 = .ok (.bastore, 1) := by decide +kernel
theorem dX9_init_147 : decode cX9_init 147 = .ok (.dup, 1) := by decide +kernel
theorem dX9_init_148 : decode cX9_init 148 = .ok (.bipush 17, 2) := by decide +kernel
theorem dX9_init_150 : decode cX9_init 150 = .ok (.bipush 97, 2) := by decide +kernel
theorem dX9_init_152 : decode cX9_init 152 = .ok (.bastore, 1) := by decide +kernel
theorem dX9_init_153 : decode cX9_init 153 = .ok (.dup, 1) := by decide +kernel
theorem dX9_init_154 : decode cX9_init 154 = .ok (.bipush 18, 2) := by decide +kernel
theorem dX9_init_156 : decode cX9_init 156 = .ok (.bipush 110, 2) := by decide +kernel
theorem dX9_init_158 : decode cX9_init 158 = .ok (.bastore, 1) := by decide +kernel
theorem dX9_init_159 : decode cX9_init 159 = .ok (.dup, 1) := by decide +kernel
theorem dX9_init_160 : decode cX9_init 160 = .ok (.bipush 19, 2) := by decide +kernel
theorem dX9_init_162 : decode cX9_init 162 = .ok (.bipush 100, 2) := by decide +kernel
theorem dX9_init_164 : decode cX9_init 164 = .ok (.bastore, 1) := by decide +kernel
theorem dX9_init_165 : decode cX9_init 165 = .ok (.dup, 1) := by decide +kernel
theorem dX9_init_166 : decode cX9_init 166 = .ok (.bipush 20, 2) := by decide +kernel
theorem dX9_init_168 : decode cX9_init 168 = .ok (.bipush 32, 2) := by decide +kernel
theorem dX9_init_170 : decode cX9_init 170 = .ok (.bastore, 1) := by decide +kernel
theorem dX9_init_171 : decode cX9_init 171 = .ok (.dup, 1) := by decide +kernel
theorem dX9_init_172 : decode cX9_init 172 = .ok (.bipush 21, 2) := by decide +kernel
theorem dX9_init_174 : decode cX9_init 174 = .ok (.bipush 110, 2) := by decide +kernel
theorem dX9_init_176 : decode cX9_init 176 = .ok (.bastore, 1) := by decide +kernel
theorem dX9_init_177 : decode cX9_init 177 = .ok (.dup, 1) := by decide +kernel
theorem dX9_init_178 : decode cX9_init 178 = .ok (.bipush 22, 2) := by decide +kernel
theorem dX9_init_180 : decode cX9_init 180 = .ok (.bipush 111, 2) := by decide +kernel
theorem dX9_init_182 : decode cX9_init 182 = .ok (.bastore, 1) := by decide +kernel
theorem dX9_init_183 : decode cX9_init 183 = .ok (.dup, 1) := by decide +kernel
theorem dX9_init_184 : decode cX9_init 184 = .ok (.bipush 23, 2) := by decide +kernel
theorem dX9_init_186 : decode cX9_init 186 = .ok (.bipush 116, 2) := by decide +kernel
theorem dX9_init_188 : decode cX9_init 188 = .ok (.bastore, 1) := by decide +kernel
theorem dX9_init_189 : decode cX9_init 189 = .ok (.dup, 1) := by decide +kernel
theorem dX9_init_190 : decode cX9_init 190 = .ok (.bipush 24, 2) := by decide +kernel
theorem dX9_init_192 : decode cX9_init 192 = .ok (.bipush 32, 2) := by decide +kernel
theorem dX9_init_194 : decode cX9_init 194 = .ok (.bastore, 1) := by decide +kernel
theorem dX9_init_195 : decode cX9_init 195 = .ok (.dup, 1) := by decide +kernel
theorem dX9_init_196 : decode cX9_init 196 = .ok (.bipush 25, 2) := by decide +kernel
theorem dX9_init_198 : decode cX9_init 198 = .ok (.bipush 118, 2) := by decide +kernel
theorem dX9_init_200 : decode cX9_init 200 = .ok (.bastore, 1) := by decide +kernel
theorem dX9_init_201 : decode cX9_init 201 = .ok (.dup, 1) := by decide +kernel
theorem dX9_init_202 : decode cX9_init 202 = .ok (.bipush 26, 2) := by decide +kernel
theorem dX9_init_204 : decode cX9_init 204 = .ok (.bipush 101, 2) := by decide +kernel
theorem dX9_init_206 : decode cX9_init 206 = .ok (.bastore, 1) := by decide +kernel
theorem dX9_init_207 : decode cX9_init 207 = .ok (.dup, 1) := by decide +kernel
theorem dX9_init_208 : decode cX9_init 208 = .ok (.bipush 27, 2) := by decide +kernel
theorem dX9_init_210 : decode cX9_init 210 = .ok (.bipush 114, 2) := by decide +kernel
theorem dX9_init_212 : decode cX9_init 212 = .ok (.bastore, 1) := by decide +kernel
theorem dX9_init_213 : decode cX9_init 213 = .ok (.dup, 1) := by decide +kernel
theorem dX9_init_214 : decode cX9_init 214 = .ok (.bipush 28, 2) := by decide +kernel
theorem dX9_init_216 : decode cX9_init 216 = .ok (.bipush 116, 2) := by decide +kernel
theorem dX9_init_218 : decode cX9_init 218 = .ok (.bastore, 1) := by decide +kernel
theorem dX9_init_219 : decode cX9_init 219 = .ok (.dup, 1) := by decide +kernel
theorem dX9_init_220 : decode cX9_init 220 = .ok (.bipush 29, 2) := by decide +kernel
theorem dX9_init_222 : decode cX9_init 222 = .ok (.bipush 101, 2) := by decide +kernel
theorem dX9_init_224 : decode cX9_init 224 = .ok (.bastore, 1) := by decide +kernel
theorem dX9_init_225 : decode cX9_init 225 = .ok (.dup, 1) := by decide +kernel
theorem dX9_init_226 : decode cX9_init 226 = .ok (.bipush 30, 2) := by decide +kernel
theorem dX9_init_228 : decode cX9_init 228 = .ok (.bipush 120, 2) := by decide +kernel
theorem dX9_init_230 : decode cX9_init 230 = .ok (.bastore, 1) := by decide +kernel
theorem dX9_init_231 : decode cX9_init 231 = .ok (.dup, 1) := by decide +kernel
theorem dX9_init_232 : decode cX9_init 232 = .ok (.bipush 31, 2) := by decide +kernel
theorem dX9_init_234 : decode cX9_init 234 = .ok (.bipush 32, 2) := by decide +kernel
theorem dX9_init_236 : decode cX9_init 236 = .ok (.bastore, 1) := by decide +kernel
theorem dX9_init_237 : decode cX9_init 237 = .ok (.dup, 1) := by decide +kernel
theorem dX9_init_238 : decode cX9_init 238 = .ok (.bipush 32, 2) := by decide +kernel
theorem dX9_init_240 : decode cX9_init 240 = .ok (.bipush 112, 2) := by decide +kernel
theorem dX9_init_242 : decode cX9_init 242 = .ok (.bastore, 1) := by decide +kernel
theorem dX9_init_243 : decode cX9_init 243 = .ok (.dup, 1) := by decide +kernel
theorem dX9_init_244 : decode cX9_init 244 = .ok (.bipush 33, 2) := by decide +kernel
theorem dX9_init_246 : decode cX9_init 246 = .ok (.bipush 97, 2) := by decide +kernel
theorem dX9_init_248 : decode cX9_init 248 = .ok (.bastore, 1) := by decide +kernel
theorem dX9_init_249 : decode cX9_init 249 = .ok (.dup, 1) := by decide +kernel
theorem dX9_init_250 : decode cX9_init 250 = .ok (.bipush 34, 2) := by decide +kernel
theorem dX9_init_252 : decode cX9_init 252 = .ok (.bipush 114, 2) := by decide +kernel
theorem dX9_init_254 : decode cX9_init 254 = .ok (.bastore, 1) := by decide +kernel
theorem dX9_init_255 : decode cX9_init 255 = .ok (.dup, 1) := by decide +kernel
theorem dX9_init_256 : decode cX9_init 256 = .ok (.bipush 35, 2) := by decide +kernel
theorem dX9_init_258 : decode cX9_init 258 = .ok (.bipush 116, 2) := by decide +kernel
theorem dX9_init_260 : decode cX9_init 260 = .ok (.bastore, 1) := by decide +kernel
theorem dX9_init_261 : decode cX9_init 261 = .ok (.dup, 1) := by decide +kernel
theorem dX9_init_262 : decode cX9_init 262 = .ok (.bipush 36, 2) := by decide +kernel
theorem dX9_init_264 : decode cX9_init 264 = .ok (.bipush 32, 2) := by decide +kernel
theorem dX9_init_266 : decode cX9_init 266 = .ok (.bastore, 1) := by decide +kernel
theorem dX9_init_267 : decode cX9_init 267 = .ok (.dup, 1) := by decide +kernel
theorem dX9_init_268 : decode cX9_init 268 = .ok (.bipush 37, 2) := by decide +kernel
theorem dX9_init_270 : decode cX9_init 270 = .ok (.bipush 107, 2) := by decide +kernel
theorem dX9_init_272 : decode cX9_init 272 = .ok (.bastore, 1) := by decide +kernel
theorem dX9_init_273 : decode cX9_init 273 = .ok (.dup, 1) := by decide +kernel
theorem dX9_init_274 : decode cX9_init 274 = .ok (.bipush 38, 2) := by decide +kernel
theorem dX9_init_276 : decode cX9_init 276 = .ok (.bipush 101, 2) := by decide +kernel
theorem dX9_init_278 : decode cX9_init 278 = .ok (.bastore, 1) := by decide +kernel
theorem dX9_init_279 : decode cX9_init 279 = .ok (.dup, 1) := by decide +kernel
theorem dX9_init_280 : decode cX9_init 280 = .ok (.bipush 39, 2) := by decide +kernel
theorem dX9_init_282 : decode cX9_init 282 = .ok (.bipush 121, 2) := by decide +kernel
theorem dX9_init_284 : decode cX9_init 284 = .ok (.bastore, 1) := by decide +kernel
theorem dX9_init_285 : decode cX9_init 285 = .ok (.dup, 1) := by decide +kernel
theorem dX9_init_286 : decode cX9_init 286 = .ok (.bipush 40, 2) := by decide +kernel
theorem dX9_init_288 : decode cX9_init 288 = .ok (.bipush 32, 2) := by decide +kernel
theorem dX9_init_290 : decode cX9_init 290 = .ok (.bastore, 1) := by decide +kernel
theorem dX9_init_291 : decode cX9_init 291 = .ok (.dup, 1) := by decide +kernel
theorem dX9_init_292 : decode cX9_init 292 = .ok (.bipush 41, 2) := by decide +kernel
theorem dX9_init_294 : decode cX9_init 294 = .ok (.bipush 115, 2) := by decide +kernel
theorem dX9_init_296 : decode cX9_init 296 = .ok (.bastore, 1) := by decide +kernel
theorem dX9_init_297 : decode cX9_init 297 = .ok (.dup, 1) := by decide +kernel
theorem dX9_init_298 : decode cX9_init 298 = .ok (.bipush 42, 2) := by decide +kernel
theorem dX9_init_300 : decode cX9_init 300 = .ok (.bipush 101, 2) := by decide +kernel
theorem dX9_init_302 : decode cX9_init 302 = .ok (.bastore, 1) := by decide +kernel
theorem dX9_init_303 : decode cX9_init 303 = .ok (.dup, 1) := by decide +kernel
theorem dX9_init_304 : decode cX9_init 304 = .ok (.bipush 43, 2) := by decide +kernel
theorem dX9_init_306 : decode cX9_init 306 = .ok (.bipush 101, 2) := by decide +kernel
theorem dX9_init_308 : decode cX9_init 308 = .ok (.bastore, 1) := by decide +kernel
theorem dX9_init_309 : decode cX9_init 309 = .ok (.dup, 1) := by decide +kernel
theorem dX9_init_310 : decode cX9_init 310 = .ok (.bipush 44, 2) := by decide +kernel
theorem dX9_init_312 : decode cX9_init 312 = .ok (.bipush 100, 2) := by decide +kernel
theorem dX9_init_314 : decode cX9_init 314 = .ok (.bastore, 1) := by decide +kernel
theorem dX9_init_315 : decode cX9_init 315 = .ok (.dup, 1) := by decide +kernel
theorem dX9_init_316 : decode cX9_init 316 = .ok (.bipush 45, 2) := by decide +kernel
theorem dX9_init_318 : decode cX9_init 318 = .ok (.bipush 32, 2) := by decide +kernel
theorem dX9_init_320 : decode cX9_init 320 = .ok (.bastore, 1) := by decide +kernel
theorem dX9_init_321 : decode cX9_init 321 = .ok (.dup, 1) := by decide +kernel
theorem dX9_init_322 : decode cX9_init 322 = .ok (.bipush 46, 2) := by decide +kernel
theorem dX9_init_324 : decode cX9_init 324 = .ok (.bipush 109, 2) := by decide +kernel
theorem dX9_init_326 : decode cX9_init 326 = .ok (.bastore, 1) := by decide +kernel
theorem dX9_init_327 : decode cX9_init 327 = .ok (.dup, 1) := by decide +kernel
theorem dX9_init_328 : decode cX9_init 328 = .ok (.bipush 47, 2) := by decide +kernel
theorem dX9_init_330 : decode cX9_init 330 = .ok (.bipush 111, 2) := by decide +kernel
theorem dX9_init_332 : decode cX9_init 332 = .ok (.bastore, 1) := by decide +kernel
theorem dX9_init_333 : decode cX9_init 333 = .ok (.dup, 1) := by decide +kernel
theorem dX9_init_334 : decode cX9_init 334 = .ok (.bipush 48, 2) := by decide +kernel
theorem dX9_init_336 : decode cX9_init 336 = .ok (.bipush 111, 2) := by decide +kernel
theorem dX9_init_338 : decode cX9_init 338 = .ok (.bastore, 1) := by decide +kernel
theorem dX9_init_339 : decode cX9_init 339 = .ok (.dup, 1) := by decide +kernel
theorem dX9_init_340 : decode cX9_init 340 = .ok (.bipush 49, 2) := by decide +kernel
theorem dX9_init_342 : decode cX9_init 342 = .ok (.bipush 100, 2) := by decide +kernel
theorem dX9_init_344 : decode cX9_init 344 = .ok (.bastore, 1) := by decide +kernel
theorem dX9_init_345 : decode cX9_init 345 = .ok (.dup, 1) := by decide +kernel
theorem dX9_init_346 : decode cX9_init 346 = .ok (.bipush 50, 2) := by decide +kernel
theorem dX9_init_348 : decode cX9_init 348 = .ok (.bipush 32, 2) := by decide +kernel
theorem dX9_init_350 : decode cX9_init 350 = .ok (.bastore, 1) := by decide +kernel
theorem dX9_init_351 : decode cX9_init 351 = .ok (.dup, 1) := by decide +kernel
theorem dX9_init_352 : decode cX9_init 352 = .ok (.bipush 51, 2) := by decide +kernel
theorem dX9_init_354 : decode cX9_init 354 = .ok (.bipush 100, 2) := by decide +kernel
theorem dX9_init_356 : decode cX9_init 356 = .ok (.bastore, 1) := by decide +kernel
theorem dX9_init_357 : decode cX9_init 357 = .ok (.dup, 1) := by decide +kernel
theorem dX9_init_358 : decode cX9_init 358 = .ok (.bipush 52, 2) := by decide +kernel
theorem dX9_init_360 : decode cX9_init 360 = .ok (.bipush 101, 2) := by decide +kernel
theorem dX9_init_362 : decode cX9_init 362 = .ok (.bastore, 1) := by decide +kernel
theorem dX9_init_363 : decode cX9_init 363 = .ok (.dup, 1) := by decide +kernel
theorem dX9_init_364 : decode cX9_init 364 = .ok (.bipush 53, 2) := by decide +kernel
theorem dX9_init_366 : decode cX9_init 366 = .ok (.bipush 103, 2) := by decide +kernel
theorem dX9_init_368 : decode cX9_init 368 = .ok (.bastore, 1) := by decide +kernel
theorem dX9_init_369 : decode cX9_init 369 = .ok (.dup, 1) := by decide +kernel
theorem dX9_init_370 : decode cX9_init 370 = .ok (.bipush 54, 2) := by decide +kernel
theorem dX9_init_372 : decode cX9_init 372 = .ok (.bipush 114, 2) := by decide +kernel
theorem dX9_init_374 : decode cX9_init 374 = .ok (.bastore, 1) := by decide +kernel
theorem dX9_init_375 : decode cX9_init 375 = .ok (.dup, 1) := by decide +kernel
theorem dX9_init_376 : decode cX9_init 376 = .ok (.bipush 55, 2) := by decide +kernel
theorem dX9_init_378 : decode cX9_init 378 = .ok (.bipush 101, 2) := by decide +kernel
theorem dX9_init_380 : decode cX9_init 380 = .ok (.bastore, 1) := by decide +kernel
theorem dX9_init_381 : decode cX9_init 381 = .ok (.dup, 1) := by decide +kernel
theorem dX9_init_382 : decode cX9_init 382 = .ok (.bipush 56, 2) := by decide +kernel
theorem dX9_init_384 : decode cX9_init 384 = .ok (.bipush 101, 2) := by decide +kernel
theorem dX9_init_386 : decode cX9_init 386 = .ok (.bastore, 1) := by decide +kernel
theorem dX9_init_387 : decode cX9_init 387 = .ok (.dup, 1) := by decide +kernel
theorem dX9_init_388 : decode cX9_init 388 = .ok (.bipush 57, 2) := by decide +kernel
theorem dX9_init_390 : decode cX9_init 390 = .ok (.bipush 32, 2) := by decide +kernel
theorem dX9_init_392 : decode cX9_init 392 = .ok (.bastore, 1) := by decide +kernel
theorem dX9_init_393 : decode cX9_init 393 = .ok (.dup, 1) := by decide +kernel
theorem dX9_init_394 : decode cX9_init 394 = .ok (.bipush 58, 2) := by decide +kernel
theorem dX9_init_396 : decode cX9_init 396 = .ok (.bipush 116, 2) := by decide +kernel
theorem dX9_init_398 : decode cX9_init 398 = .ok (.bastore, 1) := by decide +kernel
theorem dX9_init_399 : decode cX9_init 399 = .ok (.dup, 1) := by decide +kernel
theorem dX9_init_400 : decode cX9_init 400 = .ok (.bipush 59, 2) := by decide +kernel
theorem dX9_init_402 : decode cX9_init 402 = .ok (.bipush 105, 2) := by decide +kernel
theorem dX9_init_404 : decode cX9_init 404 = .ok (.bastore, 1) := by decide +kernel
theorem dX9_init_405 : decode cX9_init 405 = .ok (.dup, 1) := by decide +kernel
theorem dX9_init_406 : decode cX9_init 406 = .ok (.bipush 60, 2) := by decide +kernel
theorem dX9_init_408 : decode cX9_init 408 = .ok (.bipush 109, 2) := by decide +kernel
theorem dX9_init_410 : decode cX9_init 410 = .ok (.bastore, 1) := by decide +kernel
theorem dX9_init_411 : decode cX9_init 411 = .ok (.dup, 1) := by decide +kernel
theorem dX9_init_412 : decode cX9_init 412 = .ok (.bipush 61, 2) := by decide +kernel
theorem dX9_init_414 : decode cX9_init 414 = .ok (.bipush 101, 2) := by decide +kernel
theorem dX9_init_416 : decode cX9_init 416 = .ok (.bastore, 1) := by decide +kernel
theorem dX9_init_417 : decode cX9_init 417 = .ok (.dup, 1) := by decide +kernel
theorem dX9_init_418 : decode cX9_init 418 = .ok (.bipush 62, 2) := by decide +kernel
theorem dX9_init_420 : decode cX9_init 420 = .ok (.bipush 32, 2) := by decide +kernel
theorem dX9_init_422 : decode cX9_init 422 = .ok (.bastore, 1) := by decide +kernel
theorem dX9_init_423 : decode cX9_init 423 = .ok (.dup, 1) := by decide +kernel
theorem dX9_init_424 : decode cX9_init 424 = .ok (.bipush 63, 2) := by decide +kernel
theorem dX9_init_426 : decode cX9_init 426 = .ok (.bipush 100, 2) := by decide +kernel
theorem dX9_init_428 : decode cX9_init 428 = .ok (.bastore, 1) := by decide +kernel
theorem dX9_init_429 : decode cX9_init 429 = .ok (.dup, 1) := by decide +kernel
theorem dX9_init_430 : decode cX9_init 430 = .ok (.bipush 64, 2) := by decide +kernel
theorem dX9_init_432 : decode cX9_init 432 = .ok (.bipush 111, 2) := by decide +kernel
theorem dX9_init_434 : decode cX9_init 434 = .ok (.bastore, 1) := by decide +kernel
theorem dX9_init_435 : decode cX9_init 435 = .ok (.dup, 1) := by decide +kernel
theorem dX9_init_436 : decode cX9_init 436 = .ok (.bipush 65, 2) := by decide +kernel
theorem dX9_init_438 : decode cX9_init 438 = .ok (.bipush 110, 2) := by decide +kernel
theorem dX9_init_440 : decode cX9_init 440 = .ok (.bastore, 1) := by decide +kernel
theorem dX9_init_441 : decode cX9_init 441 = .ok (.dup, 1) := by decide +kernel
theorem dX9_init_442 : decode cX9_init 442 = .ok (.bipush 66, 2) := by decide +kernel
theorem dX9_init_444 : decode cX9_init 444 = .ok (.bipush 101, 2) := by decide +kernel
theorem dX9_init_446 : decode cX9_init 446 = .ok (.bastore, 1) := by decide +kernel
theorem dX9_init_447 : decode cX9_init 447 = .ok (.dup, 1) := by decide +kernel
theorem dX9_init_448 : decode cX9_init 448 = .ok (.bipush 67, 2) := by decide +kernel
theorem dX9_init_450 : decode cX9_init 450 = .ok (.bipush 32, 2) := by decide +kernel
theorem dX9_init_452 : decode cX9_init 452 = .ok (.bastore, 1) := by decide +kernel
theorem dX9_init_453 : decode cX9_init 453 = .ok (.dup, 1) := by decide +kernel
theorem dX9_init_454 : decode cX9_init 454 = .ok (.bipush 68, 2) := by decide +kernel
theorem dX9_init_456 : decode cX9_init 456 = .ok (.bipush 108, 2) := by decide +kernel
theorem dX9_init_458 : decode cX9_init 458 = .ok (.bastore, 1) := by decide +kernel
theorem dX9_init_459 : decode cX9_init 459 = .ok (.dup, 1) := by decide +kernel
theorem dX9_init_460 : decode cX9_init 460 = .ok (.bipush 69, 2) := by decide +kernel
theorem dX9_init_462 : decode cX9_init 462 = .ok (.bipush 97, 2) := by decide +kernel
theorem dX9_init_464 : decode cX9_init 464 = .ok (.bastore, 1) := by decide +kernel
theorem dX9_init_465 : decode cX9_init 465 = .ok (.dup, 1) := by decide +kernel
theorem dX9_init_466 : decode cX9_init 466 = .ok (.bipush 70, 2) := by decide +kernel
theorem dX9_init_468 : decode cX9_init 468 = .ok (.bipush 116, 2) := by decide +kernel
theorem dX9_init_470 : decode cX9_init 470 = .ok (.bastore, 1) := by decide +kernel
theorem dX9_init_471 : decode cX9_init 471 = .ok (.dup, 1) := by decide +kernel
theorem dX9_init_472 : decode cX9_init 472 = .ok (.bipush 71, 2) := by decide +kernel
theorem dX9_init_474 : decode cX9_init 474 = .ok (.bipush 101, 2) := by decide +kernel
theorem dX9_init_476 : decode cX9_init 476 = .ok (.bastore, 1) := by decide +kernel
theorem dX9_init_477 : decode cX9_init 477 = .ok (.dup, 1) := by decide +kernel
theorem dX9_init_478 : decode cX9_init 478 = .ok (.bipush 72, 2) := by decide +kernel
theorem dX9_init_480 : decode cX9_init 480 = .ok (.bipush 115, 2) := by decide +kernel
theorem dX9_init_482 : decode cX9_init 482 = .ok (.bastore, 1) := by decide +kernel
theorem dX9_init_483 : decode cX9_init 483 = .ok (.dup, 1) := by decide +kernel
theorem dX9_init_484 : decode cX9_init 484 = .ok (.bipush 73, 2) := by decide +kernel
theorem dX9_init_486 : decode cX9_init 486 = .ok (.bipush 116, 2) := by decide +kernel
theorem dX9_init_488 : decode cX9_init 488 = .ok (.bastore, 1) := by decide +kernel
theorem dX9_init_489 : decode cX9_init 489 = .ok (.dup, 1) := by decide +kernel
theorem dX9_init_490 : decode cX9_init 490 = .ok (.bipush 74, 2) := by decide +kernel
theorem dX9_init_492 : decode cX9_init 492 = .ok (.bipush 32, 2) := by decide +kernel
theorem dX9_init_494 : decode cX9_init 494 = .ok (.bastore, 1) := by decide +kernel
theorem dX9_init_495 : decode cX9_init 495 = .ok (.dup, 1) := by decide +kernel
theorem dX9_init_496 : decode cX9_init 496 = .ok (.bipush 75, 2) := by decide +kernel
theorem dX9_init_498 : decode cX9_init 498 = .ok (.bipush 107, 2) := by decide +kernel
theorem dX9_init_500 : decode cX9_init 500 = .ok (.bastore, 1) := by decide +kernel
theorem dX9_init_501 : decode cX9_init 501 = .ok (.dup, 1) := by decide +kernel
theorem dX9_init_502 : decode cX9_init 502 = .ok (.bipush 76, 2) := by decide +kernel
theorem dX9_init_504 : decode cX9_init 504 = .ok (.bipush 101, 2) := by decide +kernel
theorem dX9_init_506 : decode cX9_init 506 = .ok (.bastore, 1) := by decide +kernel
theorem dX9_init_507 : decode cX9_init 507 = .ok (.dup, 1) := by decide +kernel
theorem dX9_init_508 : decode cX9_init 508 = .ok (.bipush 77, 2) := by decide +kernel
theorem dX9_init_510 : decode cX9_init 510 = .ok (.bipush 121, 2) := by decide +kernel
theorem dX9_init_512 : decode cX9_init 512 = .ok (.bastore, 1) := by decide +kernel
theorem dX9_init_513 : decode cX9_init 513 = .ok (.dup, 1) := by decide +kernel
theorem dX9_init_514 : decode cX9_init 514 = .ok (.bipush 78, 2) := by decide +kernel
theorem dX9_init_516 : decode cX9_init 516 = .ok (.bipush 115, 2) := by decide +kernel
theorem dX9_init_518 : decode cX9_init 518 = .ok (.bastore, 1) := by decide +kernel
theorem dX9_init_519 : decode cX9_init 519 = .ok (.dup, 1) := by decide +kernel
theorem dX9_init_520 : decode cX9_init 520 = .ok (.bipush 79, 2) := by decide +kernel
theorem dX9_init_522 : decode cX9_init 522 = .ok (.bipush 32, 2) := by decide +kernel
theorem dX9_init_524 : decode cX9_init 524 = .ok (.bastore, 1) := by decide +kernel
theorem dX9_init_525 : decode cX9_init 525 = .ok (.dup, 1) := by decide +kernel
theorem dX9_init_526 : decode cX9_init 526 = .ok (.bipush 80, 2) := by decide +kernel
theorem dX9_init_528 : decode cX9_init 528 = .ok (.bipush 110, 2) := by decide +kernel
theorem dX9_init_530 : decode cX9_init 530 = .ok (.bastore, 1) := by decide +kernel
theorem dX9_init_531 : decode cX9_init 531 = .ok (.dup, 1) := by decide +kernel
theorem dX9_init_532 : decode cX9_init 532 = .ok (.bipush 81, 2) := by decide +kernel
theorem dX9_init_534 : decode cX9_init 534 = .ok (.bipush 117, 2) := by decide +kernel
theorem dX9_init_536 : decode cX9_init 536 = .ok (.bastore, 1) := by decide +kernel
theorem dX9_init_537 : decode cX9_init 537 = .ok (.dup, 1) := by decide +kernel
theorem dX9_init_538 : decode cX9_init 538 = .ok (.bipush 82, 2) := by decide +kernel
theorem dX9_init_540 : decode cX9_init 540 = .ok (.bipush 109, 2) := by decide +kernel
theorem dX9_init_542 : decode cX9_init 542 = .ok (.bastore, 1) := by decide +kernel
theorem dX9_init_543 : decode cX9_init 543 = .ok (.dup, 1) := by decide +kernel
theorem dX9_init_544 : decode cX9_init 544 = .ok (.bipush 83, 2) := by decide +kernel
theorem dX9_init_546 : decode cX9_init 546 = .ok (.bipush 98, 2) := by decide +kernel
theorem dX9_init_548 : decode cX9_init 548 = .ok (.bastore, 1) := by decide +kernel
theorem dX9_init_549 : decode cX9_init 549 = .ok (.dup, 1) := by decide +kernel
theorem dX9_init_550 : decode cX9_init 550 = .ok (.bipush 84, 2) := by decide +kernel
theorem dX9_init_552 : decode cX9_init 552 = .ok (.bipush 101, 2) := by decide +kernel
theorem dX9_init_554 : decode cX9_init 554 = .ok (.bastore, 1) := by decide +kernel
theorem dX9_init_555 : decode cX9_init 555 = .ok (.dup, 1) := by decide +kernel
theorem dX9_init_556 : decode cX9_init 556 = .ok (.bipush 85, 2) := by decide +kernel
theorem dX9_init_558 : decode cX9_init 558 = .ok (.bipush 114, 2) := by decide +kernel
theorem dX9_init_560 : decode cX9_init 560 = .ok (.bastore, 1) := by decide +kernel
theorem dX9_init_561 : decode cX9_init 561 = .ok (.dup, 1) := by decide +kernel
theorem dX9_init_562 : decode cX9_init 562 = .ok (.bipush 86, 2) := by decide +kernel
theorem dX9_init_564 : decode cX9_init 564 = .ok (.bipush 32, 2) := by decide +kernel
theorem dX9_init_566 : decode cX9_init 566 = .ok (.bastore, 1) := by decide +kernel
theorem dX9_init_567 : decode cX9_init 567 = .ok (.dup, 1) := by decide +kernel
theorem dX9_init_568 : decode cX9_init 568 = .ok (.bipush 87, 2) := by decide +kernel
theorem dX9_init_570 : decode cX9_init 570 = .ok (.bipush 97, 2) := by decide +kernel
theorem dX9_init_572 : decode cX9_init 572 = .ok (.bastore, 1) := by decide +kernel
theorem dX9_init_573 : decode cX9_init 573 = .ok (.dup, 1) := by decide +kernel
theorem dX9_init_574 : decode cX9_init 574 = .ok (.bipush 88, 2) := by decide +kernel
theorem dX9_init_576 : decode cX9_init 576 = .ok (.bipush 100, 2) := by decide +kernel
theorem dX9_init_578 : decode cX9_init 578 = .ok (.bastore, 1) := by decide +kernel
theorem dX9_init_579 : decode cX9_init 579 = .ok (.dup, 1) := by decide +kernel
theorem dX9_init_580 : decode cX9_init 580 = .ok (.bipush 89, 2) := by decide +kernel
theorem dX9_init_582 : decode cX9_init 582 = .ok (.bipush 100, 2) := by decide +kernel
theorem dX9_init_584 : decode cX9_init 584 = .ok (.bastore, 1) := by decide +kernel
theorem dX9_init_585 : decode cX9_init 585 = .ok (.dup, 1) := by decide +kernel
theorem dX9_init_586 : decode cX9_init 586 = .ok (.bipush 90, 2) := by decide +kernel
theorem dX9_init_588 : decode cX9_init 588 = .ok (.bipush 32, 2) := by decide +kernel
theorem dX9_init_590 : decode cX9_init 590 = .ok (.bastore, 1) := by decide +kernel
theorem dX9_init_591 : decode cX9_init 591 = .ok (.dup, 1) := by decide +kernel
theorem dX9_init_592 : decode cX9_init 592 = .ok (.bipush 91, 2) := by decide +kernel
theorem dX9_init_594 : decode cX9_init 594 = .ok (.bipush 116, 2) := by decide +kernel
theorem dX9_init_596 : decode cX9_init 596 = .ok (.bastore, 1) := by decide +kernel
theorem dX9_init_597 : decode cX9_init 597 = .ok (.dup, 1) := by decide +kernel
theorem dX9_init_598 : decode cX9_init 598 = .ok (.bipush 92, 2) := by decide +kernel
theorem dX9_init_600 : decode cX9_init 600 = .ok (.bipush 97, 2) := by decide +kernel
theorem dX9_init_602 : decode cX9_init 602 = .ok (.bastore, 1) := by decide +kernel
theorem dX9_init_603 : decode cX9_init 603 = .ok (.dup, 1) := by decide +kernel
theorem dX9_init_604 : decode cX9_init 604 = .ok (.bipush 93, 2) := by decide +kernel
theorem dX9_init_606 : decode cX9_init 606 = .ok (.bipush 107, 2) := by decide +kernel
theorem dX9_init_608 : decode cX9_init 608 = .ok (.bastore, 1) := by decide +kernel
theorem dX9_init_609 : decode cX9_init 609 = .ok (.dup, 1) := by decide +kernel
theorem dX9_init_610 : decode cX9_init 610 = .ok (.bipush 94, 2) := by decide +kernel
theorem dX9_init_612 : decode cX9_init 612 = .ok (.bipush 101, 2) := by decide +kernel
theorem dX9_init_614 : decode cX9_init 614 = .ok (.bastore, 1) := by decide +kernel
theorem dX9_init_615 : decode cX9_init 615 = .ok (.dup, 1) := by decide +kernel
theorem dX9_init_616 : decode cX9_init 616 = .ok (.bipush 95, 2) := by decide +kernel
theorem dX9_init_618 : decode cX9_init 618 = .ok (.bipush 32, 2) := by decide +kernel
theorem dX9_init_620 : decode cX9_init 620 = .ok (.bastore, 1) := by decide +kernel
theorem dX9_init_621 : decode cX9_init 621 = .ok (.dup, 1) := by decide +kernel
theorem dX9_init_622 : decode cX9_init 622 = .ok (.bipush 96, 2) := by decide +kernel
theorem dX9_init_624 : decode cX9_init 624 = .ok (.bipush 115, 2) := by decide +kernel
theorem dX9_init_626 : decode cX9_init 626 = .ok (.bastore, 1) := by decide +kernel
theorem dX9_init_627 : decode cX9_init 627 = .ok (.dup, 1) := by decide +kernel
theorem dX9_init_628 : decode cX9_init 628 = .ok (.bipush 97, 2) := by decide +kernel
theorem dX9_init_630 : decode cX9_init 630 = .ok (.bipush 105, 2) := by decide +kernel
theorem dX9_init_632 : decode cX9_init 632 = .ok (.bastore, 1) := by decide +kernel
theorem dX9_init_633 : decode cX9_init 633 = .ok (.dup, 1) := by decide +kernel
theorem dX9_init_634 : decode cX9_init 634 = .ok (.bipush 98, 2) := by decide +kernel
theorem dX9_init_636 : decode cX9_init 636 = .ok (.bipush 100, 2) := by decide +kernel
theorem dX9_init_638 : decode cX9_init 638 = .ok (.bastore, 1) := by decide +kernel
theorem dX9_init_639 : decode cX9_init 639 = .ok (.dup, 1) := by decide +kernel
theorem dX9_init_640 : decode cX9_init 640 = .ok (.bipush 99, 2) := by decide +kernel
theorem dX9_init_642 : decode cX9_init 642 = .ok (.bipush 101, 2) := by decide +kernel
theorem dX9_init_644 : decode cX9_init 644 = .ok (.bastore, 1) := by decide +kernel
theorem dX9_init_645 : decode cX9_init 645 = .ok (.dup, 1) := by decide +kernel
theorem dX9_init_646 : decode cX9_init 646 = .ok (.bipush 100, 2) := by decide +kernel
theorem dX9_init_648 : decode cX9_init 648 = .ok (.bipush 32, 2) := by decide +kernel
theorem dX9_init_650 : decode cX9_init 650 = .ok (.bastore, 1) := by decide +kernel
theorem dX9_init_651 : decode cX9_init 651 = .ok (.dup, 1) := by decide +kernel
theorem dX9_init_652 : decode cX9_init 652 = .ok (.bipush 101, 2) := by decide +kernel
theorem dX9_init_654 : decode cX9_init 654 = .ok (.bipush 98, 2) := by decide +kernel
theorem dX9_init_656 : decode cX9_init 656 = .ok (.bastore, 1) := by decide +kernel
theorem dX9_init_657 : decode cX9_init 657 = .ok (.dup, 1) := by decide +kernel
theorem dX9_init_658 : decode cX9_init 658 = .ok (.bipush 102, 2) := by decide +kernel
theorem dX9_init_660 : decode cX9_init 660 = .ok (.bipush 117, 2) := by decide +kernel
theorem dX9_init_662 : decode cX9_init 662 = .ok (.bastore, 1) := by decide +kernel
theorem dX9_init_663 : decode cX9_init 663 = .ok (.dup, 1) := by decide +kernel
theorem dX9_init_664 : decode cX9_init 664 = .ok (.bipush 103, 2) := by decide +kernel
theorem dX9_init_666 : decode cX9_init 666 = .ok (.bipush 105, 2) := by decide +kernel
theorem dX9_init_668 : decode cX9_init 668 = .ok (.bastore, 1) := by decide +kernel
theorem dX9_init_669 : decode cX9_init 669 = .ok (.dup, 1) := by decide +kernel
theorem dX9_init_670 : decode cX9_init 670 = .ok (.bipush 104, 2) := by decide +kernel
theorem dX9_init_672 : decode cX9_init 672 = .ok (.bipush 108, 2) := by decide +kernel
theorem dX9_init_674 : decode cX9_init 674 = .ok (.bastore, 1) := by decide +kernel
theorem dX9_init_675 : decode cX9_init 675 = .ok (.dup, 1) := by decide +kernel
theorem dX9_init_676 : decode cX9_init 676 = .ok (.bipush 105, 2) := by decide +kernel
theorem dX9_init_678 : decode cX9_init 678 = .ok (.bipush 100, 2) := by decide +kernel
theorem dX9_init_680 : decode cX9_init 680 = .ok (.bastore, 1) := by decide +kernel
theorem dX9_init_681 : decode cX9_init 681 = .ok (.dup, 1) := by decide +kernel
theorem dX9_init_682 : decode cX9_init 682 = .ok (.bipush 106, 2) := by decide +kernel
theorem dX9_init_684 : decode cX9_init 684 = .ok (.bipush 32, 2) := by decide +kernel
theorem dX9_init_686 : decode cX9_init 686 = .ok (.bastore, 1) := by decide +kernel
theorem dX9_init_687 : decode cX9_init 687 = .ok (.dup, 1) := by decide +kernel
theorem dX9_init_688 : decode cX9_init 688 = .ok (.bipush 107, 2) := by decide +kernel
theorem dX9_init_690 : decode cX9_init 690 = .ok (.bipush 116, 2) := by decide +kernel
theorem dX9_init_692 : decode cX9_init 692 = .ok (.bastore, 1) := by decide +kernel
theorem dX9_init_693 : decode cX9_init 693 = .ok (.dup, 1) := by decide +kernel
theorem dX9_init_694 : decode cX9_init 694 = .ok (.bipush 108, 2) := by decide +kernel
theorem dX9_init_696 : decode cX9_init 696 = .ok (.bipush 105, 2) := by decide +kernel
theorem dX9_init_698 : decode cX9_init 698 = .ok (.bastore, 1) := by decide +kernel
theorem dX9_init_699 : decode cX9_init 699 = .ok (.dup, 1) := by decide +kernel
theorem dX9_init_700 : decode cX9_init 700 = .ok (.bipush 109, 2) := by decide +kernel
theorem dX9_init_702 : decode cX9_init 702 = .ok (.bipush 109, 2) := by decide +kernel
theorem dX9_init_704 : decode cX9_init 704 = .ok (.bastore, 1) := by decide +kernel
theorem dX9_init_705 : decode cX9_init 705 = .ok (.dup, 1) := by decide +kernel
theorem dX9_init_706 : decode cX9_init 706 = .ok (.bipush 110, 2) := by decide +kernel
theorem dX9_init_708 : decode cX9_init 708 = .ok (.bipush 101, 2) := by decide +kernel
theorem dX9_init_710 : decode cX9_init 710 = .ok (.bastore, 1) := by decide +kernel
theorem dX9_init_711 : decode cX9_init 711 = .ok (.dup, 1) := by decide +kernel
theorem dX9_init_712 : decode cX9_init 712 = .ok (.bipush 111, 2) := by decide +kernel
theorem dX9_init_714 : decode cX9_init 714 = .ok (.bipush 115, 2) := by decide +kernel
theorem dX9_init_716 : decode cX9_init 716 = .ok (.bastore, 1) := by decide +kernel
theorem dX9_init_717 : decode cX9_init 717 = .ok (.dup, 1) := by decide +kernel
theorem dX9_init_718 : decode cX9_init 718 = .ok (.bipush 112, 2) := by decide +kernel
theorem dX9_init_720 : decode cX9_init 720 = .ok (.bipush 32, 2) := by decide +kernel
theorem dX9_init_722 : decode cX9_init 722 = .ok (.bastore, 1) := by decide +kernel
theorem dX9_init_723 : decode cX9_init 723 = .ok (.putfield 41, 3) := by decide +kernel
theorem dX9_init_726 : decode cX9_init 726 = .ok (.aload_n 0, 1) := by decide +kernel
theorem dX9_init_727 : decode cX9_init 727 = .ok (.sipush 400, 3) := by decide +kernel
theorem dX9_init_730 : decode cX9_init 730 = .ok (.newarray .byte, 2) := by decide +kernel
theorem dX9_init_732 : decode cX9_init 732 = .ok (.putfield 45, 3) := by decide +kernel
theorem dX9_init_735 : decode cX9_init 735 = .ok (.aload_n 0, 1) := by decide +kernel
theorem dX9_init_736 : decode cX9_init 736 = .ok (.iconst 5, 1) := by decide +kernel
theorem dX9_init_737 : decode cX9_init 737 = .ok (.newarray .int, 2) := by decide +kernel
theorem dX9_init_739 : decode cX9_init 739 = .ok (.putfield 48, 3) := by decide +kernel
theorem dX9_init_742 : decode cX9_init 742 = .ok (.aload_n 0, 1) := by decide +kernel
theorem dX9_init_743 : decode cX9_init 743 = .ok (.iconst (-1), 1) := by decide +kernel
theorem dX9_init_744 : decode cX9_init 744 = .ok (.putfield 51, 3) := by decide +kernel
theorem dX9_init_747 : decode cX9_init 747 = .ok (.aload_n 0, 1) := by decide +kernel
theorem dX9_init_748 : decode cX9_init 748 = .ok (.sipush 401, 3) := by decide +kernel
theorem dX9_init_751 : decode cX9_init 751 = .ok (.newarray .int, 2) := by decide +kernel
theorem dX9_init_753 : decode cX9_init 753 = .ok (.putfield 54, 3) := by decide +kernel
theorem dX9_init_756 : decode cX9_init 756 = .ok (.aload_n 0, 1) := by decide +kernel
theorem dX9_init_757 : decode cX9_init 757 = .ok (.sipush 401, 3) := by decide +kernel
theorem dX9_init_760 : decode cX9_init 760 = .ok (.newarray .int, 2) := by decide +kernel
theorem dX9_init_762 : decode cX9_init 762 = .ok (.putfield 57, 3) := by decide +kernel
theorem dX9_init_765 : decode cX9_init 765 = .ok (.aload_n 0, 1) := by decide +kernel
theorem dX9_init_766 : decode cX9_init 766 = .ok (.sipush 401, 3) := by decide +kernel
theorem dX9_init_769 : decode cX9_init 769 = .ok (.newarray .int, 2) := by decide +kernel
theorem dX9_init_771 : decode cX9_init 771 = .ok (.putfield 60, 3) := by decide +kernel
theorem dX9_init_774 : decode cX9_init 774 = .ok (.aload_n 0, 1) := by decide +kernel
theorem dX9_init_775 : decode cX9_init 775 = .ok (.bipush 7, 2) := by decide +kernel
theorem dX9_init_777 : decode cX9_init 777 = .ok (.newarray .int, 2) := by decide +kernel
theorem dX9_init_779 : decode cX9_init 779 = .ok (.putfield 63, 3) := by decide +kernel
theorem dX9_init_782 : decode cX9_init 782 = .ok (.aload_n 0, 1) := by decide +kernel
theorem dX9_init_783 : decode cX9_init 783 = .ok (.bipush 30, 2) := by decide +kernel
theorem dX9_init_785 : decode cX9_init 785 = .ok (.newarray .int, 2) := by decide +kernel
theorem dX9_init_787 : decode cX9_init 787 = .ok (.putfield 66, 3) := by decide +kernel
theorem dX9_init_790 : decode cX9_init 790 = .ok (.aload_n 0, 1) := by decide +kernel
theorem dX9_init_791 : decode cX9_init 791 = .ok (.bipush 30, 2) := by decide +kernel
theorem dX9_init_793 : decode cX9_init 793 = .ok (.newarray .int, 2) := by decide +kernel
theorem dX9_init_795 : decode cX9_init 795 = .ok (.putfield 69, 3) := by decide +kernel
theorem dX9_init_798 : decode cX9_init 798 = .ok (.aload_n 0, 1) := by decide +kernel
theorem dX9_init_799 : decode cX9_init 799 = .ok (.bipush 60, 2) := by decide +kernel
theorem dX9_init_801 : decode cX9_init 801 = .ok (.newarray .int, 2) := by decide +kernel
theorem dX9_init_803 : decode cX9_init 803 = .ok (.putfield 72, 3) := by decide +kernel
theorem dX9_init_806 : decode cX9_init 806 = .ok (.aload_n 0, 1) := by decide +kernel
theorem dX9_init_807 : decode cX9_init 807 = .ok (.bipush 90, 2) := by decide +kernel
theorem dX9_init_809 : decode cX9_init 809 = .ok (.newarray .int, 2) := by decide +kernel
theorem dX9_init_811 : decode cX9_init 811 = .ok (.putfield 75, 3) := by decide +kernel
theorem dX9_init_814 : decode cX9_init 814 = .ok (.aload_n 0, 1) := by decide +kernel
theorem dX9_init_815 : decode cX9_init 815 = .ok (.bipush 60, 2) := by decide +kernel
theorem dX9_init_817 : decode cX9_init 817 = .ok (.newarray .int, 2) := by decide +kernel
theorem dX9_init_819 : decode cX9_init 819 = .ok (.putfield 78, 3) := by decide +kernel
theorem dX9_init_822 : decode cX9_init 822 = .ok (.aload_n 0, 1) := by decide +kernel
theorem dX9_init_823 : decode cX9_init 823 = .ok (.bipush 60, 2) := by decide +kernel
theorem dX9_init_825 : decode cX9_init 825 = .ok (.newarray .int, 2) := by decide +kernel
theorem dX9_init_827 : decode cX9_init 827 = .ok (.putfield 81, 3) := by decide +kernel
theorem dX9_init_830 : decode cX9_init 830 = .ok (.aload_n 0, 1) := by decide +kernel
theorem dX9_init_831 : decode cX9_init 831 = .ok (.sipush 3024, 3) := by decide +kernel
theorem dX9_init_834 : decode cX9_init 834 = .ok (.newarray .int, 2) := by decide +kernel
theorem dX9_init_836 : decode cX9_init 836 = .ok (.putfield 84, 3) := by decide +kernel
theorem dX9_init_839 : decode cX9_init 839 = .ok (.aload_n 0, 1) := by decide +kernel
theorem dX9_init_840 : decode cX9_init 840 = .ok (.sipush 3024, 3) := by decide +kernel
theorem dX9_init_843 : decode cX9_init 843 = .ok (.newarray .int, 2) := by decide +kernel
theorem dX9_init_845 : decode cX9_init 845 = .ok (.putfield 87, 3) := by decide +kernel
theorem dX9_init_848 : decode cX9_init 848 = .ok (.aload_n 0, 1) := by decide +kernel
theorem dX9_init_849 : decode cX9_init 849 = .ok (.bipush 21, 2) := by decide +kernel
theorem dX9_init_851 : decode cX9_init 851 = .ok (.newarray .long, 2) := by decide +kernel
theorem dX9_init_853 : decode cX9_init 853 = .ok (.putfield 90, 3) := by decide +kernel
theorem dX9_init_856 : decode cX9_init 856 = .ok (.aload_n 0, 1) := by decide +kernel
theorem dX9_init_857 : decode cX9_init 857 = .ok (.iconst (-1), 1) := by decide +kernel
theorem dX9_init_858 : decode cX9_init 858 = .ok (.putfield 94, 3) := by decide +kernel
theorem dX9_init_861 : decode cX9_init 861 = .ok (.aload_n 0, 1) := by decide +kernel
theorem dX9_init_862 : decode cX9_init 862 = .ok (.iconst 1, 1) := by decide +kernel
theorem dX9_init_863 : decode cX9_init 863 = .ok (.newarray .long, 2) := by decide +kernel
theorem dX9_init_865 : decode cX9_init 865 = .ok (.putfield 97, 3) := by decide +kernel
theorem dX9_init_868 : decode cX9_init 868 = .ok (.aload_n 0, 1) := by decide +kernel
theorem dX9_init_869 : decode cX9_init 869 = .ok (.bipush 40, 2) := by decide +kernel
theorem dX9_init_871 : decode cX9_init 871 = .ok (.newarray .int, 2) := by decide +kernel
theorem dX9_init_873 : decode cX9_init 873 = .ok (.putfield 100, 3) := by decide +kernel
theorem dX9_init_876 : decode cX9_init 876 = .ok (.aload_n 0, 1) := by decide +kernel
theorem dX9_init_877 : decode cX9_init 877 = .ok (.getfield 28, 3) := by decide +kernel
theorem dX9_init_880 : decode cX9_init 880 = .ok (.sipush 200, 3) := by decide +kernel
theorem dX9_init_883 : decode cX9_init 883 = .ok (.iconst 1, 1) := by decide +kernel
theorem dX9_init_884 : decode cX9_init 884 = .ok (.iastore, 1) := by decide +kernel
theorem dX9_init_885 : decode cX9_init 885 = .ok (.aload_n 0, 1) := by decide +kernel
theorem dX9_init_886 : decode cX9_init 886 = .ok (.getfield 28, 3) := by decide +kernel
theorem dX9_init_889 : decode cX9_init 889 = .ok (.bipush 31, 2) := by decide +kernel
theorem dX9_init_891 : decode cX9_init 891 = .ok (.iconst 4, 1) := by decide +kernel
theorem dX9_init_892 : decode cX9_init 892 = .ok (.iastore, 1) := by decide +kernel
theorem dX9_init_893 : decode cX9_init 893 = .ok (.aload_n 0, 1) := by decide +kernel
theorem dX9_init_894 : decode cX9_init 894 = .ok (.getfield 28, 3) := by decide +kernel
theorem dX9_init_897 : decode cX9_init 897 = .ok (.sipush 204, 3) := by decide +kernel
theorem dX9_init_900 : decode cX9_init 900 = .ok (.iconst (-1), 1) := by decide +kernel
theorem dX9_init_901 : decode cX9_init 901 = .ok (.iastore, 1) := by decide +kernel
theorem dX9_init_902 : decode cX9_init 902 = .ok (.return_, 1) := by decide +kernel
theorem dX9_laysAside_0 : decode cX9_laysAside 0 = .ok (.iconst 0, 1) := by decide +kernel
theorem dX9_laysAside_1 : decode cX9_laysAside 1 = .ok (.istore_n 2, 1) := by decide +kernel
theorem dX9_laysAside_2 : decode cX9_laysAside 2 = .ok (.iload_n 2, 1) := by decide +kernel
theorem dX9_laysAside_3 : decode cX9_laysAside 3 = .ok (.sipush 188, 3) := by decide +kernel
theorem dX9_laysAside_6 : decode cX9_laysAside 6 = .ok (.if_icmp .ge 27, 3) := by decide +kernel
theorem dX9_laysAside_9 : decode cX9_laysAside 9 = .ok (.aload_n 0, 1) := by decide +kernel
theorem dX9_laysAside_10 : decode cX9_laysAside 10 = .ok (.getfield 38, 3) := by decide +kernel
theorem dX9_laysAside_13 : decode cX9_laysAside 13 = .ok (.sipush 188, 3) := by decide +kernel
theorem dX9_laysAside_16 : decode cX9_laysAside 16 = .ok (.iload_n 1, 1) := by decide +kernel
theorem dX9_laysAside_17 : decode cX9_laysAside 17 = .ok (.imul, 1) := by decide +kernel
theorem dX9_laysAside_18 : decode cX9_laysAside 18 = .ok (.iload_n 2, 1) := by decide +kernel
theorem dX9_laysAside_19 : decode cX9_laysAside 19 = .ok (.iadd, 1) := by decide +kernel
theorem dX9_laysAside_20 : decode cX9_laysAside 20 = .ok (.aload_n 0, 1) := by decide +kernel
theorem dX9_laysAside_21 : decode cX9_laysAside 21 = .ok (.getfield 28, 3) := by decide +kernel
theorem dX9_laysAside_24 : decode cX9_laysAside 24 = .ok (.iload_n 2, 1) := by decide +kernel
theorem dX9_laysAside_25 : decode cX9_laysAside 25 = .ok (.iaload, 1) := by decide +kernel
theorem dX9_laysAside_26 : decode cX9_laysAside 26 = .ok (.iastore, 1) := by decide +kernel
theorem dX9_laysAside_27 : decode cX9_laysAside 27 = .ok (.iinc 2 1, 3) := by decide +kernel
theorem dX9_laysAside_30 : decode cX9_laysAside 30 = .ok (.goto (-28), 3) := by decide +kernel
theorem dX9_laysAside_33 : decode cX9_laysAside 33 = .ok (.return_, 1) := by decide +kernel
theorem dX9_takesBack_0 : decode cX9_takesBack 0 = .ok (.iconst 0, 1) := by decide +kernel
theorem dX9_takesBack_1 : decode cX9_takesBack 1 = .ok (.istore_n 2, 1) := by decide +kernel
theorem dX9_takesBack_2 : decode cX9_takesBack 2 = .ok (.iload_n 2, 1) := by decide +kernel
theorem dX9_takesBack_3 : decode cX9_takesBack 3 = .ok (.sipush 188, 3) := by decide +kernel
theorem dX9_takesBack_6 : decode cX9_takesBack 6 = .ok (.if_icmp .ge 27, 3) := by decide +kernel
theorem dX9_takesBack_9 : decode cX9_takesBack 9 = .ok (.aload_n 0, 1) := by decide +kernel
theorem dX9_takesBack_10 : decode cX9_takesBack 10 = .ok (.getfield 28, 3) := by decide +kernel
theorem dX9_takesBack_13 : decode cX9_takesBack 13 = .ok (.iload_n 2, 1) := by decide +kernel
theorem dX9_takesBack_14 : decode cX9_takesBack 14 = .ok (.aload_n 0, 1) := by decide +kernel
theorem dX9_takesBack_15 : decode cX9_takesBack 15 = .ok (.getfield 38, 3) := by decide +kernel
theorem dX9_takesBack_18 : decode cX9_takesBack 18 = .ok (.sipush 188, 3) := by decide +kernel
theorem dX9_takesBack_21 : decode cX9_takesBack 21 = .ok (.iload_n 1, 1) := by decide +kernel
theorem dX9_takesBack_22 : decode cX9_takesBack 22 = .ok (.imul, 1) := by decide +kernel
theorem dX9_takesBack_23 : decode cX9_takesBack 23 = .ok (.iload_n 2, 1) := by decide +kernel
theorem dX9_takesBack_24 : decode cX9_takesBack 24 = .ok (.iadd, 1) := by decide +kernel
theorem dX9_takesBack_25 : decode cX9_takesBack 25 = .ok (.iaload, 1) := by decide +kernel
theorem dX9_takesBack_26 : decode cX9_takesBack 26 = .ok (.iastore, 1) := by decide +kernel
theorem dX9_takesBack_27 : decode cX9_takesBack 27 = .ok (.iinc 2 1, 3) := by decide +kernel
theorem dX9_takesBack_30 : decode cX9_takesBack 30 = .ok (.goto (-28), 3) := by decide +kernel
theorem dX9_takesBack_33 : decode cX9_takesBack 33 = .ok (.return_, 1) := by decide +kernel
theorem dX9_image_0 : decode cX9_image 0 = .ok (.iload_n 1, 1) := by decide +kernel
theorem dX9_image_1 : decode cX9_image 1 = .ok (.iconst 0, 1) := by decide +kernel
theorem dX9_image_2 : decode cX9_image 2 = .ok (.iconst 1, 1) := by decide +kernel
theorem dX9_image_3 : decode cX9_image 3 = .ok (.invokestatic 18, 3) := by decide +kernel
theorem dX9_image_6 : decode cX9_image 6 = .ok (.ifCond .ne 9, 3) := by decide +kernel
theorem dX9_image_9 : decode cX9_image 9 = .ok (.aload_n 0, 1) := by decide +kernel
theorem dX9_image_10 : decode cX9_image 10 = .ok (.iconst (-1), 1) := by decide +kernel
theorem dX9_image_11 : decode cX9_image 11 = .ok (.invokevirtual 103, 3) := by decide +kernel
theorem dX9_image_14 : decode cX9_image 14 = .ok (.ireturn, 1) := by decide +kernel
theorem dX9_image_15 : decode cX9_image 15 = .ok (.iconst 0, 1) := by decide +kernel
theorem dX9_image_16 : decode cX9_image 16 = .ok (.istore_n 2, 1) := by decide +kernel
theorem dX9_image_17 : decode cX9_image 17 = .ok (.iload_n 2, 1) := by decide +kernel
theorem dX9_image_18 : decode cX9_image 18 = .ok (.sipush 5812, 3) := by decide +kernel
theorem dX9_image_21 : decode cX9_image 21 = .ok (.if_icmp .ge 27, 3) := by decide +kernel
theorem dX9_image_24 : decode cX9_image 24 = .ok (.aload_n 0, 1) := by decide +kernel
theorem dX9_image_25 : decode cX9_image 25 = .ok (.getfield 31, 3) := by decide +kernel
theorem dX9_image_28 : decode cX9_image 28 = .ok (.sipush 5812, 3) := by decide +kernel
theorem dX9_image_31 : decode cX9_image 31 = .ok (.iload_n 1, 1) := by decide +kernel
theorem dX9_image_32 : decode cX9_image 32 = .ok (.imul, 1) := by decide +kernel
theorem dX9_image_33 : decode cX9_image 33 = .ok (.iload_n 2, 1) := by decide +kernel
theorem dX9_image_34 : decode cX9_image 34 = .ok (.iadd, 1) := by decide +kernel
theorem dX9_image_35 : decode cX9_image 35 = .ok (.aload_n 0, 1) := by decide +kernel
theorem dX9_image_36 : decode cX9_image 36 = .ok (.getfield 28, 3) := by decide +kernel
theorem dX9_image_39 : decode cX9_image 39 = .ok (.iload_n 2, 1) := by decide +kernel
theorem dX9_image_40 : decode cX9_image 40 = .ok (.iaload, 1) := by decide +kernel
theorem dX9_image_41 : decode cX9_image 41 = .ok (.iastore, 1) := by decide +kernel
theorem dX9_image_42 : decode cX9_image 42 = .ok (.iinc 2 1, 3) := by decide +kernel
theorem dX9_image_45 : decode cX9_image 45 = .ok (.goto (-28), 3) := by decide +kernel
theorem dX9_image_48 : decode cX9_image 48 = .ok (.aload_n 0, 1) := by decide +kernel
theorem dX9_image_49 : decode cX9_image 49 = .ok (.getfield 34, 3) := by decide +kernel
theorem dX9_image_52 : decode cX9_image 52 = .ok (.iload_n 1, 1) := by decide +kernel
theorem dX9_image_53 : decode cX9_image 53 = .ok (.iconst 1, 1) := by decide +kernel
theorem dX9_image_54 : decode cX9_image 54 = .ok (.bastore, 1) := by decide +kernel
theorem dX9_image_55 : decode cX9_image 55 = .ok (.aload_n 0, 1) := by decide +kernel
theorem dX9_image_56 : decode cX9_image 56 = .ok (.iconst 0, 1) := by decide +kernel
theorem dX9_image_57 : decode cX9_image 57 = .ok (.invokevirtual 14, 3) := by decide +kernel
theorem dX9_image_60 : decode cX9_image 60 = .ok (.ireturn, 1) := by decide +kernel
theorem dX9_back_0 : decode cX9_back 0 = .ok (.iload_n 1, 1) := by decide +kernel
theorem dX9_back_1 : decode cX9_back 1 = .ok (.iconst 0, 1) := by decide +kernel
theorem dX9_back_2 : decode cX9_back 2 = .ok (.iconst 1, 1) := by decide +kernel
theorem dX9_back_3 : decode cX9_back 3 = .ok (.invokestatic 18, 3) := by decide +kernel
theorem dX9_back_6 : decode cX9_back 6 = .ok (.ifCond .ne 9, 3) := by decide +kernel
theorem dX9_back_9 : decode cX9_back 9 = .ok (.aload_n 0, 1) := by decide +kernel
theorem dX9_back_10 : decode cX9_back 10 = .ok (.iconst (-1), 1) := by decide +kernel
theorem dX9_back_11 : decode cX9_back 11 = .ok (.invokevirtual 103, 3) := by decide +kernel
theorem dX9_back_14 : decode cX9_back 14 = .ok (.ireturn, 1) := by decide +kernel
theorem dX9_back_15 : decode cX9_back 15 = .ok (.aload_n 0, 1) := by decide +kernel
theorem dX9_back_16 : decode cX9_back 16 = .ok (.getfield 34, 3) := by decide +kernel
theorem dX9_back_19 : decode cX9_back 19 = .ok (.iload_n 1, 1) := by decide +kernel
theorem dX9_back_20 : decode cX9_back 20 = .ok (.baload, 1) := by decide +kernel
theorem dX9_back_21 : decode cX9_back 21 = .ok (.ifCond .ne 10, 3) := by decide +kernel
theorem dX9_back_24 : decode cX9_back 24 = .ok (.aload_n 0, 1) := by decide +kernel
theorem dX9_back_25 : decode cX9_back 25 = .ok (.bipush (-2), 2) := by decide +kernel
theorem dX9_back_27 : decode cX9_back 27 = .ok (.invokevirtual 103, 3) := by decide +kernel
theorem dX9_back_30 : decode cX9_back 30 = .ok (.ireturn, 1) := by decide +kernel
theorem dX9_back_31 : decode cX9_back 31 = .ok (.iconst 0, 1) := by decide +kernel
theorem dX9_back_32 : decode cX9_back 32 = .ok (.istore_n 2, 1) := by decide +kernel
theorem dX9_back_33 : decode cX9_back 33 = .ok (.iload_n 2, 1) := by decide +kernel
theorem dX9_back_34 : decode cX9_back 34 = .ok (.sipush 5812, 3) := by decide +kernel
theorem dX9_back_37 : decode cX9_back 37 = .ok (.if_icmp .ge 27, 3) := by decide +kernel
theorem dX9_back_40 : decode cX9_back 40 = .ok (.aload_n 0, 1) := by decide +kernel
theorem dX9_back_41 : decode cX9_back 41 = .ok (.getfield 28, 3) := by decide +kernel
theorem dX9_back_44 : decode cX9_back 44 = .ok (.iload_n 2, 1) := by decide +kernel
theorem dX9_back_45 : decode cX9_back 45 = .ok (.aload_n 0, 1) := by decide +kernel
theorem dX9_back_46 : decode cX9_back 46 = .ok (.getfield 31, 3) := by decide +kernel
theorem dX9_back_49 : decode cX9_back 49 = .ok (.sipush 5812, 3) := by decide +kernel
theorem dX9_back_52 : decode cX9_back 52 = .ok (.iload_n 1, 1) := by decide +kernel
theorem dX9_back_53 : decode cX9_back 53 = .ok (.imul, 1) := by decide +kernel
theorem dX9_back_54 : decode cX9_back 54 = .ok (.iload_n 2, 1) := by decide +kernel
theorem dX9_back_55 : decode cX9_back 55 = .ok (.iadd, 1) := by decide +kernel
theorem dX9_back_56 : decode cX9_back 56 = .ok (.iaload, 1) := by decide +kernel
theorem dX9_back_57 : decode cX9_back 57 = .ok (.iastore, 1) := by decide +kernel
theorem dX9_back_58 : decode cX9_back 58 = .ok (.iinc 2 1, 3) := by decide +kernel
theorem dX9_back_61 : decode cX9_back 61 = .ok (.goto (-28), 3) := by decide +kernel
theorem dX9_back_64 : decode cX9_back 64 = .ok (.aload_n 0, 1) := by decide +kernel
theorem dX9_back_65 : decode cX9_back 65 = .ok (.iconst 0, 1) := by decide +kernel
theorem dX9_back_66 : decode cX9_back 66 = .ok (.invokevirtual 106, 3) := by decide +kernel
theorem dX9_back_69 : decode cX9_back 69 = .ok (.ireturn, 1) := by decide +kernel
theorem dX9_keyAt_0 : decode cX9_keyAt 0 = .ok (.aload_n 0, 1) := by decide +kernel
theorem dX9_keyAt_1 : decode cX9_keyAt 1 = .ok (.getfield 28, 3) := by decide +kernel
theorem dX9_keyAt_4 : decode cX9_keyAt 4 = .ok (.iconst 1, 1) := by decide +kernel
theorem dX9_keyAt_5 : decode cX9_keyAt 5 = .ok (.iload_n 1, 1) := by decide +kernel
theorem dX9_keyAt_6 : decode cX9_keyAt 6 = .ok (.iadd, 1) := by decide +kernel
theorem dX9_keyAt_7 : decode cX9_keyAt 7 = .ok (.iaload, 1) := by decide +kernel
theorem dX9_keyAt_8 : decode cX9_keyAt 8 = .ok (.ireturn, 1) := by decide +kernel
theorem dX9_lowerMany_0 : decode cX9_lowerMany 0 = .ok (.iconst 0, 1) := by decide +kernel
theorem dX9_lowerMany_1 : decode cX9_lowerMany 1 = .ok (.istore_n 2, 1) := by decide +kernel
theorem dX9_lowerMany_2 : decode cX9_lowerMany 2 = .ok (.iconst 0, 1) := by decide +kernel
theorem dX9_lowerMany_3 : decode cX9_lowerMany 3 = .ok (.istore_n 3, 1) := by decide +kernel
theorem dX9_lowerMany_4 : decode cX9_lowerMany 4 = .ok (.iload_n 3, 1) := by decide +kernel
theorem dX9_lowerMany_5 : decode cX9_lowerMany 5 = .ok (.aload_n 0, 1) := by decide +kernel
theorem dX9_lowerMany_6 : decode cX9_lowerMany 6 = .ok (.getfield 28, 3) := by decide +kernel
theorem dX9_lowerMany_9 : decode cX9_lowerMany 9 = .ok (.iconst 0, 1) := by decide +kernel
theorem dX9_lowerMany_10 : decode cX9_lowerMany 10 = .ok (.iaload, 1) := by decide +kernel
theorem dX9_lowerMany_11 : decode cX9_lowerMany 11 = .ok (.if_icmp .ge 26, 3) := by decide +kernel
theorem dX9_lowerMany_14 : decode cX9_lowerMany 14 = .ok (.iload_n 2, 1) := by decide +kernel
theorem dX9_lowerMany_15 : decode cX9_lowerMany 15 = .ok (.aload_n 0, 1) := by decide +kernel
theorem dX9_lowerMany_16 : decode cX9_lowerMany 16 = .ok (.iload_n 3, 1) := by decide +kernel
theorem dX9_lowerMany_17 : decode cX9_lowerMany 17 = .ok (.invokevirtual 109, 3) := by decide +kernel
theorem dX9_lowerMany_20 : decode cX9_lowerMany 20 = .ok (.iload_n 1, 1) := by decide +kernel
theorem dX9_lowerMany_21 : decode cX9_lowerMany 21 = .ok (.if_icmp .ge 7, 3) := by decide +kernel
theorem dX9_lowerMany_24 : decode cX9_lowerMany 24 = .ok (.iconst 1, 1) := by decide +kernel
theorem dX9_lowerMany_25 : decode cX9_lowerMany 25 = .ok (.goto 4, 3) := by decide +kernel
theorem dX9_lowerMany_28 : decode cX9_lowerMany 28 = .ok (.iconst 0, 1) := by decide +kernel
theorem dX9_lowerMany_29 : decode cX9_lowerMany 29 = .ok (.iadd, 1) := by decide +kernel
theorem dX9_lowerMany_30 : decode cX9_lowerMany 30 = .ok (.istore_n 2, 1) := by decide +kernel
theorem dX9_lowerMany_31 : decode cX9_lowerMany 31 = .ok (.iinc 3 1, 3) := by decide +kernel
theorem dX9_lowerMany_34 : decode cX9_lowerMany 34 = .ok (.goto (-30), 3) := by decide +kernel
theorem dX9_lowerMany_37 : decode cX9_lowerMany 37 = .ok (.iload_n 2, 1) := by decide +kernel
theorem dX9_lowerMany_38 : decode cX9_lowerMany 38 = .ok (.ireturn, 1) := by decide +kernel
theorem dX9_isThere_0 : decode cX9_isThere 0 = .ok (.aload_n 0, 1) := by decide +kernel
theorem dX9_isThere_1 : decode cX9_isThere 1 = .ok (.iload_n 1, 1) := by decide +kernel
theorem dX9_isThere_2 : decode cX9_isThere 2 = .ok (.invokevirtual 112, 3) := by decide +kernel
theorem dX9_isThere_5 : decode cX9_isThere 5 = .ok (.istore_n 2, 1) := by decide +kernel
theorem dX9_isThere_6 : decode cX9_isThere 6 = .ok (.iload_n 2, 1) := by decide +kernel
theorem dX9_isThere_7 : decode cX9_isThere 7 = .ok (.aload_n 0, 1) := by decide +kernel
theorem dX9_isThere_8 : decode cX9_isThere 8 = .ok (.getfield 28, 3) := by decide +kernel
theorem dX9_isThere_11 : decode cX9_isThere 11 = .ok (.iconst 0, 1) := by decide +kernel
theorem dX9_isThere_12 : decode cX9_isThere 12 = .ok (.iaload, 1) := by decide +kernel
theorem dX9_isThere_13 : decode cX9_isThere 13 = .ok (.if_icmp .ge 16, 3) := by decide +kernel
theorem dX9_isThere_16 : decode cX9_isThere 16 = .ok (.aload_n 0, 1) := by decide +kernel
theorem dX9_isThere_17 : decode cX9_isThere 17 = .ok (.iload_n 2, 1) := by decide +kernel
theorem dX9_isThere_18 : decode cX9_isThere 18 = .ok (.invokevirtual 109, 3) := by decide +kernel
theorem dX9_isThere_21 : decode cX9_isThere 21 = .ok (.iload_n 1, 1) := by decide +kernel
theorem dX9_isThere_22 : decode cX9_isThere 22 = .ok (.if_icmp .ne 7, 3) := by decide +kernel
theorem dX9_isThere_25 : decode cX9_isThere 25 = .ok (.iconst 1, 1) := by decide +kernel
theorem dX9_isThere_26 : decode cX9_isThere 26 = .ok (.goto 4, 3) := by decide +kernel
theorem dX9_isThere_29 : decode cX9_isThere 29 = .ok (.iconst 0, 1) := by decide +kernel
theorem dX9_isThere_30 : decode cX9_isThere 30 = .ok (.ireturn, 1) := by decide +kernel
theorem dX9_vertexOf_0 : decode cX9_vertexOf 0 = .ok (.iload_n 1, 1) := by decide +kernel
theorem dX9_vertexOf_1 : decode cX9_vertexOf 1 = .ok (.iload_n 3, 1) := by decide +kernel
theorem dX9_vertexOf_2 : decode cX9_vertexOf 2 = .ok (.imul, 1) := by decide +kernel
theorem dX9_vertexOf_3 : decode cX9_vertexOf 3 = .ok (.iload_n 0, 1) := by decide +kernel
theorem dX9_vertexOf_4 : decode cX9_vertexOf 4 = .ok (.iload_n 1, 1) := by decide +kernel
theorem dX9_vertexOf_5 : decode cX9_vertexOf 5 = .ok (.bipush 114, 2) := by decide +kernel
theorem dX9_vertexOf_7 : decode cX9_vertexOf 7 = .ok (.imul, 1) := by decide +kernel
theorem dX9_vertexOf_8 : decode cX9_vertexOf 8 = .ok (.sipush 377, 3) := by decide +kernel
theorem dX9_vertexOf_11 : decode cX9_vertexOf 11 = .ok (.iadd, 1) := by decide +kernel
theorem dX9_vertexOf_12 : decode cX9_vertexOf 12 = .ok (.imul, 1) := by decide +kernel
theorem dX9_vertexOf_13 : decode cX9_vertexOf 13 = .ok (.iload_n 2, 1) := by decide +kernel
theorem dX9_vertexOf_14 : decode cX9_vertexOf 14 = .ok (.iload_n 1, 1) := by decide +kernel
theorem dX9_vertexOf_15 : decode cX9_vertexOf 15 = .ok (.bipush 50, 2) := by decide +kernel
theorem dX9_vertexOf_17 : decode cX9_vertexOf 17 = .ok (.imul, 1) := by decide +kernel
theorem dX9_vertexOf_18 : decode cX9_vertexOf 18 = .ok (.bipush 101, 2) := by decide +kernel
theorem dX9_vertexOf_20 : decode cX9_vertexOf 20 = .ok (.iadd, 1) := by decide +kernel
theorem dX9_vertexOf_21 : decode cX9_vertexOf 21 = .ok (.imul, 1) := by decide +kernel
theorem dX9_vertexOf_22 : decode cX9_vertexOf 22 = .ok (.iadd, 1) := by decide +kernel
theorem dX9_vertexOf_23 : decode cX9_vertexOf 23 = .ok (.iload_n 1, 1) := by decide +kernel
theorem dX9_vertexOf_24 : decode cX9_vertexOf 24 = .ok (.iconst 5, 1) := by decide +kernel
theorem dX9_vertexOf_25 : decode cX9_vertexOf 25 = .ok (.imul, 1) := by decide +kernel
theorem dX9_vertexOf_26 : decode cX9_vertexOf 26 = .ok (.iadd, 1) := by decide +kernel
theorem dX9_vertexOf_27 : decode cX9_vertexOf 27 = .ok (.sipush 1009, 3) := by decide +kernel
theorem dX9_vertexOf_30 : decode cX9_vertexOf 30 = .ok (.irem, 1) := by decide +kernel
theorem dX9_vertexOf_31 : decode cX9_vertexOf 31 = .ok (.iload_n 3, 1) := by decide +kernel
theorem dX9_vertexOf_32 : decode cX9_vertexOf 32 = .ok (.irem, 1) := by decide +kernel
theorem dX9_vertexOf_33 : decode cX9_vertexOf 33 = .ok (.iadd, 1) := by decide +kernel
theorem dX9_vertexOf_34 : decode cX9_vertexOf 34 = .ok (.ireturn, 1) := by decide +kernel
theorem dX9_hasVertex_0 : decode cX9_hasVertex 0 = .ok (.iconst 0, 1) := by decide +kernel
theorem dX9_hasVertex_1 : decode cX9_hasVertex 1 = .ok (.istore 4, 2) := by decide +kernel
theorem dX9_hasVertex_3 : decode cX9_hasVertex 3 = .ok (.iconst 0, 1) := by decide +kernel
theorem dX9_hasVertex_4 : decode cX9_hasVertex 4 = .ok (.istore 5, 2) := by decide +kernel
theorem dX9_hasVertex_6 : decode cX9_hasVertex 6 = .ok (.iload 5, 2) := by decide +kernel
theorem dX9_hasVertex_8 : decode cX9_hasVertex 8 = .ok (.iconst 3, 1) := by decide +kernel
theorem dX9_hasVertex_9 : decode cX9_hasVertex 9 = .ok (.if_icmp .ge 33, 3) := by decide +kernel
theorem dX9_hasVertex_12 : decode cX9_hasVertex 12 = .ok (.iload 4, 2) := by decide +kernel
theorem dX9_hasVertex_14 : decode cX9_hasVertex 14 = .ok (.ifCond .ne 15, 3) := by decide +kernel
theorem dX9_hasVertex_17 : decode cX9_hasVertex 17 = .ok (.iload_n 0, 1) := by decide +kernel
theorem dX9_hasVertex_18 : decode cX9_hasVertex 18 = .ok (.iload 5, 2) := by decide +kernel
theorem dX9_hasVertex_20 : decode cX9_hasVertex 20 = .ok (.iload_n 2, 1) := by decide +kernel
theorem dX9_hasVertex_21 : decode cX9_hasVertex 21 = .ok (.iload_n 3, 1) := by decide +kernel
theorem dX9_hasVertex_22 : decode cX9_hasVertex 22 = .ok (.invokestatic 115, 3) := by decide +kernel
theorem dX9_hasVertex_25 : decode cX9_hasVertex 25 = .ok (.iload_n 1, 1) := by decide +kernel
theorem dX9_hasVertex_26 : decode cX9_hasVertex 26 = .ok (.if_icmp .ne 7, 3) := by decide +kernel
theorem dX9_hasVertex_29 : decode cX9_hasVertex 29 = .ok (.iconst 1, 1) := by decide +kernel
theorem dX9_hasVertex_30 : decode cX9_hasVertex 30 = .ok (.goto 4, 3) := by decide +kernel
theorem dX9_hasVertex_33 : decode cX9_hasVertex 33 = .ok (.iconst 0, 1) := by decide +kernel
theorem dX9_hasVertex_34 : decode cX9_hasVertex 34 = .ok (.istore 4, 2) := by decide +kernel
theorem dX9_hasVertex_36 : decode cX9_hasVertex 36 = .ok (.iinc 5 1, 3) := by decide +kernel
theorem dX9_hasVertex_39 : decode cX9_hasVertex 39 = .ok (.goto (-33), 3) := by decide +kernel
theorem dX9_hasVertex_42 : decode cX9_hasVertex 42 = .ok (.iload 4, 2) := by decide +kernel
theorem dX9_hasVertex_44 : decode cX9_hasVertex 44 = .ok (.ireturn, 1) := by decide +kernel
theorem dX9_degreeOf_0 : decode cX9_degreeOf 0 = .ok (.iconst 0, 1) := by decide +kernel
theorem dX9_degreeOf_1 : decode cX9_degreeOf 1 = .ok (.istore_n 3, 1) := by decide +kernel
theorem dX9_degreeOf_2 : decode cX9_degreeOf 2 = .ok (.iconst 0, 1) := by decide +kernel
theorem dX9_degreeOf_3 : decode cX9_degreeOf 3 = .ok (.istore 4, 2) := by decide +kernel
theorem dX9_degreeOf_5 : decode cX9_degreeOf 5 = .ok (.iload 4, 2) := by decide +kernel
theorem dX9_degreeOf_7 : decode cX9_degreeOf 7 = .ok (.aload_n 0, 1) := by decide +kernel
theorem dX9_degreeOf_8 : decode cX9_degreeOf 8 = .ok (.getfield 28, 3) := by decide +kernel
theorem dX9_degreeOf_11 : decode cX9_degreeOf 11 = .ok (.iconst 0, 1) := by decide +kernel
theorem dX9_degreeOf_12 : decode cX9_degreeOf 12 = .ok (.iaload, 1) := by decide +kernel
theorem dX9_degreeOf_13 : decode cX9_degreeOf 13 = .ok (.if_icmp .ge 38, 3) := by decide +kernel
theorem dX9_degreeOf_16 : decode cX9_degreeOf 16 = .ok (.iload_n 3, 1) := by decide +kernel
theorem dX9_degreeOf_17 : decode cX9_degreeOf 17 = .ok (.aload_n 0, 1) := by decide +kernel
theorem dX9_degreeOf_18 : decode cX9_degreeOf 18 = .ok (.iload 4, 2) := by decide +kernel
theorem dX9_degreeOf_20 : decode cX9_degreeOf 20 = .ok (.invokevirtual 109, 3) := by decide +kernel
theorem dX9_degreeOf_23 : decode cX9_degreeOf 23 = .ok (.iload_n 1, 1) := by decide +kernel
theorem dX9_degreeOf_24 : decode cX9_degreeOf 24 = .ok (.iload_n 2, 1) := by decide +kernel
theorem dX9_degreeOf_25 : decode cX9_degreeOf 25 = .ok (.aload_n 0, 1) := by decide +kernel
theorem dX9_degreeOf_26 : decode cX9_degreeOf 26 = .ok (.getfield 28, 3) := by decide +kernel
theorem dX9_degreeOf_29 : decode cX9_degreeOf 29 = .ok (.bipush 31, 2) := by decide +kernel
theorem dX9_degreeOf_31 : decode cX9_degreeOf 31 = .ok (.iaload, 1) := by decide +kernel
theorem dX9_degreeOf_32 : decode cX9_degreeOf 32 = .ok (.invokestatic 119, 3) := by decide +kernel
theorem dX9_degreeOf_35 : decode cX9_degreeOf 35 = .ok (.ifCond .eq 7, 3) := by decide +kernel
theorem dX9_degreeOf_38 : decode cX9_degreeOf 38 = .ok (.iconst 1, 1) := by decide +kernel
theorem dX9_degreeOf_39 : decode cX9_degreeOf 39 = .ok (.goto 4, 3) := by decide +kernel
theorem dX9_degreeOf_42 : decode cX9_degreeOf 42 = .ok (.iconst 0, 1) := by decide +kernel
theorem dX9_degreeOf_43 : decode cX9_degreeOf 43 = .ok (.iadd, 1) := by decide +kernel
theorem dX9_degreeOf_44 : decode cX9_degreeOf 44 = .ok (.istore_n 3, 1) := by decide +kernel
theorem dX9_degreeOf_45 : decode cX9_degreeOf 45 = .ok (.iinc 4 1, 3) := by decide +kernel
theorem dX9_degreeOf_48 : decode cX9_degreeOf 48 = .ok (.goto (-43), 3) := by decide +kernel
theorem dX9_degreeOf_51 : decode cX9_degreeOf 51 = .ok (.iload_n 3, 1) := by decide +kernel
theorem dX9_degreeOf_52 : decode cX9_degreeOf 52 = .ok (.ireturn, 1) := by decide +kernel
theorem dX9_vertexMany_0 : decode cX9_vertexMany 0 = .ok (.iconst 3, 1) := by decide +kernel
theorem dX9_vertexMany_1 : decode cX9_vertexMany 1 = .ok (.aload_n 0, 1) := by decide +kernel
theorem dX9_vertexMany_2 : decode cX9_vertexMany 2 = .ok (.getfield 28, 3) := by decide +kernel
theorem dX9_vertexMany_5 : decode cX9_vertexMany 5 = .ok (.bipush 31, 2) := by decide +kernel
theorem dX9_vertexMany_7 : decode cX9_vertexMany 7 = .ok (.iaload, 1) := by decide +kernel
theorem dX9_vertexMany_8 : decode cX9_vertexMany 8 = .ok (.imul, 1) := by decide +kernel
theorem dX9_vertexMany_9 : decode cX9_vertexMany 9 = .ok (.ireturn, 1) := by decide +kernel
theorem dX9_isVertex_0 : decode cX9_isVertex 0 = .ok (.iload_n 1, 1) := by decide +kernel
theorem dX9_isVertex_1 : decode cX9_isVertex 1 = .ok (.iconst 0, 1) := by decide +kernel
theorem dX9_isVertex_2 : decode cX9_isVertex 2 = .ok (.aload_n 0, 1) := by decide +kernel
theorem dX9_isVertex_3 : decode cX9_isVertex 3 = .ok (.invokevirtual 123, 3) := by decide +kernel
theorem dX9_isVertex_6 : decode cX9_isVertex 6 = .ok (.iconst 1, 1) := by decide +kernel
theorem dX9_isVertex_7 : decode cX9_isVertex 7 = .ok (.isub, 1) := by decide +kernel
theorem dX9_isVertex_8 : decode cX9_isVertex 8 = .ok (.invokestatic 18, 3) := by decide +kernel
theorem dX9_isVertex_11 : decode cX9_isVertex 11 = .ok (.ireturn, 1) := by decide +kernel
theorem dX9_key_0 : decode cX9_key 0 = .ok (.iload_n 1, 1) := by decide +kernel
theorem dX9_key_1 : decode cX9_key 1 = .ok (.invokestatic 127, 3) := by decide +kernel
theorem dX9_key_4 : decode cX9_key 4 = .ok (.ifCond .ne 5, 3) := by decide +kernel
theorem dX9_key_7 : decode cX9_key 7 = .ok (.iconst (-1), 1) := by decide +kernel
theorem dX9_key_8 : decode cX9_key 8 = .ok (.ireturn, 1) := by decide +kernel
theorem dX9_key_9 : decode cX9_key 9 = .ok (.iload_n 2, 1) := by decide +kernel
theorem dX9_key_10 : decode cX9_key 10 = .ok (.tableswitch 84 0 4 #[34, 48, 62, 62, 62], 34) := by decide +kernel
theorem dX9_key_44 : decode cX9_key 44 = .ok (.aload_n 0, 1) := by decide +kernel
theorem dX9_key_45 : decode cX9_key 45 = .ok (.iload_n 1, 1) := by decide +kernel
theorem dX9_key_46 : decode cX9_key 46 = .ok (.invokevirtual 131, 3) := by decide +kernel
theorem dX9_key_49 : decode cX9_key 49 = .ok (.ifCond .eq 7, 3) := by decide +kernel
theorem dX9_key_52 : decode cX9_key 52 = .ok (.iconst 1, 1) := by decide +kernel
theorem dX9_key_53 : decode cX9_key 53 = .ok (.goto 4, 3) := by decide +kernel
theorem dX9_key_56 : decode cX9_key 56 = .ok (.iconst 0, 1) := by decide +kernel
theorem dX9_key_57 : decode cX9_key 57 = .ok (.ireturn, 1) := by decide +kernel
theorem dX9_key_58 : decode cX9_key 58 = .ok (.aload_n 0, 1) := by decide +kernel
theorem dX9_key_59 : decode cX9_key 59 = .ok (.iload_n 1, 1) := by decide +kernel
theorem dX9_key_60 : decode cX9_key 60 = .ok (.invokevirtual 134, 3) := by decide +kernel
theorem dX9_key_63 : decode cX9_key 63 = .ok (.ifCond .eq 7, 3) := by decide +kernel
theorem dX9_key_66 : decode cX9_key 66 = .ok (.iconst 1, 1) := by decide +kernel
theorem dX9_key_67 : decode cX9_key 67 = .ok (.goto 4, 3) := by decide +kernel
theorem dX9_key_70 : decode cX9_key 70 = .ok (.iconst 0, 1) := by decide +kernel
theorem dX9_key_71 : decode cX9_key 71 = .ok (.ireturn, 1) := by decide +kernel
theorem dX9_key_72 : decode cX9_key 72 = .ok (.iload_n 1, 1) := by decide +kernel
theorem dX9_key_73 : decode cX9_key 73 = .ok (.iload_n 2, 1) := by decide +kernel
theorem dX9_key_74 : decode cX9_key 74 = .ok (.iconst 2, 1) := by decide +kernel
theorem dX9_key_75 : decode cX9_key 75 = .ok (.isub, 1) := by decide +kernel
theorem dX9_key_76 : decode cX9_key 76 = .ok (.aload_n 0, 1) := by decide +kernel
theorem dX9_key_77 : decode cX9_key 77 = .ok (.getfield 28, 3) := by decide +kernel
theorem dX9_key_80 : decode cX9_key 80 = .ok (.bipush 32, 2) := by decide +kernel
theorem dX9_key_82 : decode cX9_key 82 = .ok (.iaload, 1) := by decide +kernel
theorem dX9_key_83 : decode cX9_key 83 = .ok (.aload_n 0, 1) := by decide +kernel
theorem dX9_key_84 : decode cX9_key 84 = .ok (.getfield 28, 3) := by decide +kernel
theorem dX9_key_87 : decode cX9_key 87 = .ok (.bipush 31, 2) := by decide +kernel
theorem dX9_key_89 : decode cX9_key 89 = .ok (.iaload, 1) := by decide +kernel
theorem dX9_key_90 : decode cX9_key 90 = .ok (.invokestatic 115, 3) := by decide +kernel
theorem dX9_key_93 : decode cX9_key 93 = .ok (.ireturn, 1) := by decide +kernel
theorem dX9_key_94 : decode cX9_key 94 = .ok (.iconst (-1), 1) := by decide +kernel
theorem dX9_key_95 : decode cX9_key 95 = .ok (.ireturn, 1) := by decide +kernel
theorem dX9_vertex_0 : decode cX9_vertex 0 = .ok (.aload_n 0, 1) := by decide +kernel
theorem dX9_vertex_1 : decode cX9_vertex 1 = .ok (.iload_n 1, 1) := by decide +kernel
theorem dX9_vertex_2 : decode cX9_vertex 2 = .ok (.invokevirtual 137, 3) := by decide +kernel
theorem dX9_vertex_5 : decode cX9_vertex 5 = .ok (.ifCond .eq 12, 3) := by decide +kernel
theorem dX9_vertex_8 : decode cX9_vertex 8 = .ok (.iload_n 2, 1) := by decide +kernel
theorem dX9_vertex_9 : decode cX9_vertex 9 = .ok (.iconst 0, 1) := by decide +kernel
theorem dX9_vertex_10 : decode cX9_vertex 10 = .ok (.iconst 1, 1) := by decide +kernel
theorem dX9_vertex_11 : decode cX9_vertex 11 = .ok (.invokestatic 18, 3) := by decide +kernel
theorem dX9_vertex_14 : decode cX9_vertex 14 = .ok (.ifCond .ne 5, 3) := by decide +kernel
theorem dX9_vertex_17 : decode cX9_vertex 17 = .ok (.iconst (-1), 1) := by decide +kernel
theorem dX9_vertex_18 : decode cX9_vertex 18 = .ok (.ireturn, 1) := by decide +kernel
theorem dX9_vertex_19 : decode cX9_vertex 19 = .ok (.iload_n 2, 1) := by decide +kernel
theorem dX9_vertex_20 : decode cX9_vertex 20 = .ok (.ifCond .ne 18, 3) := by decide +kernel
theorem dX9_vertex_23 : decode cX9_vertex 23 = .ok (.aload_n 0, 1) := by decide +kernel
theorem dX9_vertex_24 : decode cX9_vertex 24 = .ok (.iload_n 1, 1) := by decide +kernel
theorem dX9_vertex_25 : decode cX9_vertex 25 = .ok (.aload_n 0, 1) := by decide +kernel
theorem dX9_vertex_26 : decode cX9_vertex 26 = .ok (.getfield 28, 3) := by decide +kernel
theorem dX9_vertex_29 : decode cX9_vertex 29 = .ok (.bipush 32, 2) := by decide +kernel
theorem dX9_vertex_31 : decode cX9_vertex 31 = .ok (.iaload, 1) := by decide +kernel
theorem dX9_vertex_32 : decode cX9_vertex 32 = .ok (.invokevirtual 140, 3) := by decide +kernel
theorem dX9_vertex_35 : decode cX9_vertex 35 = .ok (.goto 15, 3) := by decide +kernel
theorem dX9_vertex_38 : decode cX9_vertex 38 = .ok (.aload_n 0, 1) := by decide +kernel
theorem dX9_vertex_39 : decode cX9_vertex 39 = .ok (.iload_n 1, 1) := by decide +kernel
theorem dX9_vertex_40 : decode cX9_vertex 40 = .ok (.aload_n 0, 1) := by decide +kernel
theorem dX9_vertex_41 : decode cX9_vertex 41 = .ok (.getfield 28, 3) := by decide +kernel
theorem dX9_vertex_44 : decode cX9_vertex 44 = .ok (.bipush 32, 2) := by decide +kernel
theorem dX9_vertex_46 : decode cX9_vertex 46 = .ok (.iaload, 1) := by decide +kernel
theorem dX9_vertex_47 : decode cX9_vertex 47 = .ok (.invokevirtual 144, 3) := by decide +kernel
theorem dX9_vertex_50 : decode cX9_vertex 50 = .ok (.ireturn, 1) := by decide +kernel
theorem dX9_there_0 : decode cX9_there 0 = .ok (.iload_n 1, 1) := by decide +kernel
theorem dX9_there_1 : decode cX9_there 1 = .ok (.iconst 0, 1) := by decide +kernel
theorem dX9_there_2 : decode cX9_there 2 = .ok (.aload_n 0, 1) := by decide +kernel
theorem dX9_there_3 : decode cX9_there 3 = .ok (.getfield 28, 3) := by decide +kernel
theorem dX9_there_6 : decode cX9_there 6 = .ok (.iconst 0, 1) := by decide +kernel
theorem dX9_there_7 : decode cX9_there 7 = .ok (.iaload, 1) := by decide +kernel
theorem dX9_there_8 : decode cX9_there 8 = .ok (.iconst 1, 1) := by decide +kernel
theorem dX9_there_9 : decode cX9_there 9 = .ok (.isub, 1) := by decide +kernel
theorem dX9_there_10 : decode cX9_there 10 = .ok (.invokestatic 18, 3) := by decide +kernel
theorem dX9_there_13 : decode cX9_there 13 = .ok (.ifCond .eq 11, 3) := by decide +kernel
theorem dX9_there_16 : decode cX9_there 16 = .ok (.aload_n 0, 1) := by decide +kernel
theorem dX9_there_17 : decode cX9_there 17 = .ok (.iload_n 1, 1) := by decide +kernel
theorem dX9_there_18 : decode cX9_there 18 = .ok (.invokevirtual 109, 3) := by decide +kernel
theorem dX9_there_21 : decode cX9_there 21 = .ok (.goto 4, 3) := by decide +kernel
theorem dX9_there_24 : decode cX9_there 24 = .ok (.iconst (-1), 1) := by decide +kernel
theorem dX9_there_25 : decode cX9_there 25 = .ok (.ireturn, 1) := by decide +kernel
theorem dX9_ceiling_0 : decode cX9_ceiling 0 = .ok (.aload_n 0, 1) := by decide +kernel
theorem dX9_ceiling_1 : decode cX9_ceiling 1 = .ok (.iload_n 1, 1) := by decide +kernel
theorem dX9_ceiling_2 : decode cX9_ceiling 2 = .ok (.invokevirtual 112, 3) := by decide +kernel
theorem dX9_ceiling_5 : decode cX9_ceiling 5 = .ok (.istore_n 2, 1) := by decide +kernel
theorem dX9_ceiling_6 : decode cX9_ceiling 6 = .ok (.aload_n 0, 1) := by decide +kernel
theorem dX9_ceiling_7 : decode cX9_ceiling 7 = .ok (.iload_n 2, 1) := by decide +kernel
theorem dX9_ceiling_8 : decode cX9_ceiling 8 = .ok (.invokevirtual 147, 3) := by decide +kernel
theorem dX9_ceiling_11 : decode cX9_ceiling 11 = .ok (.ireturn, 1) := by decide +kernel
theorem dX9_isTerm_0 : decode cX9_isTerm 0 = .ok (.iload_n 0, 1) := by decide +kernel
theorem dX9_isTerm_1 : decode cX9_isTerm 1 = .ok (.tableswitch 52 0 2 #[27, 36, 44], 27) := by decide +kernel
theorem dX9_isTerm_28 : decode cX9_isTerm 28 = .ok (.iload_n 1, 1) := by decide +kernel
theorem dX9_isTerm_29 : decode cX9_isTerm 29 = .ok (.iconst 0, 1) := by decide +kernel
theorem dX9_isTerm_30 : decode cX9_isTerm 30 = .ok (.sipush 999, 3) := by decide +kernel
theorem dX9_isTerm_33 : decode cX9_isTerm 33 = .ok (.invokestatic 18, 3) := by decide +kernel
theorem dX9_isTerm_36 : decode cX9_isTerm 36 = .ok (.ireturn, 1) := by decide +kernel
theorem dX9_isTerm_37 : decode cX9_isTerm 37 = .ok (.iload_n 1, 1) := by decide +kernel
theorem dX9_isTerm_38 : decode cX9_isTerm 38 = .ok (.iconst 0, 1) := by decide +kernel
theorem dX9_isTerm_39 : decode cX9_isTerm 39 = .ok (.bipush 10, 2) := by decide +kernel
theorem dX9_isTerm_41 : decode cX9_isTerm 41 = .ok (.invokestatic 18, 3) := by decide +kernel
theorem dX9_isTerm_44 : decode cX9_isTerm 44 = .ok (.ireturn, 1) := by decide +kernel
theorem dX9_isTerm_45 : decode cX9_isTerm 45 = .ok (.iload_n 1, 1) := by decide +kernel
theorem dX9_isTerm_46 : decode cX9_isTerm 46 = .ok (.iconst 0, 1) := by decide +kernel
theorem dX9_isTerm_47 : decode cX9_isTerm 47 = .ok (.bipush 9, 2) := by decide +kernel
theorem dX9_isTerm_49 : decode cX9_isTerm 49 = .ok (.invokestatic 18, 3) := by decide +kernel
theorem dX9_isTerm_52 : decode cX9_isTerm 52 = .ok (.ireturn, 1) := by decide +kernel
theorem dX9_isTerm_53 : decode cX9_isTerm 53 = .ok (.iconst 0, 1) := by decide +kernel
theorem dX9_isTerm_54 : decode cX9_isTerm 54 = .ok (.ireturn, 1) := by decide +kernel
theorem dX9_termAt_0 : decode cX9_termAt 0 = .ok (.iload_n 0, 1) := by decide +kernel
theorem dX9_termAt_1 : decode cX9_termAt 1 = .ok (.lookupswitch 35 #[(0, 27), (1, 31)], 27) := by decide +kernel
theorem dX9_termAt_28 : decode cX9_termAt 28 = .ok (.sipush 187, 3) := by decide +kernel
theorem dX9_termAt_31 : decode cX9_termAt 31 = .ok (.ireturn, 1) := by decide +kernel
theorem dX9_termAt_32 : decode cX9_termAt 32 = .ok (.sipush 200, 3) := by decide +kernel
theorem dX9_termAt_35 : decode cX9_termAt 35 = .ok (.ireturn, 1) := by decide +kernel
theorem dX9_termAt_36 : decode cX9_termAt 36 = .ok (.sipush 201, 3) := by decide +kernel
theorem dX9_termAt_39 : decode cX9_termAt 39 = .ok (.ireturn, 1) := by decide +kernel
theorem dX9_terms_0 : decode cX9_terms 0 = .ok (.iload_n 1, 1) := by decide +kernel
theorem dX9_terms_1 : decode cX9_terms 1 = .ok (.iload_n 2, 1) := by decide +kernel
theorem dX9_terms_2 : decode cX9_terms 2 = .ok (.invokestatic 150, 3) := by decide +kernel
theorem dX9_terms_5 : decode cX9_terms 5 = .ok (.ifCond .ne 9, 3) := by decide +kernel
theorem dX9_terms_8 : decode cX9_terms 8 = .ok (.aload_n 0, 1) := by decide +kernel
theorem dX9_terms_9 : decode cX9_terms 9 = .ok (.iconst (-1), 1) := by decide +kernel
theorem dX9_terms_10 : decode cX9_terms 10 = .ok (.invokevirtual 103, 3) := by decide +kernel
theorem dX9_terms_13 : decode cX9_terms 13 = .ok (.ireturn, 1) := by decide +kernel
theorem dX9_terms_14 : decode cX9_terms 14 = .ok (.aload_n 0, 1) := by decide +kernel
theorem dX9_terms_15 : decode cX9_terms 15 = .ok (.getfield 28, 3) := by decide +kernel
theorem dX9_terms_18 : decode cX9_terms 18 = .ok (.iload_n 1, 1) := by decide +kernel
theorem dX9_terms_19 : decode cX9_terms 19 = .ok (.invokestatic 154, 3) := by decide +kernel
theorem dX9_terms_22 : decode cX9_terms 22 = .ok (.iaload, 1) := by decide +kernel
theorem dX9_terms_23 : decode cX9_terms 23 = .ok (.istore_n 3, 1) := by decide +kernel
theorem dX9_terms_24 : decode cX9_terms 24 = .ok (.aload_n 0, 1) := by decide +kernel
theorem dX9_terms_25 : decode cX9_terms 25 = .ok (.getfield 28, 3) := by decide +kernel
theorem dX9_terms_28 : decode cX9_terms 28 = .ok (.iload_n 1, 1) := by decide +kernel
theorem dX9_terms_29 : decode cX9_terms 29 = .ok (.invokestatic 154, 3) := by decide +kernel
theorem dX9_terms_32 : decode cX9_terms 32 = .ok (.iload_n 2, 1) := by decide +kernel
theorem dX9_terms_33 : decode cX9_terms 33 = .ok (.iastore, 1) := by decide +kernel
theorem dX9_terms_34 : decode cX9_terms 34 = .ok (.aload_n 0, 1) := by decide +kernel
theorem dX9_terms_35 : decode cX9_terms 35 = .ok (.iload_n 3, 1) := by decide +kernel
theorem dX9_terms_36 : decode cX9_terms 36 = .ok (.invokevirtual 106, 3) := by decide +kernel
theorem dX9_terms_39 : decode cX9_terms 39 = .ok (.ireturn, 1) := by decide +kernel
theorem dX9_row_0 : decode cX9_row 0 = .ok (.aload_n 0, 1) := by decide +kernel
theorem dX9_row_1 : decode cX9_row 1 = .ok (.getfield 157, 3) := by decide +kernel
theorem dX9_row_4 : decode cX9_row 4 = .ok (.istore_n 1, 1) := by decide +kernel
theorem dX9_row_5 : decode cX9_row 5 = .ok (.aload_n 0, 1) := by decide +kernel
theorem dX9_row_6 : decode cX9_row 6 = .ok (.iconst 0, 1) := by decide +kernel
theorem dX9_row_7 : decode cX9_row 7 = .ok (.putfield 157, 3) := by decide +kernel
theorem dX9_row_10 : decode cX9_row 10 = .ok (.iload_n 1, 1) := by decide +kernel
theorem dX9_row_11 : decode cX9_row 11 = .ok (.ifCond .ne 10, 3) := by decide +kernel
theorem dX9_row_14 : decode cX9_row 14 = .ok (.aload_n 0, 1) := by decide +kernel
theorem dX9_row_15 : decode cX9_row 15 = .ok (.bipush (-6), 2) := by decide +kernel
theorem dX9_row_17 : decode cX9_row 17 = .ok (.invokevirtual 103, 3) := by decide +kernel
theorem dX9_row_20 : decode cX9_row 20 = .ok (.ireturn, 1) := by decide +kernel
theorem dX9_row_21 : decode cX9_row 21 = .ok (.iconst 0, 1) := by decide +kernel
theorem dX9_row_22 : decode cX9_row 22 = .ok (.istore_n 2, 1) := by decide +kernel
theorem dX9_row_23 : decode cX9_row 23 = .ok (.aload_n 0, 1) := by decide +kernel
theorem dX9_row_24 : decode cX9_row 24 = .ok (.iload_n 1, 1) := by decide +kernel
theorem dX9_row_25 : decode cX9_row 25 = .ok (.iconst 2, 1) := by decide +kernel
theorem dX9_row_26 : decode cX9_row 26 = .ok (.irem, 1) := by decide +kernel
theorem dX9_row_27 : decode cX9_row 27 = .ok (.putfield 160, 3) := by decide +kernel
theorem dX9_row_30 : decode cX9_row 30 = .ok (.iconst 0, 1) := by decide +kernel
theorem dX9_row_31 : decode cX9_row 31 = .ok (.istore_n 3, 1) := by decide +kernel
theorem dX9_row_32 : decode cX9_row 32 = .ok (.iload_n 3, 1) := by decide +kernel
theorem dX9_row_33 : decode cX9_row 33 = .ok (.iconst 2, 1) := by decide +kernel
theorem dX9_row_34 : decode cX9_row 34 = .ok (.iadd, 1) := by decide +kernel
theorem dX9_row_35 : decode cX9_row 35 = .ok (.iload_n 1, 1) := by decide +kernel
theorem dX9_row_36 : decode cX9_row 36 = .ok (.if_icmp .gt 80, 3) := by decide +kernel
theorem dX9_row_39 : decode cX9_row 39 = .ok (.aload_n 0, 1) := by decide +kernel
theorem dX9_row_40 : decode cX9_row 40 = .ok (.aload_n 0, 1) := by decide +kernel
theorem dX9_row_41 : decode cX9_row 41 = .ok (.getfield 45, 3) := by decide +kernel
theorem dX9_row_44 : decode cX9_row 44 = .ok (.iload_n 3, 1) := by decide +kernel
theorem dX9_row_45 : decode cX9_row 45 = .ok (.baload, 1) := by decide +kernel
theorem dX9_row_46 : decode cX9_row 46 = .ok (.sipush 255, 3) := by decide +kernel
theorem dX9_row_49 : decode cX9_row 49 = .ok (.iand, 1) := by decide +kernel
theorem dX9_row_50 : decode cX9_row 50 = .ok (.iconst 4, 1) := by decide +kernel
theorem dX9_row_51 : decode cX9_row 51 = .ok (.imul, 1) := by decide +kernel
theorem dX9_row_52 : decode cX9_row 52 = .ok (.aload_n 0, 1) := by decide +kernel
theorem dX9_row_53 : decode cX9_row 53 = .ok (.getfield 45, 3) := by decide +kernel
theorem dX9_row_56 : decode cX9_row 56 = .ok (.iload_n 3, 1) := by decide +kernel
theorem dX9_row_57 : decode cX9_row 57 = .ok (.iconst 1, 1) := by decide +kernel
theorem dX9_row_58 : decode cX9_row 58 = .ok (.iadd, 1) := by decide +kernel
theorem dX9_row_59 : decode cX9_row 59 = .ok (.baload, 1) := by decide +kernel
theorem dX9_row_60 : decode cX9_row 60 = .ok (.sipush 255, 3) := by decide +kernel
theorem dX9_row_63 : decode cX9_row 63 = .ok (.iand, 1) := by decide +kernel
theorem dX9_row_64 : decode cX9_row 64 = .ok (.iadd, 1) := by decide +kernel
theorem dX9_row_65 : decode cX9_row 65 = .ok (.invokevirtual 163, 3) := by decide +kernel
theorem dX9_row_68 : decode cX9_row 68 = .ok (.ifCond .lt 7, 3) := by decide +kernel
theorem dX9_row_71 : decode cX9_row 71 = .ok (.iconst 1, 1) := by decide +kernel
theorem dX9_row_72 : decode cX9_row 72 = .ok (.goto 4, 3) := by decide +kernel
theorem dX9_row_75 : decode cX9_row 75 = .ok (.iconst 0, 1) := by decide +kernel
theorem dX9_row_76 : decode cX9_row 76 = .ok (.istore 4, 2) := by decide +kernel
theorem dX9_row_78 : decode cX9_row 78 = .ok (.iload_n 2, 1) := by decide +kernel
theorem dX9_row_79 : decode cX9_row 79 = .ok (.iload 4, 2) := by decide +kernel
theorem dX9_row_81 : decode cX9_row 81 = .ok (.ifCond .eq 7, 3) := by decide +kernel
theorem dX9_row_84 : decode cX9_row 84 = .ok (.iconst 1, 1) := by decide +kernel
theorem dX9_row_85 : decode cX9_row 85 = .ok (.goto 4, 3) := by decide +kernel
theorem dX9_row_88 : decode cX9_row 88 = .ok (.iconst 0, 1) := by decide +kernel
theorem dX9_row_89 : decode cX9_row 89 = .ok (.iadd, 1) := by decide +kernel
theorem dX9_row_90 : decode cX9_row 90 = .ok (.istore_n 2, 1) := by decide +kernel
theorem dX9_row_91 : decode cX9_row 91 = .ok (.aload_n 0, 1) := by decide +kernel
theorem dX9_row_92 : decode cX9_row 92 = .ok (.dup, 1) := by decide +kernel
theorem dX9_row_93 : decode cX9_row 93 = .ok (.getfield 160, 3) := by decide +kernel
theorem dX9_row_96 : decode cX9_row 96 = .ok (.iload 4, 2) := by decide +kernel
theorem dX9_row_98 : decode cX9_row 98 = .ok (.ifCond .eq 7, 3) := by decide +kernel
theorem dX9_row_101 : decode cX9_row 101 = .ok (.iconst 0, 1) := by decide +kernel
theorem dX9_row_102 : decode cX9_row 102 = .ok (.goto 4, 3) := by decide +kernel
theorem dX9_row_105 : decode cX9_row 105 = .ok (.iconst 1, 1) := by decide +kernel
theorem dX9_row_106 : decode cX9_row 106 = .ok (.iadd, 1) := by decide +kernel
theorem dX9_row_107 : decode cX9_row 107 = .ok (.putfield 160, 3) := by decide +kernel
theorem dX9_row_110 : decode cX9_row 110 = .ok (.iinc 3 2, 3) := by decide +kernel
theorem dX9_row_113 : decode cX9_row 113 = .ok (.goto (-81), 3) := by decide +kernel
theorem dX9_row_116 : decode cX9_row 116 = .ok (.aload_n 0, 1) := by decide +kernel
theorem dX9_row_117 : decode cX9_row 117 = .ok (.iload_n 2, 1) := by decide +kernel
theorem dX9_row_118 : decode cX9_row 118 = .ok (.invokevirtual 106, 3) := by decide +kernel
theorem dX9_row_121 : decode cX9_row 121 = .ok (.ireturn, 1) := by decide +kernel
theorem dX9_blanks_0 : decode cX9_blanks 0 = .ok (.aload_n 0, 1) := by decide +kernel
theorem dX9_blanks_1 : decode cX9_blanks 1 = .ok (.getfield 160, 3) := by decide +kernel
theorem dX9_blanks_4 : decode cX9_blanks 4 = .ok (.ireturn, 1) := by decide +kernel
theorem dX9_feed_0 : decode cX9_feed 0 = .ok (.aload_n 0, 1) := by decide +kernel
theorem dX9_feed_1 : decode cX9_feed 1 = .ok (.getfield 157, 3) := by decide +kernel
theorem dX9_feed_4 : decode cX9_feed 4 = .ok (.bipush 20, 2) := by decide +kernel
theorem dX9_feed_6 : decode cX9_feed 6 = .ok (.iadd, 1) := by decide +kernel
theorem dX9_feed_7 : decode cX9_feed 7 = .ok (.sipush 400, 3) := by decide +kernel
theorem dX9_feed_10 : decode cX9_feed 10 = .ok (.if_icmp .le 5, 3) := by decide +kernel
theorem dX9_feed_13 : decode cX9_feed 13 = .ok (.iconst (-1), 1) := by decide +kernel
theorem dX9_feed_14 : decode cX9_feed 14 = .ok (.ireturn, 1) := by decide +kernel
theorem dX9_feed_15 : decode cX9_feed 15 = .ok (.aload_n 0, 1) := by decide +kernel
theorem dX9_feed_16 : decode cX9_feed 16 = .ok (.getfield 48, 3) := by decide +kernel
theorem dX9_feed_19 : decode cX9_feed 19 = .ok (.iconst 0, 1) := by decide +kernel
theorem dX9_feed_20 : decode cX9_feed 20 = .ok (.iload_n 1, 1) := by decide +kernel
theorem dX9_feed_21 : decode cX9_feed 21 = .ok (.iastore, 1) := by decide +kernel
theorem dX9_feed_22 : decode cX9_feed 22 = .ok (.aload_n 0, 1) := by decide +kernel
theorem dX9_feed_23 : decode cX9_feed 23 = .ok (.getfield 48, 3) := by decide +kernel
theorem dX9_feed_26 : decode cX9_feed 26 = .ok (.iconst 1, 1) := by decide +kernel
theorem dX9_feed_27 : decode cX9_feed 27 = .ok (.iload_n 2, 1) := by decide +kernel
theorem dX9_feed_28 : decode cX9_feed 28 = .ok (.iastore, 1) := by decide +kernel
theorem dX9_feed_29 : decode cX9_feed 29 = .ok (.aload_n 0, 1) := by decide +kernel
theorem dX9_feed_30 : decode cX9_feed 30 = .ok (.getfield 48, 3) := by decide +kernel
theorem dX9_feed_33 : decode cX9_feed 33 = .ok (.iconst 2, 1) := by decide +kernel
theorem dX9_feed_34 : decode cX9_feed 34 = .ok (.iload_n 3, 1) := by decide +kernel
theorem dX9_feed_35 : decode cX9_feed 35 = .ok (.iastore, 1) := by decide +kernel
theorem dX9_feed_36 : decode cX9_feed 36 = .ok (.aload_n 0, 1) := by decide +kernel
theorem dX9_feed_37 : decode cX9_feed 37 = .ok (.getfield 48, 3) := by decide +kernel
theorem dX9_feed_40 : decode cX9_feed 40 = .ok (.iconst 3, 1) := by decide +kernel
theorem dX9_feed_41 : decode cX9_feed 41 = .ok (.iload 4, 2) := by decide +kernel
theorem dX9_feed_43 : decode cX9_feed 43 = .ok (.iastore, 1) := by decide +kernel
theorem dX9_feed_44 : decode cX9_feed 44 = .ok (.aload_n 0, 1) := by decide +kernel
theorem dX9_feed_45 : decode cX9_feed 45 = .ok (.getfield 48, 3) := by decide +kernel
theorem dX9_feed_48 : decode cX9_feed 48 = .ok (.iconst 4, 1) := by decide +kernel
theorem dX9_feed_49 : decode cX9_feed 49 = .ok (.iload 5, 2) := by decide +kernel
theorem dX9_feed_51 : decode cX9_feed 51 = .ok (.iastore, 1) := by decide +kernel
theorem dX9_feed_52 : decode cX9_feed 52 = .ok (.iconst 0, 1) := by decide +kernel
theorem dX9_feed_53 : decode cX9_feed 53 = .ok (.istore 6, 2) := by decide +kernel
theorem dX9_feed_55 : decode cX9_feed 55 = .ok (.iload 6, 2) := by decide +kernel
theorem dX9_feed_57 : decode cX9_feed 57 = .ok (.bipush 20, 2) := by decide +kernel
theorem dX9_feed_59 : decode cX9_feed 59 = .ok (.if_icmp .ge 42, 3) := by decide +kernel
theorem dX9_feed_62 : decode cX9_feed 62 = .ok (.aload_n 0, 1) := by decide +kernel
theorem dX9_feed_63 : decode cX9_feed 63 = .ok (.getfield 45, 3) := by decide +kernel
theorem dX9_feed_66 : decode cX9_feed 66 = .ok (.aload_n 0, 1) := by decide +kernel
theorem dX9_feed_67 : decode cX9_feed 67 = .ok (.getfield 157, 3) := by decide +kernel
theorem dX9_feed_70 : decode cX9_feed 70 = .ok (.iload 6, 2) := by decide +kernel
theorem dX9_feed_72 : decode cX9_feed 72 = .ok (.iadd, 1) := by decide +kernel
theorem dX9_feed_73 : decode cX9_feed 73 = .ok (.aload_n 0, 1) := by decide +kernel
theorem dX9_feed_74 : decode cX9_feed 74 = .ok (.getfield 48, 3) := by decide +kernel
theorem dX9_feed_77 : decode cX9_feed 77 = .ok (.iload 6, 2) := by decide +kernel
theorem dX9_feed_79 : decode cX9_feed 79 = .ok (.iconst 4, 1) := by decide +kernel
theorem dX9_feed_80 : decode cX9_feed 80 = .ok (.idiv, 1) := by decide +kernel
theorem dX9_feed_81 : decode cX9_feed 81 = .ok (.iaload, 1) := by decide +kernel
theorem dX9_feed_82 : decode cX9_feed 82 = .ok (.bipush 24, 2) := by decide +kernel
theorem dX9_feed_84 : decode cX9_feed 84 = .ok (.bipush 8, 2) := by decide +kernel
theorem dX9_feed_86 : decode cX9_feed 86 = .ok (.iload 6, 2) := by decide +kernel
theorem dX9_feed_88 : decode cX9_feed 88 = .ok (.iconst 4, 1) := by decide +kernel
theorem dX9_feed_89 : decode cX9_feed 89 = .ok (.irem, 1) := by decide +kernel
theorem dX9_feed_90 : decode cX9_feed 90 = .ok (.imul, 1) := by decide +kernel
theorem dX9_feed_91 : decode cX9_feed 91 = .ok (.isub, 1) := by decide +kernel
theorem dX9_feed_92 : decode cX9_feed 92 = .ok (.ishr, 1) := by decide +kernel
theorem dX9_feed_93 : decode cX9_feed 93 = .ok (.i2b, 1) := by decide +kernel
theorem dX9_feed_94 : decode cX9_feed 94 = .ok (.bastore, 1) := by decide +kernel
theorem dX9_feed_95 : decode cX9_feed 95 = .ok (.iinc 6 1, 3) := by decide +kernel
theorem dX9_feed_98 : decode cX9_feed 98 = .ok (.goto (-43), 3) := by decide +kernel
theorem dX9_feed_101 : decode cX9_feed 101 = .ok (.aload_n 0, 1) := by decide +kernel
theorem dX9_feed_102 : decode cX9_feed 102 = .ok (.dup, 1) := by decide +kernel
theorem dX9_feed_103 : decode cX9_feed 103 = .ok (.getfield 157, 3) := by decide +kernel
theorem dX9_feed_106 : decode cX9_feed 106 = .ok (.bipush 20, 2) := by decide +kernel
theorem dX9_feed_108 : decode cX9_feed 108 = .ok (.iadd, 1) := by decide +kernel
theorem dX9_feed_109 : decode cX9_feed 109 = .ok (.putfield 157, 3) := by decide +kernel
theorem dX9_feed_112 : decode cX9_feed 112 = .ok (.aload_n 0, 1) := by decide +kernel
theorem dX9_feed_113 : decode cX9_feed 113 = .ok (.getfield 157, 3) := by decide +kernel
theorem dX9_feed_116 : decode cX9_feed 116 = .ok (.ireturn, 1) := by decide +kernel
theorem dX9_end_0 : decode cX9_end 0 = .ok (.iload_n 1, 1) := by decide +kernel
theorem dX9_end_1 : decode cX9_end 1 = .ok (.iconst 0, 1) := by decide +kernel
theorem dX9_end_2 : decode cX9_end 2 = .ok (.aload_n 0, 1) := by decide +kernel
theorem dX9_end_3 : decode cX9_end 3 = .ok (.getfield 157, 3) := by decide +kernel
theorem dX9_end_6 : decode cX9_end 6 = .ok (.invokestatic 18, 3) := by decide +kernel
theorem dX9_end_9 : decode cX9_end 9 = .ok (.ifCond .ne 5, 3) := by decide +kernel
theorem dX9_end_12 : decode cX9_end 12 = .ok (.iconst (-1), 1) := by decide +kernel
theorem dX9_end_13 : decode cX9_end 13 = .ok (.ireturn, 1) := by decide +kernel
theorem dX9_end_14 : decode cX9_end 14 = .ok (.aload_n 0, 1) := by decide +kernel
theorem dX9_end_15 : decode cX9_end 15 = .ok (.iload_n 1, 1) := by decide +kernel
theorem dX9_end_16 : decode cX9_end 16 = .ok (.putfield 157, 3) := by decide +kernel
theorem dX9_end_19 : decode cX9_end 19 = .ok (.iload_n 1, 1) := by decide +kernel
theorem dX9_end_20 : decode cX9_end 20 = .ok (.ireturn, 1) := by decide +kernel
theorem dX9_isSmall_0 : decode cX9_isSmall 0 = .ok (.iload_n 0, 1) := by decide +kernel
theorem dX9_isSmall_1 : decode cX9_isSmall 1 = .ok (.bipush 97, 2) := by decide +kernel
theorem dX9_isSmall_3 : decode cX9_isSmall 3 = .ok (.if_icmp .lt 13, 3) := by decide +kernel
theorem dX9_isSmall_6 : decode cX9_isSmall 6 = .ok (.iload_n 0, 1) := by decide +kernel
theorem dX9_isSmall_7 : decode cX9_isSmall 7 = .ok (.bipush 122, 2) := by decide +kernel
theorem dX9_isSmall_9 : decode cX9_isSmall 9 = .ok (.if_icmp .gt 7, 3) := by decide +kernel
theorem dX9_isSmall_12 : decode cX9_isSmall 12 = .ok (.iconst 1, 1) := by decide +kernel
theorem dX9_isSmall_13 : decode cX9_isSmall 13 = .ok (.goto 4, 3) := by decide +kernel
theorem dX9_isSmall_16 : decode cX9_isSmall 16 = .ok (.iconst 0, 1) := by decide +kernel
theorem dX9_isSmall_17 : decode cX9_isSmall 17 = .ok (.ireturn, 1) := by decide +kernel
theorem dX9_isDigit_0 : decode cX9_isDigit 0 = .ok (.iload_n 0, 1) := by decide +kernel
theorem dX9_isDigit_1 : decode cX9_isDigit 1 = .ok (.bipush 48, 2) := by decide +kernel
theorem dX9_isDigit_3 : decode cX9_isDigit 3 = .ok (.if_icmp .lt 13, 3) := by decide +kernel
theorem dX9_isDigit_6 : decode cX9_isDigit 6 = .ok (.iload_n 0, 1) := by decide +kernel
theorem dX9_isDigit_7 : decode cX9_isDigit 7 = .ok (.bipush 57, 2) := by decide +kernel
theorem dX9_isDigit_9 : decode cX9_isDigit 9 = .ok (.if_icmp .gt 7, 3) := by decide +kernel
theorem dX9_isDigit_12 : decode cX9_isDigit 12 = .ok (.iconst 1, 1) := by decide +kernel
theorem dX9_isDigit_13 : decode cX9_isDigit 13 = .ok (.goto 4, 3) := by decide +kernel
theorem dX9_isDigit_16 : decode cX9_isDigit 16 = .ok (.iconst 0, 1) := by decide +kernel
theorem dX9_isDigit_17 : decode cX9_isDigit 17 = .ok (.ireturn, 1) := by decide +kernel
theorem dX9_wordOf_0 : decode cX9_wordOf 0 = .ok (.iconst 1, 1) := by decide +kernel
theorem dX9_wordOf_1 : decode cX9_wordOf 1 = .ok (.istore_n 3, 1) := by decide +kernel
theorem dX9_wordOf_2 : decode cX9_wordOf 2 = .ok (.iconst 0, 1) := by decide +kernel
theorem dX9_wordOf_3 : decode cX9_wordOf 3 = .ok (.istore 4, 2) := by decide +kernel
theorem dX9_wordOf_5 : decode cX9_wordOf 5 = .ok (.iload 4, 2) := by decide +kernel
theorem dX9_wordOf_7 : decode cX9_wordOf 7 = .ok (.aload_n 0, 1) := by decide +kernel
theorem dX9_wordOf_8 : decode cX9_wordOf 8 = .ok (.getfield 41, 3) := by decide +kernel
theorem dX9_wordOf_11 : decode cX9_wordOf 11 = .ok (.arraylength, 1) := by decide +kernel
theorem dX9_wordOf_12 : decode cX9_wordOf 12 = .ok (.if_icmp .ge 114, 3) := by decide +kernel
theorem dX9_wordOf_15 : decode cX9_wordOf 15 = .ok (.iconst 0, 1) := by decide +kernel
theorem dX9_wordOf_16 : decode cX9_wordOf 16 = .ok (.istore 5, 2) := by decide +kernel
theorem dX9_wordOf_18 : decode cX9_wordOf 18 = .ok (.aload_n 0, 1) := by decide +kernel
theorem dX9_wordOf_19 : decode cX9_wordOf 19 = .ok (.getfield 41, 3) := by decide +kernel
theorem dX9_wordOf_22 : decode cX9_wordOf 22 = .ok (.iload 4, 2) := by decide +kernel
theorem dX9_wordOf_24 : decode cX9_wordOf 24 = .ok (.iload 5, 2) := by decide +kernel
theorem dX9_wordOf_26 : decode cX9_wordOf 26 = .ok (.iadd, 1) := by decide +kernel
theorem dX9_wordOf_27 : decode cX9_wordOf 27 = .ok (.baload, 1) := by decide +kernel
theorem dX9_wordOf_28 : decode cX9_wordOf 28 = .ok (.bipush 32, 2) := by decide +kernel
theorem dX9_wordOf_30 : decode cX9_wordOf 30 = .ok (.if_icmp .eq 9, 3) := by decide +kernel
theorem dX9_wordOf_33 : decode cX9_wordOf 33 = .ok (.iinc 5 1, 3) := by decide +kernel
theorem dX9_wordOf_36 : decode cX9_wordOf 36 = .ok (.goto (-18), 3) := by decide +kernel
theorem dX9_wordOf_39 : decode cX9_wordOf 39 = .ok (.iload 5, 2) := by decide +kernel
theorem dX9_wordOf_41 : decode cX9_wordOf 41 = .ok (.iload_n 2, 1) := by decide +kernel
theorem dX9_wordOf_42 : decode cX9_wordOf 42 = .ok (.iload_n 1, 1) := by decide +kernel
theorem dX9_wordOf_43 : decode cX9_wordOf 43 = .ok (.isub, 1) := by decide +kernel
theorem dX9_wordOf_44 : decode cX9_wordOf 44 = .ok (.if_icmp .ne 7, 3) := by decide +kernel
theorem dX9_wordOf_47 : decode cX9_wordOf 47 = .ok (.iconst 1, 1) := by decide +kernel
theorem dX9_wordOf_48 : decode cX9_wordOf 48 = .ok (.goto 4, 3) := by decide +kernel
theorem dX9_wordOf_51 : decode cX9_wordOf 51 = .ok (.iconst 0, 1) := by decide +kernel
theorem dX9_wordOf_52 : decode cX9_wordOf 52 = .ok (.istore 6, 2) := by decide +kernel
theorem dX9_wordOf_54 : decode cX9_wordOf 54 = .ok (.iconst 0, 1) := by decide +kernel
theorem dX9_wordOf_55 : decode cX9_wordOf 55 = .ok (.istore 7, 2) := by decide +kernel
theorem dX9_wordOf_57 : decode cX9_wordOf 57 = .ok (.iload 7, 2) := by decide +kernel
theorem dX9_wordOf_59 : decode cX9_wordOf 59 = .ok (.iload 5, 2) := by decide +kernel
theorem dX9_wordOf_61 : decode cX9_wordOf 61 = .ok (.if_icmp .ge 43, 3) := by decide +kernel
theorem dX9_wordOf_64 : decode cX9_wordOf 64 = .ok (.iload 6, 2) := by decide +kernel
theorem dX9_wordOf_66 : decode cX9_wordOf 66 = .ok (.ifCond .eq 38, 3) := by decide +kernel
theorem dX9_wordOf_69 : decode cX9_wordOf 69 = .ok (.aload_n 0, 1) := by decide +kernel
theorem dX9_wordOf_70 : decode cX9_wordOf 70 = .ok (.getfield 41, 3) := by decide +kernel
theorem dX9_wordOf_73 : decode cX9_wordOf 73 = .ok (.iload 4, 2) := by decide +kernel
theorem dX9_wordOf_75 : decode cX9_wordOf 75 = .ok (.iload 7, 2) := by decide +kernel
theorem dX9_wordOf_77 : decode cX9_wordOf 77 = .ok (.iadd, 1) := by decide +kernel
theorem dX9_wordOf_78 : decode cX9_wordOf 78 = .ok (.baload, 1) := by decide +kernel
theorem dX9_wordOf_79 : decode cX9_wordOf 79 = .ok (.aload_n 0, 1) := by decide +kernel
theorem dX9_wordOf_80 : decode cX9_wordOf 80 = .ok (.getfield 45, 3) := by decide +kernel
theorem dX9_wordOf_83 : decode cX9_wordOf 83 = .ok (.iload_n 1, 1) := by decide +kernel
theorem dX9_wordOf_84 : decode cX9_wordOf 84 = .ok (.iload 7, 2) := by decide +kernel
theorem dX9_wordOf_86 : decode cX9_wordOf 86 = .ok (.iadd, 1) := by decide +kernel
theorem dX9_wordOf_87 : decode cX9_wordOf 87 = .ok (.baload, 1) := by decide +kernel
theorem dX9_wordOf_88 : decode cX9_wordOf 88 = .ok (.if_icmp .ne 7, 3) := by decide +kernel
theorem dX9_wordOf_91 : decode cX9_wordOf 91 = .ok (.iconst 1, 1) := by decide +kernel
theorem dX9_wordOf_92 : decode cX9_wordOf 92 = .ok (.goto 4, 3) := by decide +kernel
theorem dX9_wordOf_95 : decode cX9_wordOf 95 = .ok (.iconst 0, 1) := by decide +kernel
theorem dX9_wordOf_96 : decode cX9_wordOf 96 = .ok (.istore 6, 2) := by decide +kernel
theorem dX9_wordOf_98 : decode cX9_wordOf 98 = .ok (.iinc 7 1, 3) := by decide +kernel
theorem dX9_wordOf_101 : decode cX9_wordOf 101 = .ok (.goto (-44), 3) := by decide +kernel
theorem dX9_wordOf_104 : decode cX9_wordOf 104 = .ok (.iload 6, 2) := by decide +kernel
theorem dX9_wordOf_106 : decode cX9_wordOf 106 = .ok (.ifCond .eq 5, 3) := by decide +kernel
theorem dX9_wordOf_109 : decode cX9_wordOf 109 = .ok (.iload_n 3, 1) := by decide +kernel
theorem dX9_wordOf_110 : decode cX9_wordOf 110 = .ok (.ireturn, 1) := by decide +kernel
theorem dX9_wordOf_111 : decode cX9_wordOf 111 = .ok (.iload 4, 2) := by decide +kernel
theorem dX9_wordOf_113 : decode cX9_wordOf 113 = .ok (.iload 5, 2) := by decide +kernel
theorem dX9_wordOf_115 : decode cX9_wordOf 115 = .ok (.iconst 1, 1) := by decide +kernel
theorem dX9_wordOf_116 : decode cX9_wordOf 116 = .ok (.iadd, 1) := by decide +kernel
theorem dX9_wordOf_117 : decode cX9_wordOf 117 = .ok (.iadd, 1) := by decide +kernel
theorem dX9_wordOf_118 : decode cX9_wordOf 118 = .ok (.istore 4, 2) := by decide +kernel
theorem dX9_wordOf_120 : decode cX9_wordOf 120 = .ok (.iinc 3 1, 3) := by decide +kernel
theorem dX9_wordOf_123 : decode cX9_wordOf 123 = .ok (.goto (-118), 3) := by decide +kernel
theorem dX9_wordOf_126 : decode cX9_wordOf 126 = .ok (.iconst 0, 1) := by decide +kernel
theorem dX9_wordOf_127 : decode cX9_wordOf 127 = .ok (.ireturn, 1) := by decide +kernel
theorem dX9_splits_0 : decode cX9_splits 0 = .ok (.aload_n 0, 1) := by decide +kernel
theorem dX9_splits_1 : decode cX9_splits 1 = .ok (.iconst 0, 1) := by decide +kernel
theorem dX9_splits_2 : decode cX9_splits 2 = .ok (.putfield 166, 3) := by decide +kernel
theorem dX9_splits_5 : decode cX9_splits 5 = .ok (.iconst 0, 1) := by decide +kernel
theorem dX9_splits_6 : decode cX9_splits 6 = .ok (.istore_n 2, 1) := by decide +kernel
theorem dX9_splits_7 : decode cX9_splits 7 = .ok (.iload_n 2, 1) := by decide +kernel
theorem dX9_splits_8 : decode cX9_splits 8 = .ok (.iload_n 1, 1) := by decide +kernel
theorem dX9_splits_9 : decode cX9_splits 9 = .ok (.if_icmp .ge 254, 3) := by decide +kernel
theorem dX9_splits_12 : decode cX9_splits 12 = .ok (.aload_n 0, 1) := by decide +kernel
theorem dX9_splits_13 : decode cX9_splits 13 = .ok (.getfield 45, 3) := by decide +kernel
theorem dX9_splits_16 : decode cX9_splits 16 = .ok (.iload_n 2, 1) := by decide +kernel
theorem dX9_splits_17 : decode cX9_splits 17 = .ok (.baload, 1) := by decide +kernel
theorem dX9_splits_18 : decode cX9_splits 18 = .ok (.istore_n 3, 1) := by decide +kernel
theorem dX9_splits_19 : decode cX9_splits 19 = .ok (.iload_n 3, 1) := by decide +kernel
theorem dX9_splits_20 : decode cX9_splits 20 = .ok (.bipush 32, 2) := by decide +kernel
theorem dX9_splits_22 : decode cX9_splits 22 = .ok (.if_icmp .ne 9, 3) := by decide +kernel
theorem dX9_splits_25 : decode cX9_splits 25 = .ok (.iinc 2 1, 3) := by decide +kernel
theorem dX9_splits_28 : decode cX9_splits 28 = .ok (.goto (-21), 3) := by decide +kernel
theorem dX9_splits_31 : decode cX9_splits 31 = .ok (.iload_n 2, 1) := by decide +kernel
theorem dX9_splits_32 : decode cX9_splits 32 = .ok (.iconst 1, 1) := by decide +kernel
theorem dX9_splits_33 : decode cX9_splits 33 = .ok (.iadd, 1) := by decide +kernel
theorem dX9_splits_34 : decode cX9_splits 34 = .ok (.istore 4, 2) := by decide +kernel
theorem dX9_splits_36 : decode cX9_splits 36 = .ok (.iload_n 3, 1) := by decide +kernel
theorem dX9_splits_37 : decode cX9_splits 37 = .ok (.invokestatic 169, 3) := by decide +kernel
theorem dX9_splits_40 : decode cX9_splits 40 = .ok (.ifCond .eq 28, 3) := by decide +kernel
theorem dX9_splits_43 : decode cX9_splits 43 = .ok (.iload 4, 2) := by decide +kernel
theorem dX9_splits_45 : decode cX9_splits 45 = .ok (.iload_n 1, 1) := by decide +kernel
theorem dX9_splits_46 : decode cX9_splits 46 = .ok (.if_icmp .ge 22, 3) := by decide +kernel
theorem dX9_splits_49 : decode cX9_splits 49 = .ok (.aload_n 0, 1) := by decide +kernel
theorem dX9_splits_50 : decode cX9_splits 50 = .ok (.getfield 45, 3) := by decide +kernel
theorem dX9_splits_53 : decode cX9_splits 53 = .ok (.iload 4, 2) := by decide +kernel
theorem dX9_splits_55 : decode cX9_splits 55 = .ok (.baload, 1) := by decide +kernel
theorem dX9_splits_56 : decode cX9_splits 56 = .ok (.invokestatic 169, 3) := by decide +kernel
theorem dX9_splits_59 : decode cX9_splits 59 = .ok (.ifCond .eq 9, 3) := by decide +kernel
theorem dX9_splits_62 : decode cX9_splits 62 = .ok (.iinc 4 1, 3) := by decide +kernel
theorem dX9_splits_65 : decode cX9_splits 65 = .ok (.goto (-22), 3) := by decide +kernel
theorem dX9_splits_68 : decode cX9_splits 68 = .ok (.iload_n 3, 1) := by decide +kernel
theorem dX9_splits_69 : decode cX9_splits 69 = .ok (.invokestatic 172, 3) := by decide +kernel
theorem dX9_splits_72 : decode cX9_splits 72 = .ok (.ifCond .eq 28, 3) := by decide +kernel
theorem dX9_splits_75 : decode cX9_splits 75 = .ok (.iload 4, 2) := by decide +kernel
theorem dX9_splits_77 : decode cX9_splits 77 = .ok (.iload_n 1, 1) := by decide +kernel
theorem dX9_splits_78 : decode cX9_splits 78 = .ok (.if_icmp .ge 22, 3) := by decide +kernel
theorem dX9_splits_81 : decode cX9_splits 81 = .ok (.aload_n 0, 1) := by decide +kernel
theorem dX9_splits_82 : decode cX9_splits 82 = .ok (.getfield 45, 3) := by decide +kernel
theorem dX9_splits_85 : decode cX9_splits 85 = .ok (.iload 4, 2) := by decide +kernel
theorem dX9_splits_87 : decode cX9_splits 87 = .ok (.baload, 1) := by decide +kernel
theorem dX9_splits_88 : decode cX9_splits 88 = .ok (.invokestatic 172, 3) := by decide +kernel
theorem dX9_splits_91 : decode cX9_splits 91 = .ok (.ifCond .eq 9, 3) := by decide +kernel
theorem dX9_splits_94 : decode cX9_splits 94 = .ok (.iinc 4 1, 3) := by decide +kernel
theorem dX9_splits_97 : decode cX9_splits 97 = .ok (.goto (-22), 3) := by decide +kernel
theorem dX9_splits_100 : decode cX9_splits 100 = .ok (.aload_n 0, 1) := by decide +kernel
theorem dX9_splits_101 : decode cX9_splits 101 = .ok (.getfield 60, 3) := by decide +kernel
theorem dX9_splits_104 : decode cX9_splits 104 = .ok (.aload_n 0, 1) := by decide +kernel
theorem dX9_splits_105 : decode cX9_splits 105 = .ok (.getfield 166, 3) := by decide +kernel
theorem dX9_splits_108 : decode cX9_splits 108 = .ok (.iload_n 2, 1) := by decide +kernel
theorem dX9_splits_109 : decode cX9_splits 109 = .ok (.iastore, 1) := by decide +kernel
theorem dX9_splits_110 : decode cX9_splits 110 = .ok (.aload_n 0, 1) := by decide +kernel
theorem dX9_splits_111 : decode cX9_splits 111 = .ok (.getfield 57, 3) := by decide +kernel
theorem dX9_splits_114 : decode cX9_splits 114 = .ok (.aload_n 0, 1) := by decide +kernel
theorem dX9_splits_115 : decode cX9_splits 115 = .ok (.getfield 166, 3) := by decide +kernel
theorem dX9_splits_118 : decode cX9_splits 118 = .ok (.iconst 0, 1) := by decide +kernel
theorem dX9_splits_119 : decode cX9_splits 119 = .ok (.iastore, 1) := by decide +kernel
theorem dX9_splits_120 : decode cX9_splits 120 = .ok (.aload_n 0, 1) := by decide +kernel
theorem dX9_splits_121 : decode cX9_splits 121 = .ok (.getfield 54, 3) := by decide +kernel
theorem dX9_splits_124 : decode cX9_splits 124 = .ok (.aload_n 0, 1) := by decide +kernel
theorem dX9_splits_125 : decode cX9_splits 125 = .ok (.getfield 166, 3) := by decide +kernel
theorem dX9_splits_128 : decode cX9_splits 128 = .ok (.iload_n 3, 1) := by decide +kernel
theorem dX9_splits_129 : decode cX9_splits 129 = .ok (.invokestatic 169, 3) := by decide +kernel
theorem dX9_splits_132 : decode cX9_splits 132 = .ok (.ifCond .eq 13, 3) := by decide +kernel
theorem dX9_splits_135 : decode cX9_splits 135 = .ok (.aload_n 0, 1) := by decide +kernel
theorem dX9_splits_136 : decode cX9_splits 136 = .ok (.iload_n 2, 1) := by decide +kernel
theorem dX9_splits_137 : decode cX9_splits 137 = .ok (.iload 4, 2) := by decide +kernel
theorem dX9_splits_139 : decode cX9_splits 139 = .ok (.invokevirtual 175, 3) := by decide +kernel
theorem dX9_splits_142 : decode cX9_splits 142 = .ok (.goto 23, 3) := by decide +kernel
theorem dX9_splits_145 : decode cX9_splits 145 = .ok (.iload_n 3, 1) := by decide +kernel
theorem dX9_splits_146 : decode cX9_splits 146 = .ok (.invokestatic 172, 3) := by decide +kernel
theorem dX9_splits_149 : decode cX9_splits 149 = .ok (.ifCond .eq 8, 3) := by decide +kernel
theorem dX9_splits_152 : decode cX9_splits 152 = .ok (.bipush 50, 2) := by decide +kernel
theorem dX9_splits_154 : decode cX9_splits 154 = .ok (.goto 11, 3) := by decide +kernel
theorem dX9_splits_157 : decode cX9_splits 157 = .ok (.bipush 100, 2) := by decide +kernel
theorem dX9_splits_159 : decode cX9_splits 159 = .ok (.iload_n 3, 1) := by decide +kernel
theorem dX9_splits_160 : decode cX9_splits 160 = .ok (.sipush 255, 3) := by decide +kernel
theorem dX9_splits_163 : decode cX9_splits 163 = .ok (.iand, 1) := by decide +kernel
theorem dX9_splits_164 : decode cX9_splits 164 = .ok (.iadd, 1) := by decide +kernel
theorem dX9_splits_165 : decode cX9_splits 165 = .ok (.iastore, 1) := by decide +kernel
theorem dX9_splits_166 : decode cX9_splits 166 = .ok (.iload_n 2, 1) := by decide +kernel
theorem dX9_splits_167 : decode cX9_splits 167 = .ok (.istore 5, 2) := by decide +kernel
theorem dX9_splits_169 : decode cX9_splits 169 = .ok (.iload 5, 2) := by decide +kernel
theorem dX9_splits_171 : decode cX9_splits 171 = .ok (.iload 4, 2) := by decide +kernel
theorem dX9_splits_173 : decode cX9_splits 173 = .ok (.if_icmp .ge 74, 3) := by decide +kernel
theorem dX9_splits_176 : decode cX9_splits 176 = .ok (.iload_n 3, 1) := by decide +kernel
theorem dX9_splits_177 : decode cX9_splits 177 = .ok (.invokestatic 172, 3) := by decide +kernel
theorem dX9_splits_180 : decode cX9_splits 180 = .ok (.ifCond .eq 67, 3) := by decide +kernel
theorem dX9_splits_183 : decode cX9_splits 183 = .ok (.aload_n 0, 1) := by decide +kernel
theorem dX9_splits_184 : decode cX9_splits 184 = .ok (.getfield 57, 3) := by decide +kernel
theorem dX9_splits_187 : decode cX9_splits 187 = .ok (.aload_n 0, 1) := by decide +kernel
theorem dX9_splits_188 : decode cX9_splits 188 = .ok (.getfield 166, 3) := by decide +kernel
theorem dX9_splits_191 : decode cX9_splits 191 = .ok (.aload_n 0, 1) := by decide +kernel
theorem dX9_splits_192 : decode cX9_splits 192 = .ok (.getfield 57, 3) := by decide +kernel
theorem dX9_splits_195 : decode cX9_splits 195 = .ok (.aload_n 0, 1) := by decide +kernel
theorem dX9_splits_196 : decode cX9_splits 196 = .ok (.getfield 166, 3) := by decide +kernel
theorem dX9_splits_199 : decode cX9_splits 199 = .ok (.iaload, 1) := by decide +kernel
theorem dX9_splits_200 : decode cX9_splits 200 = .ok (.ldc 178, 2) := by decide +kernel
theorem dX9_splits_202 : decode cX9_splits 202 = .ok (.if_icmp .le 15, 3) := by decide +kernel
theorem dX9_splits_205 : decode cX9_splits 205 = .ok (.aload_n 0, 1) := by decide +kernel
theorem dX9_splits_206 : decode cX9_splits 206 = .ok (.getfield 57, 3) := by decide +kernel
theorem dX9_splits_209 : decode cX9_splits 209 = .ok (.aload_n 0, 1) := by decide +kernel
theorem dX9_splits_210 : decode cX9_splits 210 = .ok (.getfield 166, 3) := by decide +kernel
theorem dX9_splits_213 : decode cX9_splits 213 = .ok (.iaload, 1) := by decide +kernel
theorem dX9_splits_214 : decode cX9_splits 214 = .ok (.goto 26, 3) := by decide +kernel
theorem dX9_splits_217 : decode cX9_splits 217 = .ok (.bipush 10, 2) := by decide +kernel
theorem dX9_splits_219 : decode cX9_splits 219 = .ok (.aload_n 0, 1) := by decide +kernel
theorem dX9_splits_220 : decode cX9_splits 220 = .ok (.getfield 57, 3) := by decide +kernel
theorem dX9_splits_223 : decode cX9_splits 223 = .ok (.aload_n 0, 1) := by decide +kernel
theorem dX9_splits_224 : decode cX9_splits 224 = .ok (.getfield 166, 3) := by decide +kernel
theorem dX9_splits_227 : decode cX9_splits 227 = .ok (.iaload, 1) := by decide +kernel
theorem dX9_splits_228 : decode cX9_splits 228 = .ok (.imul, 1) := by decide +kernel
theorem dX9_splits_229 : decode cX9_splits 229 = .ok (.aload_n 0, 1) := by decide +kernel
theorem dX9_splits_230 : decode cX9_splits 230 = .ok (.getfield 45, 3) := by decide +kernel
theorem dX9_splits_233 : decode cX9_splits 233 = .ok (.iload 5, 2) := by decide +kernel
theorem dX9_splits_235 : decode cX9_splits 235 = .ok (.baload, 1) := by decide +kernel
theorem dX9_splits_236 : decode cX9_splits 236 = .ok (.iadd, 1) := by decide +kernel
theorem dX9_splits_237 : decode cX9_splits 237 = .ok (.bipush 48, 2) := by decide +kernel
theorem dX9_splits_239 : decode cX9_splits 239 = .ok (.isub, 1) := by decide +kernel
theorem dX9_splits_240 : decode cX9_splits 240 = .ok (.iastore, 1) := by decide +kernel
theorem dX9_splits_241 : decode cX9_splits 241 = .ok (.iinc 5 1, 3) := by decide +kernel
theorem dX9_splits_244 : decode cX9_splits 244 = .ok (.goto (-75), 3) := by decide +kernel
theorem dX9_splits_247 : decode cX9_splits 247 = .ok (.aload_n 0, 1) := by decide +kernel
theorem dX9_splits_248 : decode cX9_splits 248 = .ok (.dup, 1) := by decide +kernel
theorem dX9_splits_249 : decode cX9_splits 249 = .ok (.getfield 166, 3) := by decide +kernel
theorem dX9_splits_252 : decode cX9_splits 252 = .ok (.iconst 1, 1) := by decide +kernel
theorem dX9_splits_253 : decode cX9_splits 253 = .ok (.iadd, 1) := by decide +kernel
theorem dX9_splits_254 : decode cX9_splits 254 = .ok (.putfield 166, 3) := by decide +kernel
theorem dX9_splits_257 : decode cX9_splits 257 = .ok (.iload 4, 2) := by decide +kernel
theorem dX9_splits_259 : decode cX9_splits 259 = .ok (.istore_n 2, 1) := by decide +kernel
theorem dX9_splits_260 : decode cX9_splits 260 = .ok (.goto (-253), 3) := by decide +kernel
theorem dX9_splits_263 : decode cX9_splits 263 = .ok (.aload_n 0, 1) := by decide +kernel
theorem dX9_splits_264 : decode cX9_splits 264 = .ok (.getfield 60, 3) := by decide +kernel
theorem dX9_splits_267 : decode cX9_splits 267 = .ok (.aload_n 0, 1) := by decide +kernel
theorem dX9_splits_268 : decode cX9_splits 268 = .ok (.getfield 166, 3) := by decide +kernel
theorem dX9_splits_271 : decode cX9_splits 271 = .ok (.iload_n 1, 1) := by decide +kernel
theorem dX9_splits_272 : decode cX9_splits 272 = .ok (.iastore, 1) := by decide +kernel
theorem dX9_splits_273 : decode cX9_splits 273 = .ok (.aload_n 0, 1) := by decide +kernel
theorem dX9_splits_274 : decode cX9_splits 274 = .ok (.getfield 54, 3) := by decide +kernel
theorem dX9_splits_277 : decode cX9_splits 277 = .ok (.aload_n 0, 1) := by decide +kernel
theorem dX9_splits_278 : decode cX9_splits 278 = .ok (.getfield 166, 3) := by decide +kernel
theorem dX9_splits_281 : decode cX9_splits 281 = .ok (.iconst 0, 1) := by decide +kernel
theorem dX9_splits_282 : decode cX9_splits 282 = .ok (.iastore, 1) := by decide +kernel
theorem dX9_splits_283 : decode cX9_splits 283 = .ok (.aload_n 0, 1) := by decide +kernel
theorem dX9_splits_284 : decode cX9_splits 284 = .ok (.getfield 57, 3) := by decide +kernel
theorem dX9_splits_287 : decode cX9_splits 287 = .ok (.aload_n 0, 1) := by decide +kernel
theorem dX9_splits_288 : decode cX9_splits 288 = .ok (.getfield 166, 3) := by decide +kernel
theorem dX9_splits_291 : decode cX9_splits 291 = .ok (.iconst 0, 1) := by decide +kernel
theorem dX9_splits_292 : decode cX9_splits 292 = .ok (.iastore, 1) := by decide +kernel
theorem dX9_splits_293 : decode cX9_splits 293 = .ok (.return_, 1) := by decide +kernel
theorem dX9_fine_0 : decode cX9_fine 0 = .ok (.aload_n 0, 1) := by decide +kernel
theorem dX9_fine_1 : decode cX9_fine 1 = .ok (.getfield 179, 3) := by decide +kernel
theorem dX9_fine_4 : decode cX9_fine 4 = .ok (.iconst (-1), 1) := by decide +kernel
theorem dX9_fine_5 : decode cX9_fine 5 = .ok (.if_icmp .ne 7, 3) := by decide +kernel
theorem dX9_fine_8 : decode cX9_fine 8 = .ok (.iconst 1, 1) := by decide +kernel
theorem dX9_fine_9 : decode cX9_fine 9 = .ok (.goto 4, 3) := by decide +kernel
theorem dX9_fine_12 : decode cX9_fine 12 = .ok (.iconst 0, 1) := by decide +kernel
theorem dX9_fine_13 : decode cX9_fine 13 = .ok (.ireturn, 1) := by decide +kernel
theorem dX9_faults_0 : decode cX9_faults 0 = .ok (.aload_n 0, 1) := by decide +kernel
theorem dX9_faults_1 : decode cX9_faults 1 = .ok (.invokevirtual 182, 3) := by decide +kernel
theorem dX9_faults_4 : decode cX9_faults 4 = .ok (.ifCond .eq 16, 3) := by decide +kernel
theorem dX9_faults_7 : decode cX9_faults 7 = .ok (.aload_n 0, 1) := by decide +kernel
theorem dX9_faults_8 : decode cX9_faults 8 = .ok (.aload_n 0, 1) := by decide +kernel
theorem dX9_faults_9 : decode cX9_faults 9 = .ok (.getfield 60, 3) := by decide +kernel
theorem dX9_faults_12 : decode cX9_faults 12 = .ok (.aload_n 0, 1) := by decide +kernel
theorem dX9_faults_13 : decode cX9_faults 13 = .ok (.getfield 186, 3) := by decide +kernel
theorem dX9_faults_16 : decode cX9_faults 16 = .ok (.iaload, 1) := by decide +kernel
theorem dX9_faults_17 : decode cX9_faults 17 = .ok (.putfield 179, 3) := by decide +kernel
theorem dX9_faults_20 : decode cX9_faults 20 = .ok (.return_, 1) := by decide +kernel
theorem dX9_takes0_0 : decode cX9_takes0 0 = .ok (.aload_n 0, 1) := by decide +kernel
theorem dX9_takes0_1 : decode cX9_takes0 1 = .ok (.invokevirtual 182, 3) := by decide +kernel
theorem dX9_takes0_4 : decode cX9_takes0 4 = .ok (.ifCond .eq 20, 3) := by decide +kernel
theorem dX9_takes0_7 : decode cX9_takes0 7 = .ok (.aload_n 0, 1) := by decide +kernel
theorem dX9_takes0_8 : decode cX9_takes0 8 = .ok (.getfield 54, 3) := by decide +kernel
theorem dX9_takes0_11 : decode cX9_takes0 11 = .ok (.aload_n 0, 1) := by decide +kernel
theorem dX9_takes0_12 : decode cX9_takes0 12 = .ok (.getfield 186, 3) := by decide +kernel
theorem dX9_takes0_15 : decode cX9_takes0 15 = .ok (.iaload, 1) := by decide +kernel
theorem dX9_takes0_16 : decode cX9_takes0 16 = .ok (.iload_n 1, 1) := by decide +kernel
theorem dX9_takes0_17 : decode cX9_takes0 17 = .ok (.if_icmp .ne 7, 3) := by decide +kernel
theorem dX9_takes0_20 : decode cX9_takes0 20 = .ok (.iconst 1, 1) := by decide +kernel
theorem dX9_takes0_21 : decode cX9_takes0 21 = .ok (.goto 4, 3) := by decide +kernel
theorem dX9_takes0_24 : decode cX9_takes0 24 = .ok (.iconst 0, 1) := by decide +kernel
theorem dX9_takes0_25 : decode cX9_takes0 25 = .ok (.istore_n 2, 1) := by decide +kernel
theorem dX9_takes0_26 : decode cX9_takes0 26 = .ok (.iload_n 2, 1) := by decide +kernel
theorem dX9_takes0_27 : decode cX9_takes0 27 = .ok (.ifCond .eq 13, 3) := by decide +kernel
theorem dX9_takes0_30 : decode cX9_takes0 30 = .ok (.aload_n 0, 1) := by decide +kernel
theorem dX9_takes0_31 : decode cX9_takes0 31 = .ok (.dup, 1) := by decide +kernel
theorem dX9_takes0_32 : decode cX9_takes0 32 = .ok (.getfield 186, 3) := by decide +kernel
theorem dX9_takes0_35 : decode cX9_takes0 35 = .ok (.iconst 1, 1) := by decide +kernel
theorem dX9_takes0_36 : decode cX9_takes0 36 = .ok (.iadd, 1) := by decide +kernel
theorem dX9_takes0_37 : decode cX9_takes0 37 = .ok (.putfield 186, 3) := by decide +kernel
theorem dX9_takes0_40 : decode cX9_takes0 40 = .ok (.iload_n 2, 1) := by decide +kernel
theorem dX9_takes0_41 : decode cX9_takes0 41 = .ok (.ireturn, 1) := by decide +kernel
theorem dX9_must_0 : decode cX9_must 0 = .ok (.aload_n 0, 1) := by decide +kernel
theorem dX9_must_1 : decode cX9_must 1 = .ok (.iload_n 1, 1) := by decide +kernel
theorem dX9_must_2 : decode cX9_must 2 = .ok (.invokevirtual 189, 3) := by decide +kernel
theorem dX9_must_5 : decode cX9_must 5 = .ok (.ifCond .ne 7, 3) := by decide +kernel
theorem dX9_must_8 : decode cX9_must 8 = .ok (.aload_n 0, 1) := by decide +kernel
theorem dX9_must_9 : decode cX9_must 9 = .ok (.invokevirtual 192, 3) := by decide +kernel
theorem dX9_must_12 : decode cX9_must 12 = .ok (.return_, 1) := by decide +kernel
theorem dX9_leaf_0 : decode cX9_leaf 0 = .ok (.aload_n 0, 1) := by decide +kernel
theorem dX9_leaf_1 : decode cX9_leaf 1 = .ok (.getfield 195, 3) := by decide +kernel
theorem dX9_leaf_4 : decode cX9_leaf 4 = .ok (.bipush 50, 2) := by decide +kernel
theorem dX9_leaf_6 : decode cX9_leaf 6 = .ok (.if_icmp .ne 7, 3) := by decide +kernel
theorem dX9_leaf_9 : decode cX9_leaf 9 = .ok (.aload_n 0, 1) := by decide +kernel
theorem dX9_leaf_10 : decode cX9_leaf 10 = .ok (.invokevirtual 192, 3) := by decide +kernel
theorem dX9_leaf_13 : decode cX9_leaf 13 = .ok (.aload_n 0, 1) := by decide +kernel
theorem dX9_leaf_14 : decode cX9_leaf 14 = .ok (.dup, 1) := by decide +kernel
theorem dX9_leaf_15 : decode cX9_leaf 15 = .ok (.getfield 195, 3) := by decide +kernel
theorem dX9_leaf_18 : decode cX9_leaf 18 = .ok (.iconst 1, 1) := by decide +kernel
theorem dX9_leaf_19 : decode cX9_leaf 19 = .ok (.iadd, 1) := by decide +kernel
theorem dX9_leaf_20 : decode cX9_leaf 20 = .ok (.putfield 195, 3) := by decide +kernel
theorem dX9_leaf_23 : decode cX9_leaf 23 = .ok (.aload_n 0, 1) := by decide +kernel
theorem dX9_leaf_24 : decode cX9_leaf 24 = .ok (.invokevirtual 182, 3) := by decide +kernel
theorem dX9_leaf_27 : decode cX9_leaf 27 = .ok (.ifCond .eq 13, 3) := by decide +kernel
theorem dX9_leaf_30 : decode cX9_leaf 30 = .ok (.aload_n 0, 1) := by decide +kernel
theorem dX9_leaf_31 : decode cX9_leaf 31 = .ok (.dup, 1) := by decide +kernel
theorem dX9_leaf_32 : decode cX9_leaf 32 = .ok (.getfield 186, 3) := by decide +kernel
theorem dX9_leaf_35 : decode cX9_leaf 35 = .ok (.iconst 1, 1) := by decide +kernel
theorem dX9_leaf_36 : decode cX9_leaf 36 = .ok (.iadd, 1) := by decide +kernel
theorem dX9_leaf_37 : decode cX9_leaf 37 = .ok (.putfield 186, 3) := by decide +kernel
theorem dX9_leaf_40 : decode cX9_leaf 40 = .ok (.return_, 1) := by decide +kernel
theorem dX9_sign_0 : decode cX9_sign 0 = .ok (.bipush 100, 2) := by decide +kernel
theorem dX9_sign_2 : decode cX9_sign 2 = .ok (.iload_n 0, 1) := by decide +kernel
theorem dX9_sign_3 : decode cX9_sign 3 = .ok (.iadd, 1) := by decide +kernel
theorem dX9_sign_4 : decode cX9_sign 4 = .ok (.ireturn, 1) := by decide +kernel
theorem dX9_mustNumber_0 : decode cX9_mustNumber 0 = .ok (.aload_n 0, 1) := by decide +kernel
theorem dX9_mustNumber_1 : decode cX9_mustNumber 1 = .ok (.invokevirtual 182, 3) := by decide +kernel
theorem dX9_mustNumber_4 : decode cX9_mustNumber 4 = .ok (.ifCond .eq 38, 3) := by decide +kernel
theorem dX9_mustNumber_7 : decode cX9_mustNumber 7 = .ok (.aload_n 0, 1) := by decide +kernel
theorem dX9_mustNumber_8 : decode cX9_mustNumber 8 = .ok (.getfield 54, 3) := by decide +kernel
theorem dX9_mustNumber_11 : decode cX9_mustNumber 11 = .ok (.aload_n 0, 1) := by decide +kernel
theorem dX9_mustNumber_12 : decode cX9_mustNumber 12 = .ok (.getfield 186, 3) := by decide +kernel
theorem dX9_mustNumber_15 : decode cX9_mustNumber 15 = .ok (.iaload, 1) := by decide +kernel
theorem dX9_mustNumber_16 : decode cX9_mustNumber 16 = .ok (.bipush 50, 2) := by decide +kernel
theorem dX9_mustNumber_18 : decode cX9_mustNumber 18 = .ok (.if_icmp .ne 20, 3) := by decide +kernel
theorem dX9_mustNumber_21 : decode cX9_mustNumber 21 = .ok (.aload_n 0, 1) := by decide +kernel
theorem dX9_mustNumber_22 : decode cX9_mustNumber 22 = .ok (.getfield 57, 3) := by decide +kernel
theorem dX9_mustNumber_25 : decode cX9_mustNumber 25 = .ok (.aload_n 0, 1) := by decide +kernel
theorem dX9_mustNumber_26 : decode cX9_mustNumber 26 = .ok (.getfield 186, 3) := by decide +kernel
theorem dX9_mustNumber_29 : decode cX9_mustNumber 29 = .ok (.iaload, 1) := by decide +kernel
theorem dX9_mustNumber_30 : decode cX9_mustNumber 30 = .ok (.iload_n 1, 1) := by decide +kernel
theorem dX9_mustNumber_31 : decode cX9_mustNumber 31 = .ok (.iload_n 2, 1) := by decide +kernel
theorem dX9_mustNumber_32 : decode cX9_mustNumber 32 = .ok (.invokestatic 18, 3) := by decide +kernel
theorem dX9_mustNumber_35 : decode cX9_mustNumber 35 = .ok (.ifCond .ne 7, 3) := by decide +kernel
theorem dX9_mustNumber_38 : decode cX9_mustNumber 38 = .ok (.aload_n 0, 1) := by decide +kernel
theorem dX9_mustNumber_39 : decode cX9_mustNumber 39 = .ok (.invokevirtual 192, 3) := by decide +kernel
theorem dX9_mustNumber_42 : decode cX9_mustNumber 42 = .ok (.aload_n 0, 1) := by decide +kernel
theorem dX9_mustNumber_43 : decode cX9_mustNumber 43 = .ok (.invokevirtual 182, 3) := by decide +kernel
theorem dX9_mustNumber_46 : decode cX9_mustNumber 46 = .ok (.ifCond .eq 13, 3) := by decide +kernel
theorem dX9_mustNumber_49 : decode cX9_mustNumber 49 = .ok (.aload_n 0, 1) := by decide +kernel
theorem dX9_mustNumber_50 : decode cX9_mustNumber 50 = .ok (.dup, 1) := by decide +kernel
theorem dX9_mustNumber_51 : decode cX9_mustNumber 51 = .ok (.getfield 186, 3) := by decide +kernel
theorem dX9_mustNumber_54 : decode cX9_mustNumber 54 = .ok (.iconst 1, 1) := by decide +kernel
theorem dX9_mustNumber_55 : decode cX9_mustNumber 55 = .ok (.iadd, 1) := by decide +kernel
theorem dX9_mustNumber_56 : decode cX9_mustNumber 56 = .ok (.putfield 186, 3) := by decide +kernel
theorem dX9_mustNumber_59 : decode cX9_mustNumber 59 = .ok (.return_, 1) := by decide +kernel
theorem dX9_readClause_0 : decode cX9_readClause 0 = .ok (.aload_n 0, 1) := by decide +kernel
theorem dX9_readClause_1 : decode cX9_readClause 1 = .ok (.iconst 1, 1) := by decide +kernel
theorem dX9_readClause_2 : decode cX9_readClause 2 = .ok (.invokevirtual 189, 3) := by decide +kernel
theorem dX9_readClause_5 : decode cX9_readClause 5 = .ok (.ifCond .eq 11, 3) := by decide +kernel
theorem dX9_readClause_8 : decode cX9_readClause 8 = .ok (.aload_n 0, 1) := by decide +kernel
theorem dX9_readClause_9 : decode cX9_readClause 9 = .ok (.iconst 0, 1) := by decide +kernel
theorem dX9_readClause_10 : decode cX9_readClause 10 = .ok (.invokevirtual 198, 3) := by decide +kernel
theorem dX9_readClause_13 : decode cX9_readClause 13 = .ok (.goto 8, 3) := by decide +kernel
theorem dX9_readClause_16 : decode cX9_readClause 16 = .ok (.aload_n 0, 1) := by decide +kernel
theorem dX9_readClause_17 : decode cX9_readClause 17 = .ok (.iconst 2, 1) := by decide +kernel
theorem dX9_readClause_18 : decode cX9_readClause 18 = .ok (.invokevirtual 202, 3) := by decide +kernel
theorem dX9_readClause_21 : decode cX9_readClause 21 = .ok (.aload_n 0, 1) := by decide +kernel
theorem dX9_readClause_22 : decode cX9_readClause 22 = .ok (.iconst 3, 1) := by decide +kernel
theorem dX9_readClause_23 : decode cX9_readClause 23 = .ok (.invokevirtual 189, 3) := by decide +kernel
theorem dX9_readClause_26 : decode cX9_readClause 26 = .ok (.ifCond .eq 8, 3) := by decide +kernel
theorem dX9_readClause_29 : decode cX9_readClause 29 = .ok (.aload_n 0, 1) := by decide +kernel
theorem dX9_readClause_30 : decode cX9_readClause 30 = .ok (.iconst 0, 1) := by decide +kernel
theorem dX9_readClause_31 : decode cX9_readClause 31 = .ok (.invokevirtual 205, 3) := by decide +kernel
theorem dX9_readClause_34 : decode cX9_readClause 34 = .ok (.return_, 1) := by decide +kernel
theorem dX9_readOrder_0 : decode cX9_readOrder 0 = .ok (.aload_n 0, 1) := by decide +kernel
theorem dX9_readOrder_1 : decode cX9_readOrder 1 = .ok (.bipush 18, 2) := by decide +kernel
theorem dX9_readOrder_3 : decode cX9_readOrder 3 = .ok (.invokevirtual 189, 3) := by decide +kernel
theorem dX9_readOrder_6 : decode cX9_readOrder 6 = .ok (.ifCond .ne 30, 3) := by decide +kernel
theorem dX9_readOrder_9 : decode cX9_readOrder 9 = .ok (.aload_n 0, 1) := by decide +kernel
theorem dX9_readOrder_10 : decode cX9_readOrder 10 = .ok (.bipush 19, 2) := by decide +kernel
theorem dX9_readOrder_12 : decode cX9_readOrder 12 = .ok (.invokevirtual 189, 3) := by decide +kernel
theorem dX9_readOrder_15 : decode cX9_readOrder 15 = .ok (.ifCond .ne 21, 3) := by decide +kernel
theorem dX9_readOrder_18 : decode cX9_readOrder 18 = .ok (.aload_n 0, 1) := by decide +kernel
theorem dX9_readOrder_19 : decode cX9_readOrder 19 = .ok (.bipush 20, 2) := by decide +kernel
theorem dX9_readOrder_21 : decode cX9_readOrder 21 = .ok (.invokevirtual 189, 3) := by decide +kernel
theorem dX9_readOrder_24 : decode cX9_readOrder 24 = .ok (.ifCond .ne 12, 3) := by decide +kernel
theorem dX9_readOrder_27 : decode cX9_readOrder 27 = .ok (.aload_n 0, 1) := by decide +kernel
theorem dX9_readOrder_28 : decode cX9_readOrder 28 = .ok (.bipush 10, 2) := by decide +kernel
theorem dX9_readOrder_30 : decode cX9_readOrder 30 = .ok (.invokevirtual 189, 3) := by decide +kernel
theorem dX9_readOrder_33 : decode cX9_readOrder 33 = .ok (.ifCond .eq 11, 3) := by decide +kernel
theorem dX9_readOrder_36 : decode cX9_readOrder 36 = .ok (.aload_n 0, 1) := by decide +kernel
theorem dX9_readOrder_37 : decode cX9_readOrder 37 = .ok (.iconst 0, 1) := by decide +kernel
theorem dX9_readOrder_38 : decode cX9_readOrder 38 = .ok (.invokevirtual 198, 3) := by decide +kernel
theorem dX9_readOrder_41 : decode cX9_readOrder 41 = .ok (.goto 9, 3) := by decide +kernel
theorem dX9_readOrder_44 : decode cX9_readOrder 44 = .ok (.aload_n 0, 1) := by decide +kernel
theorem dX9_readOrder_45 : decode cX9_readOrder 45 = .ok (.bipush 21, 2) := by decide +kernel
theorem dX9_readOrder_47 : decode cX9_readOrder 47 = .ok (.invokevirtual 202, 3) := by decide +kernel
theorem dX9_readOrder_50 : decode cX9_readOrder 50 = .ok (.aload_n 0, 1) := by decide +kernel
theorem dX9_readOrder_51 : decode cX9_readOrder 51 = .ok (.bipush 22, 2) := by decide +kernel
theorem dX9_readOrder_53 : decode cX9_readOrder 53 = .ok (.invokevirtual 189, 3) := by decide +kernel
theorem dX9_readOrder_56 : decode cX9_readOrder 56 = .ok (.ifCond .eq 10, 3) := by decide +kernel
theorem dX9_readOrder_59 : decode cX9_readOrder 59 = .ok (.aload_n 0, 1) := by decide +kernel
theorem dX9_readOrder_60 : decode cX9_readOrder 60 = .ok (.iconst 1, 1) := by decide +kernel
theorem dX9_readOrder_61 : decode cX9_readOrder 61 = .ok (.bipush 20, 2) := by decide +kernel
theorem dX9_readOrder_63 : decode cX9_readOrder 63 = .ok (.invokevirtual 208, 3) := by decide +kernel
theorem dX9_readOrder_66 : decode cX9_readOrder 66 = .ok (.aload_n 0, 1) := by decide +kernel
theorem dX9_readOrder_67 : decode cX9_readOrder 67 = .ok (.iconst 3, 1) := by decide +kernel
theorem dX9_readOrder_68 : decode cX9_readOrder 68 = .ok (.invokevirtual 189, 3) := by decide +kernel
theorem dX9_readOrder_71 : decode cX9_readOrder 71 = .ok (.ifCond .eq 8, 3) := by decide +kernel
theorem dX9_readOrder_74 : decode cX9_readOrder 74 = .ok (.aload_n 0, 1) := by decide +kernel
theorem dX9_readOrder_75 : decode cX9_readOrder 75 = .ok (.iconst 0, 1) := by decide +kernel
theorem dX9_readOrder_76 : decode cX9_readOrder 76 = .ok (.invokevirtual 205, 3) := by decide +kernel
theorem dX9_readOrder_79 : decode cX9_readOrder 79 = .ok (.return_, 1) := by decide +kernel
theorem dX9_readOne_0 : decode cX9_readOne 0 = .ok (.aload_n 0, 1) := by decide +kernel
theorem dX9_readOne_1 : decode cX9_readOne 1 = .ok (.getfield 212, 3) := by decide +kernel
theorem dX9_readOne_4 : decode cX9_readOne 4 = .ok (.ifCond .eq 10, 3) := by decide +kernel
theorem dX9_readOne_7 : decode cX9_readOne 7 = .ok (.aload_n 0, 1) := by decide +kernel
theorem dX9_readOne_8 : decode cX9_readOne 8 = .ok (.invokevirtual 216, 3) := by decide +kernel
theorem dX9_readOne_11 : decode cX9_readOne 11 = .ok (.goto 7, 3) := by decide +kernel
theorem dX9_readOne_14 : decode cX9_readOne 14 = .ok (.aload_n 0, 1) := by decide +kernel
theorem dX9_readOne_15 : decode cX9_readOne 15 = .ok (.invokevirtual 219, 3) := by decide +kernel
theorem dX9_readOne_18 : decode cX9_readOne 18 = .ok (.return_, 1) := by decide +kernel
theorem dX9_readTest_0 : decode cX9_readTest 0 = .ok (.aload_n 0, 1) := by decide +kernel
theorem dX9_readTest_1 : decode cX9_readTest 1 = .ok (.iload_n 1, 1) := by decide +kernel
theorem dX9_readTest_2 : decode cX9_readTest 2 = .ok (.invokevirtual 222, 3) := by decide +kernel
theorem dX9_readTest_5 : decode cX9_readTest 5 = .ok (.aload_n 0, 1) := by decide +kernel
theorem dX9_readTest_6 : decode cX9_readTest 6 = .ok (.iconst 4, 1) := by decide +kernel
theorem dX9_readTest_7 : decode cX9_readTest 7 = .ok (.invokevirtual 189, 3) := by decide +kernel
theorem dX9_readTest_10 : decode cX9_readTest 10 = .ok (.ifCond .eq 11, 3) := by decide +kernel
theorem dX9_readTest_13 : decode cX9_readTest 13 = .ok (.aload_n 0, 1) := by decide +kernel
theorem dX9_readTest_14 : decode cX9_readTest 14 = .ok (.iload_n 1, 1) := by decide +kernel
theorem dX9_readTest_15 : decode cX9_readTest 15 = .ok (.invokevirtual 222, 3) := by decide +kernel
theorem dX9_readTest_18 : decode cX9_readTest 18 = .ok (.goto (-13), 3) := by decide +kernel
theorem dX9_readTest_21 : decode cX9_readTest 21 = .ok (.return_, 1) := by decide +kernel
theorem dX9_readBoth_0 : decode cX9_readBoth 0 = .ok (.aload_n 0, 1) := by decide +kernel
theorem dX9_readBoth_1 : decode cX9_readBoth 1 = .ok (.iload_n 1, 1) := by decide +kernel
theorem dX9_readBoth_2 : decode cX9_readBoth 2 = .ok (.invokevirtual 225, 3) := by decide +kernel
theorem dX9_readBoth_5 : decode cX9_readBoth 5 = .ok (.aload_n 0, 1) := by decide +kernel
theorem dX9_readBoth_6 : decode cX9_readBoth 6 = .ok (.iconst 5, 1) := by decide +kernel
theorem dX9_readBoth_7 : decode cX9_readBoth 7 = .ok (.invokevirtual 189, 3) := by decide +kernel
theorem dX9_readBoth_10 : decode cX9_readBoth 10 = .ok (.ifCond .eq 11, 3) := by decide +kernel
theorem dX9_readBoth_13 : decode cX9_readBoth 13 = .ok (.aload_n 0, 1) := by decide +kernel
theorem dX9_readBoth_14 : decode cX9_readBoth 14 = .ok (.iload_n 1, 1) := by decide +kernel
theorem dX9_readBoth_15 : decode cX9_readBoth 15 = .ok (.invokevirtual 225, 3) := by decide +kernel
theorem dX9_readBoth_18 : decode cX9_readBoth 18 = .ok (.goto (-13), 3) := by decide +kernel
theorem dX9_readBoth_21 : decode cX9_readBoth 21 = .ok (.return_, 1) := by decide +kernel
theorem dX9_readPlain_0 : decode cX9_readPlain 0 = .ok (.iconst 1, 1) := by decide +kernel
theorem dX9_readPlain_1 : decode cX9_readPlain 1 = .ok (.istore_n 2, 1) := by decide +kernel
theorem dX9_readPlain_2 : decode cX9_readPlain 2 = .ok (.iload_n 2, 1) := by decide +kernel
theorem dX9_readPlain_3 : decode cX9_readPlain 3 = .ok (.ifCond .eq 13, 3) := by decide +kernel
theorem dX9_readPlain_6 : decode cX9_readPlain 6 = .ok (.aload_n 0, 1) := by decide +kernel
theorem dX9_readPlain_7 : decode cX9_readPlain 7 = .ok (.bipush 6, 2) := by decide +kernel
theorem dX9_readPlain_9 : decode cX9_readPlain 9 = .ok (.invokevirtual 189, 3) := by decide +kernel
theorem dX9_readPlain_12 : decode cX9_readPlain 12 = .ok (.istore_n 2, 1) := by decide +kernel
theorem dX9_readPlain_13 : decode cX9_readPlain 13 = .ok (.goto (-11), 3) := by decide +kernel
theorem dX9_readPlain_16 : decode cX9_readPlain 16 = .ok (.aload_n 0, 1) := by decide +kernel
theorem dX9_readPlain_17 : decode cX9_readPlain 17 = .ok (.invokevirtual 182, 3) := by decide +kernel
theorem dX9_readPlain_20 : decode cX9_readPlain 20 = .ok (.ifCond .ne 4, 3) := by decide +kernel
theorem dX9_readPlain_23 : decode cX9_readPlain 23 = .ok (.return_, 1) := by decide +kernel
theorem dX9_readPlain_24 : decode cX9_readPlain 24 = .ok (.aload_n 0, 1) := by decide +kernel
theorem dX9_readPlain_25 : decode cX9_readPlain 25 = .ok (.getfield 54, 3) := by decide +kernel
theorem dX9_readPlain_28 : decode cX9_readPlain 28 = .ok (.aload_n 0, 1) := by decide +kernel
theorem dX9_readPlain_29 : decode cX9_readPlain 29 = .ok (.getfield 186, 3) := by decide +kernel
theorem dX9_readPlain_32 : decode cX9_readPlain 32 = .ok (.iaload, 1) := by decide +kernel
theorem dX9_readPlain_33 : decode cX9_readPlain 33 = .ok (.istore_n 3, 1) := by decide +kernel
theorem dX9_readPlain_34 : decode cX9_readPlain 34 = .ok (.iload_n 3, 1) := by decide +kernel
theorem dX9_readPlain_35 : decode cX9_readPlain 35 = .ok (.bipush 40, 2) := by decide +kernel
theorem dX9_readPlain_37 : decode cX9_readPlain 37 = .ok (.invokestatic 228, 3) := by decide +kernel
theorem dX9_readPlain_40 : decode cX9_readPlain 40 = .ok (.if_icmp .ne 50, 3) := by decide +kernel
theorem dX9_readPlain_43 : decode cX9_readPlain 43 = .ok (.iload_n 1, 1) := by decide +kernel
theorem dX9_readPlain_44 : decode cX9_readPlain 44 = .ok (.bipush 8, 2) := by decide +kernel
theorem dX9_readPlain_46 : decode cX9_readPlain 46 = .ok (.if_icmp .ne 7, 3) := by decide +kernel
theorem dX9_readPlain_49 : decode cX9_readPlain 49 = .ok (.aload_n 0, 1) := by decide +kernel
theorem dX9_readPlain_50 : decode cX9_readPlain 50 = .ok (.invokevirtual 192, 3) := by decide +kernel
theorem dX9_readPlain_53 : decode cX9_readPlain 53 = .ok (.aload_n 0, 1) := by decide +kernel
theorem dX9_readPlain_54 : decode cX9_readPlain 54 = .ok (.invokevirtual 182, 3) := by decide +kernel
theorem dX9_readPlain_57 : decode cX9_readPlain 57 = .ok (.ifCond .ne 4, 3) := by decide +kernel
theorem dX9_readPlain_60 : decode cX9_readPlain 60 = .ok (.return_, 1) := by decide +kernel
theorem dX9_readPlain_61 : decode cX9_readPlain 61 = .ok (.aload_n 0, 1) := by decide +kernel
theorem dX9_readPlain_62 : decode cX9_readPlain 62 = .ok (.dup, 1) := by decide +kernel
theorem dX9_readPlain_63 : decode cX9_readPlain 63 = .ok (.getfield 186, 3) := by decide +kernel
theorem dX9_readPlain_66 : decode cX9_readPlain 66 = .ok (.iconst 1, 1) := by decide +kernel
theorem dX9_readPlain_67 : decode cX9_readPlain 67 = .ok (.iadd, 1) := by decide +kernel
theorem dX9_readPlain_68 : decode cX9_readPlain 68 = .ok (.putfield 186, 3) := by decide +kernel
theorem dX9_readPlain_71 : decode cX9_readPlain 71 = .ok (.aload_n 0, 1) := by decide +kernel
theorem dX9_readPlain_72 : decode cX9_readPlain 72 = .ok (.iload_n 1, 1) := by decide +kernel
theorem dX9_readPlain_73 : decode cX9_readPlain 73 = .ok (.iconst 1, 1) := by decide +kernel
theorem dX9_readPlain_74 : decode cX9_readPlain 74 = .ok (.iadd, 1) := by decide +kernel
theorem dX9_readPlain_75 : decode cX9_readPlain 75 = .ok (.invokevirtual 205, 3) := by decide +kernel
theorem dX9_readPlain_78 : decode cX9_readPlain 78 = .ok (.aload_n 0, 1) := by decide +kernel
theorem dX9_readPlain_79 : decode cX9_readPlain 79 = .ok (.bipush 41, 2) := by decide +kernel
theorem dX9_readPlain_81 : decode cX9_readPlain 81 = .ok (.invokestatic 228, 3) := by decide +kernel
theorem dX9_readPlain_84 : decode cX9_readPlain 84 = .ok (.invokevirtual 202, 3) := by decide +kernel
theorem dX9_readPlain_87 : decode cX9_readPlain 87 = .ok (.goto 46, 3) := by decide +kernel
theorem dX9_readPlain_90 : decode cX9_readPlain 90 = .ok (.aload_n 0, 1) := by decide +kernel
theorem dX9_readPlain_91 : decode cX9_readPlain 91 = .ok (.iload_n 1, 1) := by decide +kernel
theorem dX9_readPlain_92 : decode cX9_readPlain 92 = .ok (.invokevirtual 198, 3) := by decide +kernel
theorem dX9_readPlain_95 : decode cX9_readPlain 95 = .ok (.aload_n 0, 1) := by decide +kernel
theorem dX9_readPlain_96 : decode cX9_readPlain 96 = .ok (.bipush 60, 2) := by decide +kernel
theorem dX9_readPlain_98 : decode cX9_readPlain 98 = .ok (.invokestatic 228, 3) := by decide +kernel
theorem dX9_readPlain_101 : decode cX9_readPlain 101 = .ok (.invokevirtual 189, 3) := by decide +kernel
theorem dX9_readPlain_104 : decode cX9_readPlain 104 = .ok (.ifCond .ne 24, 3) := by decide +kernel
theorem dX9_readPlain_107 : decode cX9_readPlain 107 = .ok (.aload_n 0, 1) := by decide +kernel
theorem dX9_readPlain_108 : decode cX9_readPlain 108 = .ok (.bipush 62, 2) := by decide +kernel
theorem dX9_readPlain_110 : decode cX9_readPlain 110 = .ok (.invokestatic 228, 3) := by decide +kernel
theorem dX9_readPlain_113 : decode cX9_readPlain 113 = .ok (.invokevirtual 189, 3) := by decide +kernel
theorem dX9_readPlain_116 : decode cX9_readPlain 116 = .ok (.ifCond .ne 12, 3) := by decide +kernel
theorem dX9_readPlain_119 : decode cX9_readPlain 119 = .ok (.aload_n 0, 1) := by decide +kernel
theorem dX9_readPlain_120 : decode cX9_readPlain 120 = .ok (.bipush 61, 2) := by decide +kernel
theorem dX9_readPlain_122 : decode cX9_readPlain 122 = .ok (.invokestatic 228, 3) := by decide +kernel
theorem dX9_readPlain_125 : decode cX9_readPlain 125 = .ok (.invokevirtual 202, 3) := by decide +kernel
theorem dX9_readPlain_128 : decode cX9_readPlain 128 = .ok (.aload_n 0, 1) := by decide +kernel
theorem dX9_readPlain_129 : decode cX9_readPlain 129 = .ok (.iload_n 1, 1) := by decide +kernel
theorem dX9_readPlain_130 : decode cX9_readPlain 130 = .ok (.invokevirtual 198, 3) := by decide +kernel
theorem dX9_readPlain_133 : decode cX9_readPlain 133 = .ok (.return_, 1) := by decide +kernel
theorem dX9_readSum_0 : decode cX9_readSum 0 = .ok (.aload_n 0, 1) := by decide +kernel
theorem dX9_readSum_1 : decode cX9_readSum 1 = .ok (.iload_n 1, 1) := by decide +kernel
theorem dX9_readSum_2 : decode cX9_readSum 2 = .ok (.invokevirtual 232, 3) := by decide +kernel
theorem dX9_readSum_5 : decode cX9_readSum 5 = .ok (.aload_n 0, 1) := by decide +kernel
theorem dX9_readSum_6 : decode cX9_readSum 6 = .ok (.bipush 43, 2) := by decide +kernel
theorem dX9_readSum_8 : decode cX9_readSum 8 = .ok (.invokestatic 228, 3) := by decide +kernel
theorem dX9_readSum_11 : decode cX9_readSum 11 = .ok (.invokevirtual 189, 3) := by decide +kernel
theorem dX9_readSum_14 : decode cX9_readSum 14 = .ok (.ifCond .ne 15, 3) := by decide +kernel
theorem dX9_readSum_17 : decode cX9_readSum 17 = .ok (.aload_n 0, 1) := by decide +kernel
theorem dX9_readSum_18 : decode cX9_readSum 18 = .ok (.bipush 45, 2) := by decide +kernel
theorem dX9_readSum_20 : decode cX9_readSum 20 = .ok (.invokestatic 228, 3) := by decide +kernel
theorem dX9_readSum_23 : decode cX9_readSum 23 = .ok (.invokevirtual 189, 3) := by decide +kernel
theorem dX9_readSum_26 : decode cX9_readSum 26 = .ok (.ifCond .eq 11, 3) := by decide +kernel
theorem dX9_readSum_29 : decode cX9_readSum 29 = .ok (.aload_n 0, 1) := by decide +kernel
theorem dX9_readSum_30 : decode cX9_readSum 30 = .ok (.iload_n 1, 1) := by decide +kernel
theorem dX9_readSum_31 : decode cX9_readSum 31 = .ok (.invokevirtual 232, 3) := by decide +kernel
theorem dX9_readSum_34 : decode cX9_readSum 34 = .ok (.goto (-29), 3) := by decide +kernel
theorem dX9_readSum_37 : decode cX9_readSum 37 = .ok (.return_, 1) := by decide +kernel
theorem dX9_readTerm_0 : decode cX9_readTerm 0 = .ok (.aload_n 0, 1) := by decide +kernel
theorem dX9_readTerm_1 : decode cX9_readTerm 1 = .ok (.iload_n 1, 1) := by decide +kernel
theorem dX9_readTerm_2 : decode cX9_readTerm 2 = .ok (.invokevirtual 235, 3) := by decide +kernel
theorem dX9_readTerm_5 : decode cX9_readTerm 5 = .ok (.aload_n 0, 1) := by decide +kernel
theorem dX9_readTerm_6 : decode cX9_readTerm 6 = .ok (.bipush 42, 2) := by decide +kernel
theorem dX9_readTerm_8 : decode cX9_readTerm 8 = .ok (.invokestatic 228, 3) := by decide +kernel
theorem dX9_readTerm_11 : decode cX9_readTerm 11 = .ok (.invokevirtual 189, 3) := by decide +kernel
theorem dX9_readTerm_14 : decode cX9_readTerm 14 = .ok (.ifCond .ne 27, 3) := by decide +kernel
theorem dX9_readTerm_17 : decode cX9_readTerm 17 = .ok (.aload_n 0, 1) := by decide +kernel
theorem dX9_readTerm_18 : decode cX9_readTerm 18 = .ok (.bipush 47, 2) := by decide +kernel
theorem dX9_readTerm_20 : decode cX9_readTerm 20 = .ok (.invokestatic 228, 3) := by decide +kernel
theorem dX9_readTerm_23 : decode cX9_readTerm 23 = .ok (.invokevirtual 189, 3) := by decide +kernel
theorem dX9_readTerm_26 : decode cX9_readTerm 26 = .ok (.ifCond .ne 15, 3) := by decide +kernel
theorem dX9_readTerm_29 : decode cX9_readTerm 29 = .ok (.aload_n 0, 1) := by decide +kernel
theorem dX9_readTerm_30 : decode cX9_readTerm 30 = .ok (.bipush 37, 2) := by decide +kernel
theorem dX9_readTerm_32 : decode cX9_readTerm 32 = .ok (.invokestatic 228, 3) := by decide +kernel
theorem dX9_readTerm_35 : decode cX9_readTerm 35 = .ok (.invokevirtual 189, 3) := by decide +kernel
theorem dX9_readTerm_38 : decode cX9_readTerm 38 = .ok (.ifCond .eq 11, 3) := by decide +kernel
theorem dX9_readTerm_41 : decode cX9_readTerm 41 = .ok (.aload_n 0, 1) := by decide +kernel
theorem dX9_readTerm_42 : decode cX9_readTerm 42 = .ok (.iload_n 1, 1) := by decide +kernel
theorem dX9_readTerm_43 : decode cX9_readTerm 43 = .ok (.invokevirtual 235, 3) := by decide +kernel
theorem dX9_readTerm_46 : decode cX9_readTerm 46 = .ok (.goto (-41), 3) := by decide +kernel
theorem dX9_readTerm_49 : decode cX9_readTerm 49 = .ok (.return_, 1) := by decide +kernel
theorem dX9_readPart_0 : decode cX9_readPart 0 = .ok (.aload_n 0, 1) := by decide +kernel
theorem dX9_readPart_1 : decode cX9_readPart 1 = .ok (.invokevirtual 182, 3) := by decide +kernel
theorem dX9_readPart_4 : decode cX9_readPart 4 = .ok (.ifCond .ne 4, 3) := by decide +kernel
theorem dX9_readPart_7 : decode cX9_readPart 7 = .ok (.return_, 1) := by decide +kernel
theorem dX9_readPart_8 : decode cX9_readPart 8 = .ok (.aload_n 0, 1) := by decide +kernel
theorem dX9_readPart_9 : decode cX9_readPart 9 = .ok (.getfield 54, 3) := by decide +kernel
theorem dX9_readPart_12 : decode cX9_readPart 12 = .ok (.aload_n 0, 1) := by decide +kernel
theorem dX9_readPart_13 : decode cX9_readPart 13 = .ok (.getfield 186, 3) := by decide +kernel
theorem dX9_readPart_16 : decode cX9_readPart 16 = .ok (.iaload, 1) := by decide +kernel
theorem dX9_readPart_17 : decode cX9_readPart 17 = .ok (.istore_n 2, 1) := by decide +kernel
theorem dX9_readPart_18 : decode cX9_readPart 18 = .ok (.iload_n 2, 1) := by decide +kernel
theorem dX9_readPart_19 : decode cX9_readPart 19 = .ok (.bipush 91, 2) := by decide +kernel
theorem dX9_readPart_21 : decode cX9_readPart 21 = .ok (.invokestatic 228, 3) := by decide +kernel
theorem dX9_readPart_24 : decode cX9_readPart 24 = .ok (.if_icmp .ne 50, 3) := by decide +kernel
theorem dX9_readPart_27 : decode cX9_readPart 27 = .ok (.iload_n 1, 1) := by decide +kernel
theorem dX9_readPart_28 : decode cX9_readPart 28 = .ok (.bipush 8, 2) := by decide +kernel
theorem dX9_readPart_30 : decode cX9_readPart 30 = .ok (.if_icmp .ne 7, 3) := by decide +kernel
theorem dX9_readPart_33 : decode cX9_readPart 33 = .ok (.aload_n 0, 1) := by decide +kernel
theorem dX9_readPart_34 : decode cX9_readPart 34 = .ok (.invokevirtual 192, 3) := by decide +kernel
theorem dX9_readPart_37 : decode cX9_readPart 37 = .ok (.aload_n 0, 1) := by decide +kernel
theorem dX9_readPart_38 : decode cX9_readPart 38 = .ok (.invokevirtual 182, 3) := by decide +kernel
theorem dX9_readPart_41 : decode cX9_readPart 41 = .ok (.ifCond .ne 4, 3) := by decide +kernel
theorem dX9_readPart_44 : decode cX9_readPart 44 = .ok (.return_, 1) := by decide +kernel
theorem dX9_readPart_45 : decode cX9_readPart 45 = .ok (.aload_n 0, 1) := by decide +kernel
theorem dX9_readPart_46 : decode cX9_readPart 46 = .ok (.dup, 1) := by decide +kernel
theorem dX9_readPart_47 : decode cX9_readPart 47 = .ok (.getfield 186, 3) := by decide +kernel
theorem dX9_readPart_50 : decode cX9_readPart 50 = .ok (.iconst 1, 1) := by decide +kernel
theorem dX9_readPart_51 : decode cX9_readPart 51 = .ok (.iadd, 1) := by decide +kernel
theorem dX9_readPart_52 : decode cX9_readPart 52 = .ok (.putfield 186, 3) := by decide +kernel
theorem dX9_readPart_55 : decode cX9_readPart 55 = .ok (.aload_n 0, 1) := by decide +kernel
theorem dX9_readPart_56 : decode cX9_readPart 56 = .ok (.iload_n 1, 1) := by decide +kernel
theorem dX9_readPart_57 : decode cX9_readPart 57 = .ok (.iconst 1, 1) := by decide +kernel
theorem dX9_readPart_58 : decode cX9_readPart 58 = .ok (.iadd, 1) := by decide +kernel
theorem dX9_readPart_59 : decode cX9_readPart 59 = .ok (.invokevirtual 198, 3) := by decide +kernel
theorem dX9_readPart_62 : decode cX9_readPart 62 = .ok (.aload_n 0, 1) := by decide +kernel
theorem dX9_readPart_63 : decode cX9_readPart 63 = .ok (.bipush 93, 2) := by decide +kernel
theorem dX9_readPart_65 : decode cX9_readPart 65 = .ok (.invokestatic 228, 3) := by decide +kernel
theorem dX9_readPart_68 : decode cX9_readPart 68 = .ok (.invokevirtual 202, 3) := by decide +kernel
theorem dX9_readPart_71 : decode cX9_readPart 71 = .ok (.goto 92, 3) := by decide +kernel
theorem dX9_readPart_74 : decode cX9_readPart 74 = .ok (.iload_n 2, 1) := by decide +kernel
theorem dX9_readPart_75 : decode cX9_readPart 75 = .ok (.bipush 50, 2) := by decide +kernel
theorem dX9_readPart_77 : decode cX9_readPart 77 = .ok (.if_icmp .ne 18, 3) := by decide +kernel
theorem dX9_readPart_80 : decode cX9_readPart 80 = .ok (.aload_n 0, 1) := by decide +kernel
theorem dX9_readPart_81 : decode cX9_readPart 81 = .ok (.getfield 57, 3) := by decide +kernel
theorem dX9_readPart_84 : decode cX9_readPart 84 = .ok (.aload_n 0, 1) := by decide +kernel
theorem dX9_readPart_85 : decode cX9_readPart 85 = .ok (.getfield 186, 3) := by decide +kernel
theorem dX9_readPart_88 : decode cX9_readPart 88 = .ok (.iaload, 1) := by decide +kernel
theorem dX9_readPart_89 : decode cX9_readPart 89 = .ok (.sipush 1000, 3) := by decide +kernel
theorem dX9_readPart_92 : decode cX9_readPart 92 = .ok (.if_icmp .le 19, 3) := by decide +kernel
theorem dX9_readPart_95 : decode cX9_readPart 95 = .ok (.iload_n 2, 1) := by decide +kernel
theorem dX9_readPart_96 : decode cX9_readPart 96 = .ok (.aload_n 0, 1) := by decide +kernel
theorem dX9_readPart_97 : decode cX9_readPart 97 = .ok (.getfield 238, 3) := by decide +kernel
theorem dX9_readPart_100 : decode cX9_readPart 100 = .ok (.if_icmp .lt 59, 3) := by decide +kernel
theorem dX9_readPart_103 : decode cX9_readPart 103 = .ok (.iload_n 2, 1) := by decide +kernel
theorem dX9_readPart_104 : decode cX9_readPart 104 = .ok (.aload_n 0, 1) := by decide +kernel
theorem dX9_readPart_105 : decode cX9_readPart 105 = .ok (.getfield 241, 3) := by decide +kernel
theorem dX9_readPart_108 : decode cX9_readPart 108 = .ok (.if_icmp .gt 51, 3) := by decide +kernel
theorem dX9_readPart_111 : decode cX9_readPart 111 = .ok (.aload_n 0, 1) := by decide +kernel
theorem dX9_readPart_112 : decode cX9_readPart 112 = .ok (.invokevirtual 244, 3) := by decide +kernel
theorem dX9_readPart_115 : decode cX9_readPart 115 = .ok (.aload_n 0, 1) := by decide +kernel
theorem dX9_readPart_116 : decode cX9_readPart 116 = .ok (.getfield 212, 3) := by decide +kernel
theorem dX9_readPart_119 : decode cX9_readPart 119 = .ok (.ifCond .eq 16, 3) := by decide +kernel
theorem dX9_readPart_122 : decode cX9_readPart 122 = .ok (.iload_n 2, 1) := by decide +kernel
theorem dX9_readPart_123 : decode cX9_readPart 123 = .ok (.bipush 12, 2) := by decide +kernel
theorem dX9_readPart_125 : decode cX9_readPart 125 = .ok (.if_icmp .ne 10, 3) := by decide +kernel
theorem dX9_readPart_128 : decode cX9_readPart 128 = .ok (.aload_n 0, 1) := by decide +kernel
theorem dX9_readPart_129 : decode cX9_readPart 129 = .ok (.iconst 0, 1) := by decide +kernel
theorem dX9_readPart_130 : decode cX9_readPart 130 = .ok (.bipush 59, 2) := by decide +kernel
theorem dX9_readPart_132 : decode cX9_readPart 132 = .ok (.invokevirtual 208, 3) := by decide +kernel
theorem dX9_readPart_135 : decode cX9_readPart 135 = .ok (.aload_n 0, 1) := by decide +kernel
theorem dX9_readPart_136 : decode cX9_readPart 136 = .ok (.getfield 212, 3) := by decide +kernel
theorem dX9_readPart_139 : decode cX9_readPart 139 = .ok (.ifCond .eq 24, 3) := by decide +kernel
theorem dX9_readPart_142 : decode cX9_readPart 142 = .ok (.iload_n 2, 1) := by decide +kernel
theorem dX9_readPart_143 : decode cX9_readPart 143 = .ok (.bipush 17, 2) := by decide +kernel
theorem dX9_readPart_145 : decode cX9_readPart 145 = .ok (.if_icmp .ne 18, 3) := by decide +kernel
theorem dX9_readPart_148 : decode cX9_readPart 148 = .ok (.aload_n 0, 1) := by decide +kernel
theorem dX9_readPart_149 : decode cX9_readPart 149 = .ok (.iconst 0, 1) := by decide +kernel
theorem dX9_readPart_150 : decode cX9_readPart 150 = .ok (.sipush 999, 3) := by decide +kernel
theorem dX9_readPart_153 : decode cX9_readPart 153 = .ok (.invokevirtual 208, 3) := by decide +kernel
theorem dX9_readPart_156 : decode cX9_readPart 156 = .ok (.goto 7, 3) := by decide +kernel
theorem dX9_readPart_159 : decode cX9_readPart 159 = .ok (.aload_n 0, 1) := by decide +kernel
theorem dX9_readPart_160 : decode cX9_readPart 160 = .ok (.invokevirtual 192, 3) := by decide +kernel
theorem dX9_readPart_163 : decode cX9_readPart 163 = .ok (.return_, 1) := by decide +kernel
theorem dX9_reads_0 : decode cX9_reads 0 = .ok (.aload_n 0, 1) := by decide +kernel
theorem dX9_reads_1 : decode cX9_reads 1 = .ok (.aload_n 0, 1) := by decide +kernel
theorem dX9_reads_2 : decode cX9_reads 2 = .ok (.getfield 157, 3) := by decide +kernel
theorem dX9_reads_5 : decode cX9_reads 5 = .ok (.invokevirtual 247, 3) := by decide +kernel
theorem dX9_reads_8 : decode cX9_reads 8 = .ok (.aload_n 0, 1) := by decide +kernel
theorem dX9_reads_9 : decode cX9_reads 9 = .ok (.iconst 0, 1) := by decide +kernel
theorem dX9_reads_10 : decode cX9_reads 10 = .ok (.putfield 157, 3) := by decide +kernel
theorem dX9_reads_13 : decode cX9_reads 13 = .ok (.aload_n 0, 1) := by decide +kernel
theorem dX9_reads_14 : decode cX9_reads 14 = .ok (.iconst 0, 1) := by decide +kernel
theorem dX9_reads_15 : decode cX9_reads 15 = .ok (.putfield 186, 3) := by decide +kernel
theorem dX9_reads_18 : decode cX9_reads 18 = .ok (.aload_n 0, 1) := by decide +kernel
theorem dX9_reads_19 : decode cX9_reads 19 = .ok (.iconst 0, 1) := by decide +kernel
theorem dX9_reads_20 : decode cX9_reads 20 = .ok (.putfield 195, 3) := by decide +kernel
theorem dX9_reads_23 : decode cX9_reads 23 = .ok (.aload_n 0, 1) := by decide +kernel
theorem dX9_reads_24 : decode cX9_reads 24 = .ok (.iconst (-1), 1) := by decide +kernel
theorem dX9_reads_25 : decode cX9_reads 25 = .ok (.putfield 179, 3) := by decide +kernel
theorem dX9_reads_28 : decode cX9_reads 28 = .ok (.aload_n 0, 1) := by decide +kernel
theorem dX9_reads_29 : decode cX9_reads 29 = .ok (.invokevirtual 250, 3) := by decide +kernel
theorem dX9_reads_32 : decode cX9_reads 32 = .ok (.iconst 1, 1) := by decide +kernel
theorem dX9_reads_33 : decode cX9_reads 33 = .ok (.istore_n 1, 1) := by decide +kernel
theorem dX9_reads_34 : decode cX9_reads 34 = .ok (.aload_n 0, 1) := by decide +kernel
theorem dX9_reads_35 : decode cX9_reads 35 = .ok (.bipush 59, 2) := by decide +kernel
theorem dX9_reads_37 : decode cX9_reads 37 = .ok (.invokestatic 228, 3) := by decide +kernel
theorem dX9_reads_40 : decode cX9_reads 40 = .ok (.invokevirtual 189, 3) := by decide +kernel
theorem dX9_reads_43 : decode cX9_reads 43 = .ok (.ifCond .eq 30, 3) := by decide +kernel
theorem dX9_reads_46 : decode cX9_reads 46 = .ok (.iload_n 1, 1) := by decide +kernel
theorem dX9_reads_47 : decode cX9_reads 47 = .ok (.bipush 12, 2) := by decide +kernel
theorem dX9_reads_49 : decode cX9_reads 49 = .ok (.if_icmp .ne 7, 3) := by decide +kernel
theorem dX9_reads_52 : decode cX9_reads 52 = .ok (.aload_n 0, 1) := by decide +kernel
theorem dX9_reads_53 : decode cX9_reads 53 = .ok (.invokevirtual 192, 3) := by decide +kernel
theorem dX9_reads_56 : decode cX9_reads 56 = .ok (.aload_n 0, 1) := by decide +kernel
theorem dX9_reads_57 : decode cX9_reads 57 = .ok (.invokevirtual 182, 3) := by decide +kernel
theorem dX9_reads_60 : decode cX9_reads 60 = .ok (.ifCond .eq 7, 3) := by decide +kernel
theorem dX9_reads_63 : decode cX9_reads 63 = .ok (.aload_n 0, 1) := by decide +kernel
theorem dX9_reads_64 : decode cX9_reads 64 = .ok (.invokevirtual 250, 3) := by decide +kernel
theorem dX9_reads_67 : decode cX9_reads 67 = .ok (.iinc 1 1, 3) := by decide +kernel
theorem dX9_reads_70 : decode cX9_reads 70 = .ok (.goto (-36), 3) := by decide +kernel
theorem dX9_reads_73 : decode cX9_reads 73 = .ok (.aload_n 0, 1) := by decide +kernel
theorem dX9_reads_74 : decode cX9_reads 74 = .ok (.invokevirtual 182, 3) := by decide +kernel
theorem dX9_reads_77 : decode cX9_reads 77 = .ok (.ifCond .eq 18, 3) := by decide +kernel
theorem dX9_reads_80 : decode cX9_reads 80 = .ok (.aload_n 0, 1) := by decide +kernel
theorem dX9_reads_81 : decode cX9_reads 81 = .ok (.getfield 186, 3) := by decide +kernel
theorem dX9_reads_84 : decode cX9_reads 84 = .ok (.aload_n 0, 1) := by decide +kernel
theorem dX9_reads_85 : decode cX9_reads 85 = .ok (.getfield 166, 3) := by decide +kernel
theorem dX9_reads_88 : decode cX9_reads 88 = .ok (.if_icmp .ge 7, 3) := by decide +kernel
theorem dX9_reads_91 : decode cX9_reads 91 = .ok (.aload_n 0, 1) := by decide +kernel
theorem dX9_reads_92 : decode cX9_reads 92 = .ok (.invokevirtual 192, 3) := by decide +kernel
theorem dX9_reads_95 : decode cX9_reads 95 = .ok (.aload_n 0, 1) := by decide +kernel
theorem dX9_reads_96 : decode cX9_reads 96 = .ok (.aload_n 0, 1) := by decide +kernel
theorem dX9_reads_97 : decode cX9_reads 97 = .ok (.getfield 179, 3) := by decide +kernel
theorem dX9_reads_100 : decode cX9_reads 100 = .ok (.putfield 51, 3) := by decide +kernel
theorem dX9_reads_103 : decode cX9_reads 103 = .ok (.aload_n 0, 1) := by decide +kernel
theorem dX9_reads_104 : decode cX9_reads 104 = .ok (.invokevirtual 182, 3) := by decide +kernel
theorem dX9_reads_107 : decode cX9_reads 107 = .ok (.ireturn, 1) := by decide +kernel
theorem dX9_readsAs_0 : decode cX9_readsAs 0 = .ok (.aload_n 0, 1) := by decide +kernel
theorem dX9_readsAs_1 : decode cX9_readsAs 1 = .ok (.iload_n 1, 1) := by decide +kernel
theorem dX9_readsAs_2 : decode cX9_readsAs 2 = .ok (.putfield 212, 3) := by decide +kernel
theorem dX9_readsAs_5 : decode cX9_readsAs 5 = .ok (.aload_n 0, 1) := by decide +kernel
theorem dX9_readsAs_6 : decode cX9_readsAs 6 = .ok (.iload_n 1, 1) := by decide +kernel
theorem dX9_readsAs_7 : decode cX9_readsAs 7 = .ok (.ifCond .eq 8, 3) := by decide +kernel
theorem dX9_readsAs_10 : decode cX9_readsAs 10 = .ok (.bipush 12, 2) := by decide +kernel
theorem dX9_readsAs_12 : decode cX9_readsAs 12 = .ok (.goto 5, 3) := by decide +kernel
theorem dX9_readsAs_15 : decode cX9_readsAs 15 = .ok (.bipush 7, 2) := by decide +kernel
theorem dX9_readsAs_17 : decode cX9_readsAs 17 = .ok (.putfield 238, 3) := by decide +kernel
theorem dX9_readsAs_20 : decode cX9_readsAs 20 = .ok (.aload_n 0, 1) := by decide +kernel
theorem dX9_readsAs_21 : decode cX9_readsAs 21 = .ok (.iload_n 1, 1) := by decide +kernel
theorem dX9_readsAs_22 : decode cX9_readsAs 22 = .ok (.ifCond .eq 8, 3) := by decide +kernel
theorem dX9_readsAs_25 : decode cX9_readsAs 25 = .ok (.bipush 17, 2) := by decide +kernel
theorem dX9_readsAs_27 : decode cX9_readsAs 27 = .ok (.goto 5, 3) := by decide +kernel
theorem dX9_readsAs_30 : decode cX9_readsAs 30 = .ok (.bipush 13, 2) := by decide +kernel
theorem dX9_readsAs_32 : decode cX9_readsAs 32 = .ok (.putfield 241, 3) := by decide +kernel
theorem dX9_readsAs_35 : decode cX9_readsAs 35 = .ok (.aload_n 0, 1) := by decide +kernel
theorem dX9_readsAs_36 : decode cX9_readsAs 36 = .ok (.invokevirtual 253, 3) := by decide +kernel
theorem dX9_readsAs_39 : decode cX9_readsAs 39 = .ok (.ireturn, 1) := by decide +kernel
theorem dX9_lays_0 : decode cX9_lays 0 = .ok (.aload_n 0, 1) := by decide +kernel
theorem dX9_lays_1 : decode cX9_lays 1 = .ok (.getfield 28, 3) := by decide +kernel
theorem dX9_lays_4 : decode cX9_lays 4 = .ok (.sipush 205, 3) := by decide +kernel
theorem dX9_lays_7 : decode cX9_lays 7 = .ok (.iload_n 1, 1) := by decide +kernel
theorem dX9_lays_8 : decode cX9_lays 8 = .ok (.iadd, 1) := by decide +kernel
theorem dX9_lays_9 : decode cX9_lays 9 = .ok (.aload_n 0, 1) := by decide +kernel
theorem dX9_lays_10 : decode cX9_lays 10 = .ok (.getfield 166, 3) := by decide +kernel
theorem dX9_lays_13 : decode cX9_lays 13 = .ok (.iastore, 1) := by decide +kernel
theorem dX9_lays_14 : decode cX9_lays 14 = .ok (.iconst 0, 1) := by decide +kernel
theorem dX9_lays_15 : decode cX9_lays 15 = .ok (.istore_n 2, 1) := by decide +kernel
theorem dX9_lays_16 : decode cX9_lays 16 = .ok (.iload_n 2, 1) := by decide +kernel
theorem dX9_lays_17 : decode cX9_lays 17 = .ok (.aload_n 0, 1) := by decide +kernel
theorem dX9_lays_18 : decode cX9_lays 18 = .ok (.getfield 166, 3) := by decide +kernel
theorem dX9_lays_21 : decode cX9_lays 21 = .ok (.if_icmp .ge 53, 3) := by decide +kernel
theorem dX9_lays_24 : decode cX9_lays 24 = .ok (.aload_n 0, 1) := by decide +kernel
theorem dX9_lays_25 : decode cX9_lays 25 = .ok (.getfield 28, 3) := by decide +kernel
theorem dX9_lays_28 : decode cX9_lays 28 = .ok (.sipush 212, 3) := by decide +kernel
theorem dX9_lays_31 : decode cX9_lays 31 = .ok (.sipush 400, 3) := by decide +kernel
theorem dX9_lays_34 : decode cX9_lays 34 = .ok (.iload_n 1, 1) := by decide +kernel
theorem dX9_lays_35 : decode cX9_lays 35 = .ok (.imul, 1) := by decide +kernel
theorem dX9_lays_36 : decode cX9_lays 36 = .ok (.iadd, 1) := by decide +kernel
theorem dX9_lays_37 : decode cX9_lays 37 = .ok (.iload_n 2, 1) := by decide +kernel
theorem dX9_lays_38 : decode cX9_lays 38 = .ok (.iadd, 1) := by decide +kernel
theorem dX9_lays_39 : decode cX9_lays 39 = .ok (.aload_n 0, 1) := by decide +kernel
theorem dX9_lays_40 : decode cX9_lays 40 = .ok (.getfield 54, 3) := by decide +kernel
theorem dX9_lays_43 : decode cX9_lays 43 = .ok (.iload_n 2, 1) := by decide +kernel
theorem dX9_lays_44 : decode cX9_lays 44 = .ok (.iaload, 1) := by decide +kernel
theorem dX9_lays_45 : decode cX9_lays 45 = .ok (.iastore, 1) := by decide +kernel
theorem dX9_lays_46 : decode cX9_lays 46 = .ok (.aload_n 0, 1) := by decide +kernel
theorem dX9_lays_47 : decode cX9_lays 47 = .ok (.getfield 28, 3) := by decide +kernel
theorem dX9_lays_50 : decode cX9_lays 50 = .ok (.sipush 3012, 3) := by decide +kernel
theorem dX9_lays_53 : decode cX9_lays 53 = .ok (.sipush 400, 3) := by decide +kernel
theorem dX9_lays_56 : decode cX9_lays 56 = .ok (.iload_n 1, 1) := by decide +kernel
theorem dX9_lays_57 : decode cX9_lays 57 = .ok (.imul, 1) := by decide +kernel
theorem dX9_lays_58 : decode cX9_lays 58 = .ok (.iadd, 1) := by decide +kernel
theorem dX9_lays_59 : decode cX9_lays 59 = .ok (.iload_n 2, 1) := by decide +kernel
theorem dX9_lays_60 : decode cX9_lays 60 = .ok (.iadd, 1) := by decide +kernel
theorem dX9_lays_61 : decode cX9_lays 61 = .ok (.aload_n 0, 1) := by decide +kernel
theorem dX9_lays_62 : decode cX9_lays 62 = .ok (.getfield 57, 3) := by decide +kernel
theorem dX9_lays_65 : decode cX9_lays 65 = .ok (.iload_n 2, 1) := by decide +kernel
theorem dX9_lays_66 : decode cX9_lays 66 = .ok (.iaload, 1) := by decide +kernel
theorem dX9_lays_67 : decode cX9_lays 67 = .ok (.iastore, 1) := by decide +kernel
theorem dX9_lays_68 : decode cX9_lays 68 = .ok (.iinc 2 1, 3) := by decide +kernel
theorem dX9_lays_71 : decode cX9_lays 71 = .ok (.goto (-55), 3) := by decide +kernel
theorem dX9_lays_74 : decode cX9_lays 74 = .ok (.return_, 1) := by decide +kernel
theorem dX9_law_0 : decode cX9_law 0 = .ok (.aload_n 0, 1) := by decide +kernel
theorem dX9_law_1 : decode cX9_law 1 = .ok (.getfield 28, 3) := by decide +kernel
theorem dX9_law_4 : decode cX9_law 4 = .ok (.sipush 203, 3) := by decide +kernel
theorem dX9_law_7 : decode cX9_law 7 = .ok (.iaload, 1) := by decide +kernel
theorem dX9_law_8 : decode cX9_law 8 = .ok (.bipush 6, 2) := by decide +kernel
theorem dX9_law_10 : decode cX9_law 10 = .ok (.if_icmp .ne 15, 3) := by decide +kernel
theorem dX9_law_13 : decode cX9_law 13 = .ok (.aload_n 0, 1) := by decide +kernel
theorem dX9_law_14 : decode cX9_law 14 = .ok (.iconst 0, 1) := by decide +kernel
theorem dX9_law_15 : decode cX9_law 15 = .ok (.putfield 157, 3) := by decide +kernel
theorem dX9_law_18 : decode cX9_law 18 = .ok (.aload_n 0, 1) := by decide +kernel
theorem dX9_law_19 : decode cX9_law 19 = .ok (.bipush (-5), 2) := by decide +kernel
theorem dX9_law_21 : decode cX9_law 21 = .ok (.invokevirtual 103, 3) := by decide +kernel
theorem dX9_law_24 : decode cX9_law 24 = .ok (.ireturn, 1) := by decide +kernel
theorem dX9_law_25 : decode cX9_law 25 = .ok (.aload_n 0, 1) := by decide +kernel
theorem dX9_law_26 : decode cX9_law 26 = .ok (.iconst 0, 1) := by decide +kernel
theorem dX9_law_27 : decode cX9_law 27 = .ok (.invokevirtual 256, 3) := by decide +kernel
theorem dX9_law_30 : decode cX9_law 30 = .ok (.ifCond .ne 10, 3) := by decide +kernel
theorem dX9_law_33 : decode cX9_law 33 = .ok (.aload_n 0, 1) := by decide +kernel
theorem dX9_law_34 : decode cX9_law 34 = .ok (.bipush (-6), 2) := by decide +kernel
theorem dX9_law_36 : decode cX9_law 36 = .ok (.invokevirtual 103, 3) := by decide +kernel
theorem dX9_law_39 : decode cX9_law 39 = .ok (.ireturn, 1) := by decide +kernel
theorem dX9_law_40 : decode cX9_law 40 = .ok (.aload_n 0, 1) := by decide +kernel
theorem dX9_law_41 : decode cX9_law 41 = .ok (.aload_n 0, 1) := by decide +kernel
theorem dX9_law_42 : decode cX9_law 42 = .ok (.getfield 28, 3) := by decide +kernel
theorem dX9_law_45 : decode cX9_law 45 = .ok (.sipush 203, 3) := by decide +kernel
theorem dX9_law_48 : decode cX9_law 48 = .ok (.iaload, 1) := by decide +kernel
theorem dX9_law_49 : decode cX9_law 49 = .ok (.invokevirtual 260, 3) := by decide +kernel
theorem dX9_law_52 : decode cX9_law 52 = .ok (.aload_n 0, 1) := by decide +kernel
theorem dX9_law_53 : decode cX9_law 53 = .ok (.getfield 28, 3) := by decide +kernel
theorem dX9_law_56 : decode cX9_law 56 = .ok (.sipush 203, 3) := by decide +kernel
theorem dX9_law_59 : decode cX9_law 59 = .ok (.dup2, 1) := by decide +kernel
theorem dX9_law_60 : decode cX9_law 60 = .ok (.iaload, 1) := by decide +kernel
theorem dX9_law_61 : decode cX9_law 61 = .ok (.iconst 1, 1) := by decide +kernel
theorem dX9_law_62 : decode cX9_law 62 = .ok (.iadd, 1) := by decide +kernel
theorem dX9_law_63 : decode cX9_law 63 = .ok (.iastore, 1) := by decide +kernel
theorem dX9_law_64 : decode cX9_law 64 = .ok (.aload_n 0, 1) := by decide +kernel
theorem dX9_law_65 : decode cX9_law 65 = .ok (.aload_n 0, 1) := by decide +kernel
theorem dX9_law_66 : decode cX9_law 66 = .ok (.getfield 28, 3) := by decide +kernel
theorem dX9_law_69 : decode cX9_law 69 = .ok (.sipush 203, 3) := by decide +kernel
theorem dX9_law_72 : decode cX9_law 72 = .ok (.iaload, 1) := by decide +kernel
theorem dX9_law_73 : decode cX9_law 73 = .ok (.iconst 1, 1) := by decide +kernel
theorem dX9_law_74 : decode cX9_law 74 = .ok (.isub, 1) := by decide +kernel
theorem dX9_law_75 : decode cX9_law 75 = .ok (.invokevirtual 14, 3) := by decide +kernel
theorem dX9_law_78 : decode cX9_law 78 = .ok (.ireturn, 1) := by decide +kernel
theorem dX9_fault_0 : decode cX9_fault 0 = .ok (.aload_n 0, 1) := by decide +kernel
theorem dX9_fault_1 : decode cX9_fault 1 = .ok (.getfield 51, 3) := by decide +kernel
theorem dX9_fault_4 : decode cX9_fault 4 = .ok (.ireturn, 1) := by decide +kernel
theorem dX9_isLaw_0 : decode cX9_isLaw 0 = .ok (.iload_n 1, 1) := by decide +kernel
theorem dX9_isLaw_1 : decode cX9_isLaw 1 = .ok (.iconst (-1), 1) := by decide +kernel
theorem dX9_isLaw_2 : decode cX9_isLaw 2 = .ok (.aload_n 0, 1) := by decide +kernel
theorem dX9_isLaw_3 : decode cX9_isLaw 3 = .ok (.getfield 28, 3) := by decide +kernel
theorem dX9_isLaw_6 : decode cX9_isLaw 6 = .ok (.sipush 203, 3) := by decide +kernel
theorem dX9_isLaw_9 : decode cX9_isLaw 9 = .ok (.iaload, 1) := by decide +kernel
theorem dX9_isLaw_10 : decode cX9_isLaw 10 = .ok (.iconst 1, 1) := by decide +kernel
theorem dX9_isLaw_11 : decode cX9_isLaw 11 = .ok (.isub, 1) := by decide +kernel
theorem dX9_isLaw_12 : decode cX9_isLaw 12 = .ok (.invokestatic 18, 3) := by decide +kernel
theorem dX9_isLaw_15 : decode cX9_isLaw 15 = .ok (.ireturn, 1) := by decide +kernel
theorem dX9_force_0 : decode cX9_force 0 = .ok (.aload_n 0, 1) := by decide +kernel
theorem dX9_force_1 : decode cX9_force 1 = .ok (.iload_n 1, 1) := by decide +kernel
theorem dX9_force_2 : decode cX9_force 2 = .ok (.invokevirtual 263, 3) := by decide +kernel
theorem dX9_force_5 : decode cX9_force 5 = .ok (.ifCond .ne 10, 3) := by decide +kernel
theorem dX9_force_8 : decode cX9_force 8 = .ok (.aload_n 0, 1) := by decide +kernel
theorem dX9_force_9 : decode cX9_force 9 = .ok (.bipush (-2), 2) := by decide +kernel
theorem dX9_force_11 : decode cX9_force 11 = .ok (.invokevirtual 103, 3) := by decide +kernel
theorem dX9_force_14 : decode cX9_force 14 = .ok (.ireturn, 1) := by decide +kernel
theorem dX9_force_15 : decode cX9_force 15 = .ok (.aload_n 0, 1) := by decide +kernel
theorem dX9_force_16 : decode cX9_force 16 = .ok (.getfield 28, 3) := by decide +kernel
theorem dX9_force_19 : decode cX9_force 19 = .ok (.sipush 204, 3) := by decide +kernel
theorem dX9_force_22 : decode cX9_force 22 = .ok (.iaload, 1) := by decide +kernel
theorem dX9_force_23 : decode cX9_force 23 = .ok (.istore_n 2, 1) := by decide +kernel
theorem dX9_force_24 : decode cX9_force 24 = .ok (.aload_n 0, 1) := by decide +kernel
theorem dX9_force_25 : decode cX9_force 25 = .ok (.getfield 28, 3) := by decide +kernel
theorem dX9_force_28 : decode cX9_force 28 = .ok (.sipush 204, 3) := by decide +kernel
theorem dX9_force_31 : decode cX9_force 31 = .ok (.iload_n 1, 1) := by decide +kernel
theorem dX9_force_32 : decode cX9_force 32 = .ok (.iastore, 1) := by decide +kernel
theorem dX9_force_33 : decode cX9_force 33 = .ok (.aload_n 0, 1) := by decide +kernel
theorem dX9_force_34 : decode cX9_force 34 = .ok (.iload_n 2, 1) := by decide +kernel
theorem dX9_force_35 : decode cX9_force 35 = .ok (.invokevirtual 14, 3) := by decide +kernel
theorem dX9_force_38 : decode cX9_force 38 = .ok (.ireturn, 1) := by decide +kernel
theorem dX9_codeAt_0 : decode cX9_codeAt 0 = .ok (.iload_n 1, 1) := by decide +kernel
theorem dX9_codeAt_1 : decode cX9_codeAt 1 = .ok (.aload_n 0, 1) := by decide +kernel
theorem dX9_codeAt_2 : decode cX9_codeAt 2 = .ok (.getfield 266, 3) := by decide +kernel
theorem dX9_codeAt_5 : decode cX9_codeAt 5 = .ok (.if_icmp .ge 16, 3) := by decide +kernel
theorem dX9_codeAt_8 : decode cX9_codeAt 8 = .ok (.aload_n 0, 1) := by decide +kernel
theorem dX9_codeAt_9 : decode cX9_codeAt 9 = .ok (.getfield 28, 3) := by decide +kernel
theorem dX9_codeAt_12 : decode cX9_codeAt 12 = .ok (.sipush 212, 3) := by decide +kernel
theorem dX9_codeAt_15 : decode cX9_codeAt 15 = .ok (.iload_n 1, 1) := by decide +kernel
theorem dX9_codeAt_16 : decode cX9_codeAt 16 = .ok (.iadd, 1) := by decide +kernel
theorem dX9_codeAt_17 : decode cX9_codeAt 17 = .ok (.iaload, 1) := by decide +kernel
theorem dX9_codeAt_18 : decode cX9_codeAt 18 = .ok (.goto 4, 3) := by decide +kernel
theorem dX9_codeAt_21 : decode cX9_codeAt 21 = .ok (.iconst 0, 1) := by decide +kernel
theorem dX9_codeAt_22 : decode cX9_codeAt 22 = .ok (.ireturn, 1) := by decide +kernel
theorem dX9_passes0_0 : decode cX9_passes0 0 = .ok (.aload_n 0, 1) := by decide +kernel
theorem dX9_passes0_1 : decode cX9_passes0 1 = .ok (.aload_n 0, 1) := by decide +kernel
theorem dX9_passes0_2 : decode cX9_passes0 2 = .ok (.getfield 269, 3) := by decide +kernel
theorem dX9_passes0_5 : decode cX9_passes0 5 = .ok (.invokevirtual 272, 3) := by decide +kernel
theorem dX9_passes0_8 : decode cX9_passes0 8 = .ok (.iload_n 1, 1) := by decide +kernel
theorem dX9_passes0_9 : decode cX9_passes0 9 = .ok (.if_icmp .ne 7, 3) := by decide +kernel
theorem dX9_passes0_12 : decode cX9_passes0 12 = .ok (.iconst 1, 1) := by decide +kernel
theorem dX9_passes0_13 : decode cX9_passes0 13 = .ok (.goto 4, 3) := by decide +kernel
theorem dX9_passes0_16 : decode cX9_passes0 16 = .ok (.iconst 0, 1) := by decide +kernel
theorem dX9_passes0_17 : decode cX9_passes0 17 = .ok (.istore_n 2, 1) := by decide +kernel
theorem dX9_passes0_18 : decode cX9_passes0 18 = .ok (.iload_n 2, 1) := by decide +kernel
theorem dX9_passes0_19 : decode cX9_passes0 19 = .ok (.ifCond .eq 13, 3) := by decide +kernel
theorem dX9_passes0_22 : decode cX9_passes0 22 = .ok (.aload_n 0, 1) := by decide +kernel
theorem dX9_passes0_23 : decode cX9_passes0 23 = .ok (.dup, 1) := by decide +kernel
theorem dX9_passes0_24 : decode cX9_passes0 24 = .ok (.getfield 269, 3) := by decide +kernel
theorem dX9_passes0_27 : decode cX9_passes0 27 = .ok (.iconst 1, 1) := by decide +kernel
theorem dX9_passes0_28 : decode cX9_passes0 28 = .ok (.iadd, 1) := by decide +kernel
theorem dX9_passes0_29 : decode cX9_passes0 29 = .ok (.putfield 269, 3) := by decide +kernel
theorem dX9_passes0_32 : decode cX9_passes0 32 = .ok (.iload_n 2, 1) := by decide +kernel
theorem dX9_passes0_33 : decode cX9_passes0 33 = .ok (.ireturn, 1) := by decide +kernel
theorem dX9_bounded_0 : decode cX9_bounded 0 = .ok (.iload_n 3, 1) := by decide +kernel
theorem dX9_bounded_1 : decode cX9_bounded 1 = .ok (.ifCond .eq 24, 3) := by decide +kernel
theorem dX9_bounded_4 : decode cX9_bounded 4 = .ok (.lload_n 1, 1) := by decide +kernel
theorem dX9_bounded_5 : decode cX9_bounded 5 = .ok (.ldc2_w 275, 3) := by decide +kernel
theorem dX9_bounded_8 : decode cX9_bounded 8 = .ok (.lcmp, 1) := by decide +kernel
theorem dX9_bounded_9 : decode cX9_bounded 9 = .ok (.ifCond .gt 11, 3) := by decide +kernel
theorem dX9_bounded_12 : decode cX9_bounded 12 = .ok (.lload_n 1, 1) := by decide +kernel
theorem dX9_bounded_13 : decode cX9_bounded 13 = .ok (.ldc2_w 277, 3) := by decide +kernel
theorem dX9_bounded_16 : decode cX9_bounded 16 = .ok (.lcmp, 1) := by decide +kernel
theorem dX9_bounded_17 : decode cX9_bounded 17 = .ok (.ifCond .ge 8, 3) := by decide +kernel
theorem dX9_bounded_20 : decode cX9_bounded 20 = .ok (.aload_n 0, 1) := by decide +kernel
theorem dX9_bounded_21 : decode cX9_bounded 21 = .ok (.iconst 1, 1) := by decide +kernel
theorem dX9_bounded_22 : decode cX9_bounded 22 = .ok (.putfield 279, 3) := by decide +kernel
theorem dX9_bounded_25 : decode cX9_bounded 25 = .ok (.aload_n 0, 1) := by decide +kernel
theorem dX9_bounded_26 : decode cX9_bounded 26 = .ok (.getfield 279, 3) := by decide +kernel
theorem dX9_bounded_29 : decode cX9_bounded 29 = .ok (.ifCond .eq 7, 3) := by decide +kernel
theorem dX9_bounded_32 : decode cX9_bounded 32 = .ok (.lconst 0, 1) := by decide +kernel
theorem dX9_bounded_33 : decode cX9_bounded 33 = .ok (.goto 4, 3) := by decide +kernel
theorem dX9_bounded_36 : decode cX9_bounded 36 = .ok (.lload_n 1, 1) := by decide +kernel
theorem dX9_bounded_37 : decode cX9_bounded 37 = .ok (.lreturn, 1) := by decide +kernel
theorem dX9_sumOf_0 : decode cX9_sumOf 0 = .ok (.aload_n 0, 1) := by decide +kernel
theorem dX9_sumOf_1 : decode cX9_sumOf 1 = .ok (.iload_n 1, 1) := by decide +kernel
theorem dX9_sumOf_2 : decode cX9_sumOf 2 = .ok (.invokevirtual 282, 3) := by decide +kernel
theorem dX9_sumOf_5 : decode cX9_sumOf 5 = .ok (.lstore_n 2, 1) := by decide +kernel
theorem dX9_sumOf_6 : decode cX9_sumOf 6 = .ok (.aload_n 0, 1) := by decide +kernel
theorem dX9_sumOf_7 : decode cX9_sumOf 7 = .ok (.aload_n 0, 1) := by decide +kernel
theorem dX9_sumOf_8 : decode cX9_sumOf 8 = .ok (.getfield 269, 3) := by decide +kernel
theorem dX9_sumOf_11 : decode cX9_sumOf 11 = .ok (.invokevirtual 272, 3) := by decide +kernel
theorem dX9_sumOf_14 : decode cX9_sumOf 14 = .ok (.bipush 43, 2) := by decide +kernel
theorem dX9_sumOf_16 : decode cX9_sumOf 16 = .ok (.invokestatic 228, 3) := by decide +kernel
theorem dX9_sumOf_19 : decode cX9_sumOf 19 = .ok (.if_icmp .eq 19, 3) := by decide +kernel
theorem dX9_sumOf_22 : decode cX9_sumOf 22 = .ok (.aload_n 0, 1) := by decide +kernel
theorem dX9_sumOf_23 : decode cX9_sumOf 23 = .ok (.aload_n 0, 1) := by decide +kernel
theorem dX9_sumOf_24 : decode cX9_sumOf 24 = .ok (.getfield 269, 3) := by decide +kernel
theorem dX9_sumOf_27 : decode cX9_sumOf 27 = .ok (.invokevirtual 272, 3) := by decide +kernel
theorem dX9_sumOf_30 : decode cX9_sumOf 30 = .ok (.bipush 45, 2) := by decide +kernel
theorem dX9_sumOf_32 : decode cX9_sumOf 32 = .ok (.invokestatic 228, 3) := by decide +kernel
theorem dX9_sumOf_35 : decode cX9_sumOf 35 = .ok (.if_icmp .ne 68, 3) := by decide +kernel
theorem dX9_sumOf_38 : decode cX9_sumOf 38 = .ok (.aload_n 0, 1) := by decide +kernel
theorem dX9_sumOf_39 : decode cX9_sumOf 39 = .ok (.aload_n 0, 1) := by decide +kernel
theorem dX9_sumOf_40 : decode cX9_sumOf 40 = .ok (.getfield 269, 3) := by decide +kernel
theorem dX9_sumOf_43 : decode cX9_sumOf 43 = .ok (.invokevirtual 272, 3) := by decide +kernel
theorem dX9_sumOf_46 : decode cX9_sumOf 46 = .ok (.bipush 43, 2) := by decide +kernel
theorem dX9_sumOf_48 : decode cX9_sumOf 48 = .ok (.invokestatic 228, 3) := by decide +kernel
theorem dX9_sumOf_51 : decode cX9_sumOf 51 = .ok (.if_icmp .ne 7, 3) := by decide +kernel
theorem dX9_sumOf_54 : decode cX9_sumOf 54 = .ok (.iconst 1, 1) := by decide +kernel
theorem dX9_sumOf_55 : decode cX9_sumOf 55 = .ok (.goto 4, 3) := by decide +kernel
theorem dX9_sumOf_58 : decode cX9_sumOf 58 = .ok (.iconst 0, 1) := by decide +kernel
theorem dX9_sumOf_59 : decode cX9_sumOf 59 = .ok (.istore 4, 2) := by decide +kernel
theorem dX9_sumOf_61 : decode cX9_sumOf 61 = .ok (.aload_n 0, 1) := by decide +kernel
theorem dX9_sumOf_62 : decode cX9_sumOf 62 = .ok (.dup, 1) := by decide +kernel
theorem dX9_sumOf_63 : decode cX9_sumOf 63 = .ok (.getfield 269, 3) := by decide +kernel
theorem dX9_sumOf_66 : decode cX9_sumOf 66 = .ok (.iconst 1, 1) := by decide +kernel
theorem dX9_sumOf_67 : decode cX9_sumOf 67 = .ok (.iadd, 1) := by decide +kernel
theorem dX9_sumOf_68 : decode cX9_sumOf 68 = .ok (.putfield 269, 3) := by decide +kernel
theorem dX9_sumOf_71 : decode cX9_sumOf 71 = .ok (.aload_n 0, 1) := by decide +kernel
theorem dX9_sumOf_72 : decode cX9_sumOf 72 = .ok (.iload_n 1, 1) := by decide +kernel
theorem dX9_sumOf_73 : decode cX9_sumOf 73 = .ok (.invokevirtual 282, 3) := by decide +kernel
theorem dX9_sumOf_76 : decode cX9_sumOf 76 = .ok (.lstore 5, 2) := by decide +kernel
theorem dX9_sumOf_78 : decode cX9_sumOf 78 = .ok (.aload_n 0, 1) := by decide +kernel
theorem dX9_sumOf_79 : decode cX9_sumOf 79 = .ok (.iload 4, 2) := by decide +kernel
theorem dX9_sumOf_81 : decode cX9_sumOf 81 = .ok (.ifCond .eq 10, 3) := by decide +kernel
theorem dX9_sumOf_84 : decode cX9_sumOf 84 = .ok (.lload_n 2, 1) := by decide +kernel
theorem dX9_sumOf_85 : decode cX9_sumOf 85 = .ok (.lload 5, 2) := by decide +kernel
theorem dX9_sumOf_87 : decode cX9_sumOf 87 = .ok (.ladd, 1) := by decide +kernel
theorem dX9_sumOf_88 : decode cX9_sumOf 88 = .ok (.goto 7, 3) := by decide +kernel
theorem dX9_sumOf_91 : decode cX9_sumOf 91 = .ok (.lload_n 2, 1) := by decide +kernel
theorem dX9_sumOf_92 : decode cX9_sumOf 92 = .ok (.lload 5, 2) := by decide +kernel
theorem dX9_sumOf_94 : decode cX9_sumOf 94 = .ok (.lsub, 1) := by decide +kernel
theorem dX9_sumOf_95 : decode cX9_sumOf 95 = .ok (.iload_n 1, 1) := by decide +kernel
theorem dX9_sumOf_96 : decode cX9_sumOf 96 = .ok (.invokevirtual 286, 3) := by decide +kernel
theorem dX9_sumOf_99 : decode cX9_sumOf 99 = .ok (.lstore_n 2, 1) := by decide +kernel
theorem dX9_sumOf_100 : decode cX9_sumOf 100 = .ok (.goto (-94), 3) := by decide +kernel
theorem dX9_sumOf_103 : decode cX9_sumOf 103 = .ok (.lload_n 2, 1) := by decide +kernel
theorem dX9_sumOf_104 : decode cX9_sumOf 104 = .ok (.lreturn, 1) := by decide +kernel
theorem dX9_termOf_0 : decode cX9_termOf 0 = .ok (.aload_n 0, 1) := by decide +kernel
theorem dX9_termOf_1 : decode cX9_termOf 1 = .ok (.iload_n 1, 1) := by decide +kernel
theorem dX9_termOf_2 : decode cX9_termOf 2 = .ok (.invokevirtual 290, 3) := by decide +kernel
theorem dX9_termOf_5 : decode cX9_termOf 5 = .ok (.lstore_n 2, 1) := by decide +kernel
theorem dX9_termOf_6 : decode cX9_termOf 6 = .ok (.aload_n 0, 1) := by decide +kernel
theorem dX9_termOf_7 : decode cX9_termOf 7 = .ok (.aload_n 0, 1) := by decide +kernel
theorem dX9_termOf_8 : decode cX9_termOf 8 = .ok (.getfield 269, 3) := by decide +kernel
theorem dX9_termOf_11 : decode cX9_termOf 11 = .ok (.invokevirtual 272, 3) := by decide +kernel
theorem dX9_termOf_14 : decode cX9_termOf 14 = .ok (.bipush 42, 2) := by decide +kernel
theorem dX9_termOf_16 : decode cX9_termOf 16 = .ok (.invokestatic 228, 3) := by decide +kernel
theorem dX9_termOf_19 : decode cX9_termOf 19 = .ok (.if_icmp .eq 35, 3) := by decide +kernel
theorem dX9_termOf_22 : decode cX9_termOf 22 = .ok (.aload_n 0, 1) := by decide +kernel
theorem dX9_termOf_23 : decode cX9_termOf 23 = .ok (.aload_n 0, 1) := by decide +kernel
theorem dX9_termOf_24 : decode cX9_termOf 24 = .ok (.getfield 269, 3) := by decide +kernel
theorem dX9_termOf_27 : decode cX9_termOf 27 = .ok (.invokevirtual 272, 3) := by decide +kernel
theorem dX9_termOf_30 : decode cX9_termOf 30 = .ok (.bipush 47, 2) := by decide +kernel
theorem dX9_termOf_32 : decode cX9_termOf 32 = .ok (.invokestatic 228, 3) := by decide +kernel
theorem dX9_termOf_35 : decode cX9_termOf 35 = .ok (.if_icmp .eq 19, 3) := by decide +kernel
theorem dX9_termOf_38 : decode cX9_termOf 38 = .ok (.aload_n 0, 1) := by decide +kernel
theorem dX9_termOf_39 : decode cX9_termOf 39 = .ok (.aload_n 0, 1) := by decide +kernel
theorem dX9_termOf_40 : decode cX9_termOf 40 = .ok (.getfield 269, 3) := by decide +kernel
theorem dX9_termOf_43 : decode cX9_termOf 43 = .ok (.invokevirtual 272, 3) := by decide +kernel
theorem dX9_termOf_46 : decode cX9_termOf 46 = .ok (.bipush 37, 2) := by decide +kernel
theorem dX9_termOf_48 : decode cX9_termOf 48 = .ok (.invokestatic 228, 3) := by decide +kernel
theorem dX9_termOf_51 : decode cX9_termOf 51 = .ok (.if_icmp .ne 117, 3) := by decide +kernel
theorem dX9_termOf_54 : decode cX9_termOf 54 = .ok (.aload_n 0, 1) := by decide +kernel
theorem dX9_termOf_55 : decode cX9_termOf 55 = .ok (.aload_n 0, 1) := by decide +kernel
theorem dX9_termOf_56 : decode cX9_termOf 56 = .ok (.getfield 269, 3) := by decide +kernel
theorem dX9_termOf_59 : decode cX9_termOf 59 = .ok (.invokevirtual 272, 3) := by decide +kernel
theorem dX9_termOf_62 : decode cX9_termOf 62 = .ok (.istore 4, 2) := by decide +kernel
theorem dX9_termOf_64 : decode cX9_termOf 64 = .ok (.aload_n 0, 1) := by decide +kernel
theorem dX9_termOf_65 : decode cX9_termOf 65 = .ok (.dup, 1) := by decide +kernel
theorem dX9_termOf_66 : decode cX9_termOf 66 = .ok (.getfield 269, 3) := by decide +kernel
theorem dX9_termOf_69 : decode cX9_termOf 69 = .ok (.iconst 1, 1) := by decide +kernel
theorem dX9_termOf_70 : decode cX9_termOf 70 = .ok (.iadd, 1) := by decide +kernel
theorem dX9_termOf_71 : decode cX9_termOf 71 = .ok (.putfield 269, 3) := by decide +kernel
theorem dX9_termOf_74 : decode cX9_termOf 74 = .ok (.aload_n 0, 1) := by decide +kernel
theorem dX9_termOf_75 : decode cX9_termOf 75 = .ok (.iload_n 1, 1) := by decide +kernel
theorem dX9_termOf_76 : decode cX9_termOf 76 = .ok (.invokevirtual 290, 3) := by decide +kernel
theorem dX9_termOf_79 : decode cX9_termOf 79 = .ok (.lstore 5, 2) := by decide +kernel
theorem dX9_termOf_81 : decode cX9_termOf 81 = .ok (.iload 4, 2) := by decide +kernel
theorem dX9_termOf_83 : decode cX9_termOf 83 = .ok (.bipush 42, 2) := by decide +kernel
theorem dX9_termOf_85 : decode cX9_termOf 85 = .ok (.invokestatic 228, 3) := by decide +kernel
theorem dX9_termOf_88 : decode cX9_termOf 88 = .ok (.if_icmp .eq 33, 3) := by decide +kernel
theorem dX9_termOf_91 : decode cX9_termOf 91 = .ok (.lload 5, 2) := by decide +kernel
theorem dX9_termOf_93 : decode cX9_termOf 93 = .ok (.lconst 0, 1) := by decide +kernel
theorem dX9_termOf_94 : decode cX9_termOf 94 = .ok (.lcmp, 1) := by decide +kernel
theorem dX9_termOf_95 : decode cX9_termOf 95 = .ok (.ifCond .ne 26, 3) := by decide +kernel
theorem dX9_termOf_98 : decode cX9_termOf 98 = .ok (.aload_n 0, 1) := by decide +kernel
theorem dX9_termOf_99 : decode cX9_termOf 99 = .ok (.aload_n 0, 1) := by decide +kernel
theorem dX9_termOf_100 : decode cX9_termOf 100 = .ok (.getfield 279, 3) := by decide +kernel
theorem dX9_termOf_103 : decode cX9_termOf 103 = .ok (.ifCond .ne 7, 3) := by decide +kernel
theorem dX9_termOf_106 : decode cX9_termOf 106 = .ok (.iload_n 1, 1) := by decide +kernel
theorem dX9_termOf_107 : decode cX9_termOf 107 = .ok (.ifCond .eq 7, 3) := by decide +kernel
theorem dX9_termOf_110 : decode cX9_termOf 110 = .ok (.iconst 1, 1) := by decide +kernel
theorem dX9_termOf_111 : decode cX9_termOf 111 = .ok (.goto 4, 3) := by decide +kernel
theorem dX9_termOf_114 : decode cX9_termOf 114 = .ok (.iconst 0, 1) := by decide +kernel
theorem dX9_termOf_115 : decode cX9_termOf 115 = .ok (.putfield 279, 3) := by decide +kernel
theorem dX9_termOf_118 : decode cX9_termOf 118 = .ok (.lconst 1, 1) := by decide +kernel
theorem dX9_termOf_119 : decode cX9_termOf 119 = .ok (.lstore 5, 2) := by decide +kernel
theorem dX9_termOf_121 : decode cX9_termOf 121 = .ok (.aload_n 0, 1) := by decide +kernel
theorem dX9_termOf_122 : decode cX9_termOf 122 = .ok (.iload 4, 2) := by decide +kernel
theorem dX9_termOf_124 : decode cX9_termOf 124 = .ok (.bipush 42, 2) := by decide +kernel
theorem dX9_termOf_126 : decode cX9_termOf 126 = .ok (.invokestatic 228, 3) := by decide +kernel
theorem dX9_termOf_129 : decode cX9_termOf 129 = .ok (.if_icmp .ne 10, 3) := by decide +kernel
theorem dX9_termOf_132 : decode cX9_termOf 132 = .ok (.lload_n 2, 1) := by decide +kernel
theorem dX9_termOf_133 : decode cX9_termOf 133 = .ok (.lload 5, 2) := by decide +kernel
theorem dX9_termOf_135 : decode cX9_termOf 135 = .ok (.lmul, 1) := by decide +kernel
theorem dX9_termOf_136 : decode cX9_termOf 136 = .ok (.goto 24, 3) := by decide +kernel
theorem dX9_termOf_139 : decode cX9_termOf 139 = .ok (.iload 4, 2) := by decide +kernel
theorem dX9_termOf_141 : decode cX9_termOf 141 = .ok (.bipush 47, 2) := by decide +kernel
theorem dX9_termOf_143 : decode cX9_termOf 143 = .ok (.invokestatic 228, 3) := by decide +kernel
theorem dX9_termOf_146 : decode cX9_termOf 146 = .ok (.if_icmp .ne 10, 3) := by decide +kernel
theorem dX9_termOf_149 : decode cX9_termOf 149 = .ok (.lload_n 2, 1) := by decide +kernel
theorem dX9_termOf_150 : decode cX9_termOf 150 = .ok (.lload 5, 2) := by decide +kernel
theorem dX9_termOf_152 : decode cX9_termOf 152 = .ok (.ldiv, 1) := by decide +kernel
theorem dX9_termOf_153 : decode cX9_termOf 153 = .ok (.goto 7, 3) := by decide +kernel
theorem dX9_termOf_156 : decode cX9_termOf 156 = .ok (.lload_n 2, 1) := by decide +kernel
theorem dX9_termOf_157 : decode cX9_termOf 157 = .ok (.lload 5, 2) := by decide +kernel
theorem dX9_termOf_159 : decode cX9_termOf 159 = .ok (.lrem, 1) := by decide +kernel
theorem dX9_termOf_160 : decode cX9_termOf 160 = .ok (.iload_n 1, 1) := by decide +kernel
theorem dX9_termOf_161 : decode cX9_termOf 161 = .ok (.invokevirtual 286, 3) := by decide +kernel
theorem dX9_termOf_164 : decode cX9_termOf 164 = .ok (.lstore_n 2, 1) := by decide +kernel
theorem dX9_termOf_165 : decode cX9_termOf 165 = .ok (.goto (-159), 3) := by decide +kernel
theorem dX9_termOf_168 : decode cX9_termOf 168 = .ok (.lload_n 2, 1) := by decide +kernel
theorem dX9_termOf_169 : decode cX9_termOf 169 = .ok (.lreturn, 1) := by decide +kernel
theorem dX9_partOf_0 : decode cX9_partOf 0 = .ok (.aload_n 0, 1) := by decide +kernel
theorem dX9_partOf_1 : decode cX9_partOf 1 = .ok (.bipush 91, 2) := by decide +kernel
theorem dX9_partOf_3 : decode cX9_partOf 3 = .ok (.invokestatic 228, 3) := by decide +kernel
theorem dX9_partOf_6 : decode cX9_partOf 6 = .ok (.invokevirtual 293, 3) := by decide +kernel
theorem dX9_partOf_9 : decode cX9_partOf 9 = .ok (.ifCond .eq 21, 3) := by decide +kernel
theorem dX9_partOf_12 : decode cX9_partOf 12 = .ok (.aload_n 0, 1) := by decide +kernel
theorem dX9_partOf_13 : decode cX9_partOf 13 = .ok (.iload_n 1, 1) := by decide +kernel
theorem dX9_partOf_14 : decode cX9_partOf 14 = .ok (.invokevirtual 296, 3) := by decide +kernel
theorem dX9_partOf_17 : decode cX9_partOf 17 = .ok (.lstore_n 2, 1) := by decide +kernel
theorem dX9_partOf_18 : decode cX9_partOf 18 = .ok (.aload_n 0, 1) := by decide +kernel
theorem dX9_partOf_19 : decode cX9_partOf 19 = .ok (.dup, 1) := by decide +kernel
theorem dX9_partOf_20 : decode cX9_partOf 20 = .ok (.getfield 269, 3) := by decide +kernel
theorem dX9_partOf_23 : decode cX9_partOf 23 = .ok (.iconst 1, 1) := by decide +kernel
theorem dX9_partOf_24 : decode cX9_partOf 24 = .ok (.iadd, 1) := by decide +kernel
theorem dX9_partOf_25 : decode cX9_partOf 25 = .ok (.putfield 269, 3) := by decide +kernel
theorem dX9_partOf_28 : decode cX9_partOf 28 = .ok (.lload_n 2, 1) := by decide +kernel
theorem dX9_partOf_29 : decode cX9_partOf 29 = .ok (.lreturn, 1) := by decide +kernel
theorem dX9_partOf_30 : decode cX9_partOf 30 = .ok (.aload_n 0, 1) := by decide +kernel
theorem dX9_partOf_31 : decode cX9_partOf 31 = .ok (.aload_n 0, 1) := by decide +kernel
theorem dX9_partOf_32 : decode cX9_partOf 32 = .ok (.getfield 269, 3) := by decide +kernel
theorem dX9_partOf_35 : decode cX9_partOf 35 = .ok (.invokevirtual 272, 3) := by decide +kernel
theorem dX9_partOf_38 : decode cX9_partOf 38 = .ok (.istore_n 2, 1) := by decide +kernel
theorem dX9_partOf_39 : decode cX9_partOf 39 = .ok (.iconst 0, 1) := by decide +kernel
theorem dX9_partOf_40 : decode cX9_partOf 40 = .ok (.istore_n 3, 1) := by decide +kernel
theorem dX9_partOf_41 : decode cX9_partOf 41 = .ok (.aload_n 0, 1) := by decide +kernel
theorem dX9_partOf_42 : decode cX9_partOf 42 = .ok (.dup, 1) := by decide +kernel
theorem dX9_partOf_43 : decode cX9_partOf 43 = .ok (.getfield 269, 3) := by decide +kernel
theorem dX9_partOf_46 : decode cX9_partOf 46 = .ok (.iconst 1, 1) := by decide +kernel
theorem dX9_partOf_47 : decode cX9_partOf 47 = .ok (.iadd, 1) := by decide +kernel
theorem dX9_partOf_48 : decode cX9_partOf 48 = .ok (.putfield 269, 3) := by decide +kernel
theorem dX9_partOf_51 : decode cX9_partOf 51 = .ok (.aload_n 0, 1) := by decide +kernel
theorem dX9_partOf_52 : decode cX9_partOf 52 = .ok (.getfield 299, 3) := by decide +kernel
theorem dX9_partOf_55 : decode cX9_partOf 55 = .ok (.ifCond .eq 39, 3) := by decide +kernel
theorem dX9_partOf_58 : decode cX9_partOf 58 = .ok (.iload_n 2, 1) := by decide +kernel
theorem dX9_partOf_59 : decode cX9_partOf 59 = .ok (.bipush 12, 2) := by decide +kernel
theorem dX9_partOf_61 : decode cX9_partOf 61 = .ok (.if_icmp .eq 9, 3) := by decide +kernel
theorem dX9_partOf_64 : decode cX9_partOf 64 = .ok (.iload_n 2, 1) := by decide +kernel
theorem dX9_partOf_65 : decode cX9_partOf 65 = .ok (.bipush 17, 2) := by decide +kernel
theorem dX9_partOf_67 : decode cX9_partOf 67 = .ok (.if_icmp .ne 27, 3) := by decide +kernel
theorem dX9_partOf_70 : decode cX9_partOf 70 = .ok (.aload_n 0, 1) := by decide +kernel
theorem dX9_partOf_71 : decode cX9_partOf 71 = .ok (.getfield 28, 3) := by decide +kernel
theorem dX9_partOf_74 : decode cX9_partOf 74 = .ok (.sipush 3012, 3) := by decide +kernel
theorem dX9_partOf_77 : decode cX9_partOf 77 = .ok (.aload_n 0, 1) := by decide +kernel
theorem dX9_partOf_78 : decode cX9_partOf 78 = .ok (.getfield 269, 3) := by decide +kernel
theorem dX9_partOf_81 : decode cX9_partOf 81 = .ok (.iadd, 1) := by decide +kernel
theorem dX9_partOf_82 : decode cX9_partOf 82 = .ok (.iaload, 1) := by decide +kernel
theorem dX9_partOf_83 : decode cX9_partOf 83 = .ok (.istore_n 3, 1) := by decide +kernel
theorem dX9_partOf_84 : decode cX9_partOf 84 = .ok (.aload_n 0, 1) := by decide +kernel
theorem dX9_partOf_85 : decode cX9_partOf 85 = .ok (.dup, 1) := by decide +kernel
theorem dX9_partOf_86 : decode cX9_partOf 86 = .ok (.getfield 269, 3) := by decide +kernel
theorem dX9_partOf_89 : decode cX9_partOf 89 = .ok (.iconst 1, 1) := by decide +kernel
theorem dX9_partOf_90 : decode cX9_partOf 90 = .ok (.iadd, 1) := by decide +kernel
theorem dX9_partOf_91 : decode cX9_partOf 91 = .ok (.putfield 269, 3) := by decide +kernel
theorem dX9_partOf_94 : decode cX9_partOf 94 = .ok (.iload_n 1, 1) := by decide +kernel
theorem dX9_partOf_95 : decode cX9_partOf 95 = .ok (.ifCond .eq 10, 3) := by decide +kernel
theorem dX9_partOf_98 : decode cX9_partOf 98 = .ok (.aload_n 0, 1) := by decide +kernel
theorem dX9_partOf_99 : decode cX9_partOf 99 = .ok (.getfield 279, 3) := by decide +kernel
theorem dX9_partOf_102 : decode cX9_partOf 102 = .ok (.ifCond .eq 5, 3) := by decide +kernel
theorem dX9_partOf_105 : decode cX9_partOf 105 = .ok (.lconst 0, 1) := by decide +kernel
theorem dX9_partOf_106 : decode cX9_partOf 106 = .ok (.lreturn, 1) := by decide +kernel
theorem dX9_partOf_107 : decode cX9_partOf 107 = .ok (.iload_n 2, 1) := by decide +kernel
theorem dX9_partOf_108 : decode cX9_partOf 108 = .ok (.bipush 50, 2) := by decide +kernel
theorem dX9_partOf_110 : decode cX9_partOf 110 = .ok (.if_icmp .ne 20, 3) := by decide +kernel
theorem dX9_partOf_113 : decode cX9_partOf 113 = .ok (.aload_n 0, 1) := by decide +kernel
theorem dX9_partOf_114 : decode cX9_partOf 114 = .ok (.getfield 28, 3) := by decide +kernel
theorem dX9_partOf_117 : decode cX9_partOf 117 = .ok (.sipush 3012, 3) := by decide +kernel
theorem dX9_partOf_120 : decode cX9_partOf 120 = .ok (.aload_n 0, 1) := by decide +kernel
theorem dX9_partOf_121 : decode cX9_partOf 121 = .ok (.getfield 269, 3) := by decide +kernel
theorem dX9_partOf_124 : decode cX9_partOf 124 = .ok (.iadd, 1) := by decide +kernel
theorem dX9_partOf_125 : decode cX9_partOf 125 = .ok (.iconst 1, 1) := by decide +kernel
theorem dX9_partOf_126 : decode cX9_partOf 126 = .ok (.isub, 1) := by decide +kernel
theorem dX9_partOf_127 : decode cX9_partOf 127 = .ok (.iaload, 1) := by decide +kernel
theorem dX9_partOf_128 : decode cX9_partOf 128 = .ok (.i2l, 1) := by decide +kernel
theorem dX9_partOf_129 : decode cX9_partOf 129 = .ok (.lreturn, 1) := by decide +kernel
theorem dX9_partOf_130 : decode cX9_partOf 130 = .ok (.aload_n 0, 1) := by decide +kernel
theorem dX9_partOf_131 : decode cX9_partOf 131 = .ok (.getfield 299, 3) := by decide +kernel
theorem dX9_partOf_134 : decode cX9_partOf 134 = .ok (.ifCond .eq 13, 3) := by decide +kernel
theorem dX9_partOf_137 : decode cX9_partOf 137 = .ok (.aload_n 0, 1) := by decide +kernel
theorem dX9_partOf_138 : decode cX9_partOf 138 = .ok (.iload_n 2, 1) := by decide +kernel
theorem dX9_partOf_139 : decode cX9_partOf 139 = .ok (.iload_n 3, 1) := by decide +kernel
theorem dX9_partOf_140 : decode cX9_partOf 140 = .ok (.invokevirtual 302, 3) := by decide +kernel
theorem dX9_partOf_143 : decode cX9_partOf 143 = .ok (.i2l, 1) := by decide +kernel
theorem dX9_partOf_144 : decode cX9_partOf 144 = .ok (.goto 13, 3) := by decide +kernel
theorem dX9_partOf_147 : decode cX9_partOf 147 = .ok (.aload_n 0, 1) := by decide +kernel
theorem dX9_partOf_148 : decode cX9_partOf 148 = .ok (.getfield 63, 3) := by decide +kernel
theorem dX9_partOf_151 : decode cX9_partOf 151 = .ok (.iload_n 2, 1) := by decide +kernel
theorem dX9_partOf_152 : decode cX9_partOf 152 = .ok (.bipush 7, 2) := by decide +kernel
theorem dX9_partOf_154 : decode cX9_partOf 154 = .ok (.isub, 1) := by decide +kernel
theorem dX9_partOf_155 : decode cX9_partOf 155 = .ok (.iaload, 1) := by decide +kernel
theorem dX9_partOf_156 : decode cX9_partOf 156 = .ok (.i2l, 1) := by decide +kernel
theorem dX9_partOf_157 : decode cX9_partOf 157 = .ok (.lreturn, 1) := by decide +kernel
theorem dX9_orderValue_0 : decode cX9_orderValue 0 = .ok (.iload_n 1, 1) := by decide +kernel
theorem dX9_orderValue_1 : decode cX9_orderValue 1 = .ok (.tableswitch 86 12 16 #[35, 60, 69, 74, 79], 35) := by decide +kernel
theorem dX9_orderValue_36 : decode cX9_orderValue 36 = .ok (.aload_n 0, 1) := by decide +kernel
theorem dX9_orderValue_37 : decode cX9_orderValue 37 = .ok (.iload_n 2, 1) := by decide +kernel
theorem dX9_orderValue_38 : decode cX9_orderValue 38 = .ok (.invokevirtual 137, 3) := by decide +kernel
theorem dX9_orderValue_41 : decode cX9_orderValue 41 = .ok (.ifCond .eq 18, 3) := by decide +kernel
theorem dX9_orderValue_44 : decode cX9_orderValue 44 = .ok (.aload_n 0, 1) := by decide +kernel
theorem dX9_orderValue_45 : decode cX9_orderValue 45 = .ok (.iload_n 2, 1) := by decide +kernel
theorem dX9_orderValue_46 : decode cX9_orderValue 46 = .ok (.aload_n 0, 1) := by decide +kernel
theorem dX9_orderValue_47 : decode cX9_orderValue 47 = .ok (.getfield 28, 3) := by decide +kernel
theorem dX9_orderValue_50 : decode cX9_orderValue 50 = .ok (.bipush 32, 2) := by decide +kernel
theorem dX9_orderValue_52 : decode cX9_orderValue 52 = .ok (.iaload, 1) := by decide +kernel
theorem dX9_orderValue_53 : decode cX9_orderValue 53 = .ok (.invokevirtual 140, 3) := by decide +kernel
theorem dX9_orderValue_56 : decode cX9_orderValue 56 = .ok (.goto 4, 3) := by decide +kernel
theorem dX9_orderValue_59 : decode cX9_orderValue 59 = .ok (.iconst (-1), 1) := by decide +kernel
theorem dX9_orderValue_60 : decode cX9_orderValue 60 = .ok (.ireturn, 1) := by decide +kernel
theorem dX9_orderValue_61 : decode cX9_orderValue 61 = .ok (.aload_n 0, 1) := by decide +kernel
theorem dX9_orderValue_62 : decode cX9_orderValue 62 = .ok (.getfield 28, 3) := by decide +kernel
theorem dX9_orderValue_65 : decode cX9_orderValue 65 = .ok (.sipush 187, 3) := by decide +kernel
theorem dX9_orderValue_68 : decode cX9_orderValue 68 = .ok (.iaload, 1) := by decide +kernel
theorem dX9_orderValue_69 : decode cX9_orderValue 69 = .ok (.ireturn, 1) := by decide +kernel
theorem dX9_orderValue_70 : decode cX9_orderValue 70 = .ok (.aload_n 0, 1) := by decide +kernel
theorem dX9_orderValue_71 : decode cX9_orderValue 71 = .ok (.getfield 305, 3) := by decide +kernel
theorem dX9_orderValue_74 : decode cX9_orderValue 74 = .ok (.ireturn, 1) := by decide +kernel
theorem dX9_orderValue_75 : decode cX9_orderValue 75 = .ok (.aload_n 0, 1) := by decide +kernel
theorem dX9_orderValue_76 : decode cX9_orderValue 76 = .ok (.getfield 308, 3) := by decide +kernel
theorem dX9_orderValue_79 : decode cX9_orderValue 79 = .ok (.ireturn, 1) := by decide +kernel
theorem dX9_orderValue_80 : decode cX9_orderValue 80 = .ok (.aload_n 0, 1) := by decide +kernel
theorem dX9_orderValue_81 : decode cX9_orderValue 81 = .ok (.getfield 28, 3) := by decide +kernel
theorem dX9_orderValue_84 : decode cX9_orderValue 84 = .ok (.iconst 0, 1) := by decide +kernel
theorem dX9_orderValue_85 : decode cX9_orderValue 85 = .ok (.iaload, 1) := by decide +kernel
theorem dX9_orderValue_86 : decode cX9_orderValue 86 = .ok (.ireturn, 1) := by decide +kernel
theorem dX9_orderValue_87 : decode cX9_orderValue 87 = .ok (.aload_n 0, 1) := by decide +kernel
theorem dX9_orderValue_88 : decode cX9_orderValue 88 = .ok (.iload_n 2, 1) := by decide +kernel
theorem dX9_orderValue_89 : decode cX9_orderValue 89 = .ok (.iconst 1, 1) := by decide +kernel
theorem dX9_orderValue_90 : decode cX9_orderValue 90 = .ok (.invokevirtual 311, 3) := by decide +kernel
theorem dX9_orderValue_93 : decode cX9_orderValue 93 = .ok (.ireturn, 1) := by decide +kernel
theorem dX9_testOf_0 : decode cX9_testOf 0 = .ok (.aload_n 0, 1) := by decide +kernel
theorem dX9_testOf_1 : decode cX9_testOf 1 = .ok (.iload_n 1, 1) := by decide +kernel
theorem dX9_testOf_2 : decode cX9_testOf 2 = .ok (.invokevirtual 314, 3) := by decide +kernel
theorem dX9_testOf_5 : decode cX9_testOf 5 = .ok (.istore_n 2, 1) := by decide +kernel
theorem dX9_testOf_6 : decode cX9_testOf 6 = .ok (.aload_n 0, 1) := by decide +kernel
theorem dX9_testOf_7 : decode cX9_testOf 7 = .ok (.iconst 4, 1) := by decide +kernel
theorem dX9_testOf_8 : decode cX9_testOf 8 = .ok (.invokevirtual 293, 3) := by decide +kernel
theorem dX9_testOf_11 : decode cX9_testOf 11 = .ok (.ifCond .eq 38, 3) := by decide +kernel
theorem dX9_testOf_14 : decode cX9_testOf 14 = .ok (.aload_n 0, 1) := by decide +kernel
theorem dX9_testOf_15 : decode cX9_testOf 15 = .ok (.iload_n 1, 1) := by decide +kernel
theorem dX9_testOf_16 : decode cX9_testOf 16 = .ok (.ifCond .eq 11, 3) := by decide +kernel
theorem dX9_testOf_19 : decode cX9_testOf 19 = .ok (.iload_n 2, 1) := by decide +kernel
theorem dX9_testOf_20 : decode cX9_testOf 20 = .ok (.ifCond .ne 7, 3) := by decide +kernel
theorem dX9_testOf_23 : decode cX9_testOf 23 = .ok (.iconst 1, 1) := by decide +kernel
theorem dX9_testOf_24 : decode cX9_testOf 24 = .ok (.goto 4, 3) := by decide +kernel
theorem dX9_testOf_27 : decode cX9_testOf 27 = .ok (.iconst 0, 1) := by decide +kernel
theorem dX9_testOf_28 : decode cX9_testOf 28 = .ok (.invokevirtual 314, 3) := by decide +kernel
theorem dX9_testOf_31 : decode cX9_testOf 31 = .ok (.istore_n 3, 1) := by decide +kernel
theorem dX9_testOf_32 : decode cX9_testOf 32 = .ok (.iload_n 2, 1) := by decide +kernel
theorem dX9_testOf_33 : decode cX9_testOf 33 = .ok (.ifCond .ne 7, 3) := by decide +kernel
theorem dX9_testOf_36 : decode cX9_testOf 36 = .ok (.iload_n 3, 1) := by decide +kernel
theorem dX9_testOf_37 : decode cX9_testOf 37 = .ok (.ifCond .eq 7, 3) := by decide +kernel
theorem dX9_testOf_40 : decode cX9_testOf 40 = .ok (.iconst 1, 1) := by decide +kernel
theorem dX9_testOf_41 : decode cX9_testOf 41 = .ok (.goto 4, 3) := by decide +kernel
theorem dX9_testOf_44 : decode cX9_testOf 44 = .ok (.iconst 0, 1) := by decide +kernel
theorem dX9_testOf_45 : decode cX9_testOf 45 = .ok (.istore_n 2, 1) := by decide +kernel
theorem dX9_testOf_46 : decode cX9_testOf 46 = .ok (.goto (-40), 3) := by decide +kernel
theorem dX9_testOf_49 : decode cX9_testOf 49 = .ok (.iload_n 2, 1) := by decide +kernel
theorem dX9_testOf_50 : decode cX9_testOf 50 = .ok (.ireturn, 1) := by decide +kernel
theorem dX9_bothOf_0 : decode cX9_bothOf 0 = .ok (.aload_n 0, 1) := by decide +kernel
theorem dX9_bothOf_1 : decode cX9_bothOf 1 = .ok (.iload_n 1, 1) := by decide +kernel
theorem dX9_bothOf_2 : decode cX9_bothOf 2 = .ok (.invokevirtual 317, 3) := by decide +kernel
theorem dX9_bothOf_5 : decode cX9_bothOf 5 = .ok (.istore_n 2, 1) := by decide +kernel
theorem dX9_bothOf_6 : decode cX9_bothOf 6 = .ok (.aload_n 0, 1) := by decide +kernel
theorem dX9_bothOf_7 : decode cX9_bothOf 7 = .ok (.iconst 5, 1) := by decide +kernel
theorem dX9_bothOf_8 : decode cX9_bothOf 8 = .ok (.invokevirtual 293, 3) := by decide +kernel
theorem dX9_bothOf_11 : decode cX9_bothOf 11 = .ok (.ifCond .eq 38, 3) := by decide +kernel
theorem dX9_bothOf_14 : decode cX9_bothOf 14 = .ok (.aload_n 0, 1) := by decide +kernel
theorem dX9_bothOf_15 : decode cX9_bothOf 15 = .ok (.iload_n 1, 1) := by decide +kernel
theorem dX9_bothOf_16 : decode cX9_bothOf 16 = .ok (.ifCond .eq 11, 3) := by decide +kernel
theorem dX9_bothOf_19 : decode cX9_bothOf 19 = .ok (.iload_n 2, 1) := by decide +kernel
theorem dX9_bothOf_20 : decode cX9_bothOf 20 = .ok (.ifCond .eq 7, 3) := by decide +kernel
theorem dX9_bothOf_23 : decode cX9_bothOf 23 = .ok (.iconst 1, 1) := by decide +kernel
theorem dX9_bothOf_24 : decode cX9_bothOf 24 = .ok (.goto 4, 3) := by decide +kernel
theorem dX9_bothOf_27 : decode cX9_bothOf 27 = .ok (.iconst 0, 1) := by decide +kernel
theorem dX9_bothOf_28 : decode cX9_bothOf 28 = .ok (.invokevirtual 317, 3) := by decide +kernel
theorem dX9_bothOf_31 : decode cX9_bothOf 31 = .ok (.istore_n 3, 1) := by decide +kernel
theorem dX9_bothOf_32 : decode cX9_bothOf 32 = .ok (.iload_n 2, 1) := by decide +kernel
theorem dX9_bothOf_33 : decode cX9_bothOf 33 = .ok (.ifCond .eq 11, 3) := by decide +kernel
theorem dX9_bothOf_36 : decode cX9_bothOf 36 = .ok (.iload_n 3, 1) := by decide +kernel
theorem dX9_bothOf_37 : decode cX9_bothOf 37 = .ok (.ifCond .eq 7, 3) := by decide +kernel
theorem dX9_bothOf_40 : decode cX9_bothOf 40 = .ok (.iconst 1, 1) := by decide +kernel
theorem dX9_bothOf_41 : decode cX9_bothOf 41 = .ok (.goto 4, 3) := by decide +kernel
theorem dX9_bothOf_44 : decode cX9_bothOf 44 = .ok (.iconst 0, 1) := by decide +kernel
theorem dX9_bothOf_45 : decode cX9_bothOf 45 = .ok (.istore_n 2, 1) := by decide +kernel
theorem dX9_bothOf_46 : decode cX9_bothOf 46 = .ok (.goto (-40), 3) := by decide +kernel
