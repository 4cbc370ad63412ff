theorem dX9_bothOf_49 : decode cX9_bothOf 49 = .ok (.iload_n 2, 1) := by decide +kernel
theorem dX9_bothOf_50 : decode cX9_bothOf 50 = .ok (.ireturn, 1) := by decide +kernel
theorem dX9_plainOf_0 : decode cX9_plainOf 0 = .ok (.iconst 0, 1) := by decide +kernel
theorem dX9_plainOf_1 : decode cX9_plainOf 1 = .ok (.istore_n 2, 1) := by decide +kernel
theorem dX9_plainOf_2 : decode cX9_plainOf 2 = .ok (.aload_n 0, 1) := by decide +kernel
theorem dX9_plainOf_3 : decode cX9_plainOf 3 = .ok (.bipush 6, 2) := by decide +kernel
theorem dX9_plainOf_5 : decode cX9_plainOf 5 = .ok (.invokevirtual 293, 3) := by decide +kernel
theorem dX9_plainOf_8 : decode cX9_plainOf 8 = .ok (.ifCond .eq 16, 3) := by decide +kernel
theorem dX9_plainOf_11 : decode cX9_plainOf 11 = .ok (.iload_n 2, 1) := by decide +kernel
theorem dX9_plainOf_12 : decode cX9_plainOf 12 = .ok (.ifCond .ne 7, 3) := by decide +kernel
theorem dX9_plainOf_15 : decode cX9_plainOf 15 = .ok (.iconst 1, 1) := by decide +kernel
theorem dX9_plainOf_16 : decode cX9_plainOf 16 = .ok (.goto 4, 3) := by decide +kernel
theorem dX9_plainOf_19 : decode cX9_plainOf 19 = .ok (.iconst 0, 1) := by decide +kernel
theorem dX9_plainOf_20 : decode cX9_plainOf 20 = .ok (.istore_n 2, 1) := by decide +kernel
theorem dX9_plainOf_21 : decode cX9_plainOf 21 = .ok (.goto (-19), 3) := by decide +kernel
theorem dX9_plainOf_24 : decode cX9_plainOf 24 = .ok (.aload_n 0, 1) := by decide +kernel
theorem dX9_plainOf_25 : decode cX9_plainOf 25 = .ok (.iload_n 1, 1) := by decide +kernel
theorem dX9_plainOf_26 : decode cX9_plainOf 26 = .ok (.invokevirtual 320, 3) := by decide +kernel
theorem dX9_plainOf_29 : decode cX9_plainOf 29 = .ok (.iload_n 2, 1) := by decide +kernel
theorem dX9_plainOf_30 : decode cX9_plainOf 30 = .ok (.if_icmp .eq 7, 3) := by decide +kernel
theorem dX9_plainOf_33 : decode cX9_plainOf 33 = .ok (.iconst 1, 1) := by decide +kernel
theorem dX9_plainOf_34 : decode cX9_plainOf 34 = .ok (.goto 4, 3) := by decide +kernel
theorem dX9_plainOf_37 : decode cX9_plainOf 37 = .ok (.iconst 0, 1) := by decide +kernel
theorem dX9_plainOf_38 : decode cX9_plainOf 38 = .ok (.ireturn, 1) := by decide +kernel
theorem dX9_positiveOf_0 : decode cX9_positiveOf 0 = .ok (.aload_n 0, 1) := by decide +kernel
theorem dX9_positiveOf_1 : decode cX9_positiveOf 1 = .ok (.bipush 40, 2) := by decide +kernel
theorem dX9_positiveOf_3 : decode cX9_positiveOf 3 = .ok (.invokestatic 228, 3) := by decide +kernel
theorem dX9_positiveOf_6 : decode cX9_positiveOf 6 = .ok (.invokevirtual 293, 3) := by decide +kernel
theorem dX9_positiveOf_9 : decode cX9_positiveOf 9 = .ok (.ifCond .eq 21, 3) := by decide +kernel
theorem dX9_positiveOf_12 : decode cX9_positiveOf 12 = .ok (.aload_n 0, 1) := by decide +kernel
theorem dX9_positiveOf_13 : decode cX9_positiveOf 13 = .ok (.iload_n 1, 1) := by decide +kernel
theorem dX9_positiveOf_14 : decode cX9_positiveOf 14 = .ok (.invokevirtual 323, 3) := by decide +kernel
theorem dX9_positiveOf_17 : decode cX9_positiveOf 17 = .ok (.istore_n 2, 1) := by decide +kernel
theorem dX9_positiveOf_18 : decode cX9_positiveOf 18 = .ok (.aload_n 0, 1) := by decide +kernel
theorem dX9_positiveOf_19 : decode cX9_positiveOf 19 = .ok (.dup, 1) := by decide +kernel
theorem dX9_positiveOf_20 : decode cX9_positiveOf 20 = .ok (.getfield 269, 3) := by decide +kernel
theorem dX9_positiveOf_23 : decode cX9_positiveOf 23 = .ok (.iconst 1, 1) := by decide +kernel
theorem dX9_positiveOf_24 : decode cX9_positiveOf 24 = .ok (.iadd, 1) := by decide +kernel
theorem dX9_positiveOf_25 : decode cX9_positiveOf 25 = .ok (.putfield 269, 3) := by decide +kernel
theorem dX9_positiveOf_28 : decode cX9_positiveOf 28 = .ok (.iload_n 2, 1) := by decide +kernel
theorem dX9_positiveOf_29 : decode cX9_positiveOf 29 = .ok (.ireturn, 1) := by decide +kernel
theorem dX9_positiveOf_30 : decode cX9_positiveOf 30 = .ok (.aload_n 0, 1) := by decide +kernel
theorem dX9_positiveOf_31 : decode cX9_positiveOf 31 = .ok (.iload_n 1, 1) := by decide +kernel
theorem dX9_positiveOf_32 : decode cX9_positiveOf 32 = .ok (.invokevirtual 296, 3) := by decide +kernel
theorem dX9_positiveOf_35 : decode cX9_positiveOf 35 = .ok (.lstore_n 2, 1) := by decide +kernel
theorem dX9_positiveOf_36 : decode cX9_positiveOf 36 = .ok (.aload_n 0, 1) := by decide +kernel
theorem dX9_positiveOf_37 : decode cX9_positiveOf 37 = .ok (.aload_n 0, 1) := by decide +kernel
theorem dX9_positiveOf_38 : decode cX9_positiveOf 38 = .ok (.getfield 269, 3) := by decide +kernel
theorem dX9_positiveOf_41 : decode cX9_positiveOf 41 = .ok (.invokevirtual 272, 3) := by decide +kernel
theorem dX9_positiveOf_44 : decode cX9_positiveOf 44 = .ok (.istore 4, 2) := by decide +kernel
theorem dX9_positiveOf_46 : decode cX9_positiveOf 46 = .ok (.aload_n 0, 1) := by decide +kernel
theorem dX9_positiveOf_47 : decode cX9_positiveOf 47 = .ok (.dup, 1) := by decide +kernel
theorem dX9_positiveOf_48 : decode cX9_positiveOf 48 = .ok (.getfield 269, 3) := by decide +kernel
theorem dX9_positiveOf_51 : decode cX9_positiveOf 51 = .ok (.iconst 1, 1) := by decide +kernel
theorem dX9_positiveOf_52 : decode cX9_positiveOf 52 = .ok (.iadd, 1) := by decide +kernel
theorem dX9_positiveOf_53 : decode cX9_positiveOf 53 = .ok (.putfield 269, 3) := by decide +kernel
theorem dX9_positiveOf_56 : decode cX9_positiveOf 56 = .ok (.aload_n 0, 1) := by decide +kernel
theorem dX9_positiveOf_57 : decode cX9_positiveOf 57 = .ok (.iload_n 1, 1) := by decide +kernel
theorem dX9_positiveOf_58 : decode cX9_positiveOf 58 = .ok (.invokevirtual 296, 3) := by decide +kernel
theorem dX9_positiveOf_61 : decode cX9_positiveOf 61 = .ok (.lstore 5, 2) := by decide +kernel
theorem dX9_positiveOf_63 : decode cX9_positiveOf 63 = .ok (.iload_n 1, 1) := by decide +kernel
theorem dX9_positiveOf_64 : decode cX9_positiveOf 64 = .ok (.ifCond .eq 61, 3) := by decide +kernel
theorem dX9_positiveOf_67 : decode cX9_positiveOf 67 = .ok (.aload_n 0, 1) := by decide +kernel
theorem dX9_positiveOf_68 : decode cX9_positiveOf 68 = .ok (.getfield 279, 3) := by decide +kernel
theorem dX9_positiveOf_71 : decode cX9_positiveOf 71 = .ok (.ifCond .ne 54, 3) := by decide +kernel
theorem dX9_positiveOf_74 : decode cX9_positiveOf 74 = .ok (.iload 4, 2) := by decide +kernel
theorem dX9_positiveOf_76 : decode cX9_positiveOf 76 = .ok (.bipush 60, 2) := by decide +kernel
theorem dX9_positiveOf_78 : decode cX9_positiveOf 78 = .ok (.invokestatic 228, 3) := by decide +kernel
theorem dX9_positiveOf_81 : decode cX9_positiveOf 81 = .ok (.if_icmp .ne 13, 3) := by decide +kernel
theorem dX9_positiveOf_84 : decode cX9_positiveOf 84 = .ok (.lload_n 2, 1) := by decide +kernel
theorem dX9_positiveOf_85 : decode cX9_positiveOf 85 = .ok (.lload 5, 2) := by decide +kernel
theorem dX9_positiveOf_87 : decode cX9_positiveOf 87 = .ok (.lcmp, 1) := by decide +kernel
theorem dX9_positiveOf_88 : decode cX9_positiveOf 88 = .ok (.ifCond .ge 37, 3) := by decide +kernel
theorem dX9_positiveOf_91 : decode cX9_positiveOf 91 = .ok (.goto 30, 3) := by decide +kernel
theorem dX9_positiveOf_94 : decode cX9_positiveOf 94 = .ok (.iload 4, 2) := by decide +kernel
theorem dX9_positiveOf_96 : decode cX9_positiveOf 96 = .ok (.bipush 62, 2) := by decide +kernel
theorem dX9_positiveOf_98 : decode cX9_positiveOf 98 = .ok (.invokestatic 228, 3) := by decide +kernel
theorem dX9_positiveOf_101 : decode cX9_positiveOf 101 = .ok (.if_icmp .ne 13, 3) := by decide +kernel
theorem dX9_positiveOf_104 : decode cX9_positiveOf 104 = .ok (.lload_n 2, 1) := by decide +kernel
theorem dX9_positiveOf_105 : decode cX9_positiveOf 105 = .ok (.lload 5, 2) := by decide +kernel
theorem dX9_positiveOf_107 : decode cX9_positiveOf 107 = .ok (.lcmp, 1) := by decide +kernel
theorem dX9_positiveOf_108 : decode cX9_positiveOf 108 = .ok (.ifCond .le 17, 3) := by decide +kernel
theorem dX9_positiveOf_111 : decode cX9_positiveOf 111 = .ok (.goto 10, 3) := by decide +kernel
theorem dX9_positiveOf_114 : decode cX9_positiveOf 114 = .ok (.lload_n 2, 1) := by decide +kernel
theorem dX9_positiveOf_115 : decode cX9_positiveOf 115 = .ok (.lload 5, 2) := by decide +kernel
theorem dX9_positiveOf_117 : decode cX9_positiveOf 117 = .ok (.lcmp, 1) := by decide +kernel
theorem dX9_positiveOf_118 : decode cX9_positiveOf 118 = .ok (.ifCond .ne 7, 3) := by decide +kernel
theorem dX9_positiveOf_121 : decode cX9_positiveOf 121 = .ok (.iconst 1, 1) := by decide +kernel
theorem dX9_positiveOf_122 : decode cX9_positiveOf 122 = .ok (.goto 4, 3) := by decide +kernel
theorem dX9_positiveOf_125 : decode cX9_positiveOf 125 = .ok (.iconst 0, 1) := by decide +kernel
theorem dX9_positiveOf_126 : decode cX9_positiveOf 126 = .ok (.ireturn, 1) := by decide +kernel
theorem dX9_tells_0 : decode cX9_tells 0 = .ok (.aload_n 0, 1) := by decide +kernel
theorem dX9_tells_1 : decode cX9_tells 1 = .ok (.getfield 28, 3) := by decide +kernel
theorem dX9_tells_4 : decode cX9_tells 4 = .ok (.sipush 204, 3) := by decide +kernel
theorem dX9_tells_7 : decode cX9_tells 7 = .ok (.iaload, 1) := by decide +kernel
theorem dX9_tells_8 : decode cX9_tells 8 = .ok (.iconst (-1), 1) := by decide +kernel
theorem dX9_tells_9 : decode cX9_tells 9 = .ok (.if_icmp .ne 5, 3) := by decide +kernel
theorem dX9_tells_12 : decode cX9_tells 12 = .ok (.iload_n 2, 1) := by decide +kernel
theorem dX9_tells_13 : decode cX9_tells 13 = .ok (.ireturn, 1) := by decide +kernel
theorem dX9_tells_14 : decode cX9_tells 14 = .ok (.aload_n 0, 1) := by decide +kernel
theorem dX9_tells_15 : decode cX9_tells 15 = .ok (.iconst 0, 1) := by decide +kernel
theorem dX9_tells_16 : decode cX9_tells 16 = .ok (.putfield 299, 3) := by decide +kernel
theorem dX9_tells_19 : decode cX9_tells 19 = .ok (.iload_n 2, 1) := by decide +kernel
theorem dX9_tells_20 : decode cX9_tells 20 = .ok (.i2l, 1) := by decide +kernel
theorem dX9_tells_21 : decode cX9_tells 21 = .ok (.lstore_n 3, 1) := by decide +kernel
theorem dX9_tells_22 : decode cX9_tells 22 = .ok (.aload_n 0, 1) := by decide +kernel
theorem dX9_tells_23 : decode cX9_tells 23 = .ok (.sipush 400, 3) := by decide +kernel
theorem dX9_tells_26 : decode cX9_tells 26 = .ok (.aload_n 0, 1) := by decide +kernel
theorem dX9_tells_27 : decode cX9_tells 27 = .ok (.getfield 28, 3) := by decide +kernel
theorem dX9_tells_30 : decode cX9_tells 30 = .ok (.sipush 204, 3) := by decide +kernel
theorem dX9_tells_33 : decode cX9_tells 33 = .ok (.iaload, 1) := by decide +kernel
theorem dX9_tells_34 : decode cX9_tells 34 = .ok (.imul, 1) := by decide +kernel
theorem dX9_tells_35 : decode cX9_tells 35 = .ok (.putfield 269, 3) := by decide +kernel
theorem dX9_tells_38 : decode cX9_tells 38 = .ok (.aload_n 0, 1) := by decide +kernel
theorem dX9_tells_39 : decode cX9_tells 39 = .ok (.aload_n 0, 1) := by decide +kernel
theorem dX9_tells_40 : decode cX9_tells 40 = .ok (.getfield 269, 3) := by decide +kernel
theorem dX9_tells_43 : decode cX9_tells 43 = .ok (.aload_n 0, 1) := by decide +kernel
theorem dX9_tells_44 : decode cX9_tells 44 = .ok (.getfield 28, 3) := by decide +kernel
theorem dX9_tells_47 : decode cX9_tells 47 = .ok (.sipush 205, 3) := by decide +kernel
theorem dX9_tells_50 : decode cX9_tells 50 = .ok (.aload_n 0, 1) := by decide +kernel
theorem dX9_tells_51 : decode cX9_tells 51 = .ok (.getfield 28, 3) := by decide +kernel
theorem dX9_tells_54 : decode cX9_tells 54 = .ok (.sipush 204, 3) := by decide +kernel
theorem dX9_tells_57 : decode cX9_tells 57 = .ok (.iaload, 1) := by decide +kernel
theorem dX9_tells_58 : decode cX9_tells 58 = .ok (.iadd, 1) := by decide +kernel
theorem dX9_tells_59 : decode cX9_tells 59 = .ok (.iaload, 1) := by decide +kernel
theorem dX9_tells_60 : decode cX9_tells 60 = .ok (.iadd, 1) := by decide +kernel
theorem dX9_tells_61 : decode cX9_tells 61 = .ok (.putfield 266, 3) := by decide +kernel
theorem dX9_tells_64 : decode cX9_tells 64 = .ok (.aload_n 0, 1) := by decide +kernel
theorem dX9_tells_65 : decode cX9_tells 65 = .ok (.getfield 269, 3) := by decide +kernel
theorem dX9_tells_68 : decode cX9_tells 68 = .ok (.aload_n 0, 1) := by decide +kernel
theorem dX9_tells_69 : decode cX9_tells 69 = .ok (.getfield 266, 3) := by decide +kernel
theorem dX9_tells_72 : decode cX9_tells 72 = .ok (.if_icmp .ge 144, 3) := by decide +kernel
theorem dX9_tells_75 : decode cX9_tells 75 = .ok (.aload_n 0, 1) := by decide +kernel
theorem dX9_tells_76 : decode cX9_tells 76 = .ok (.aload_n 0, 1) := by decide +kernel
theorem dX9_tells_77 : decode cX9_tells 77 = .ok (.getfield 269, 3) := by decide +kernel
theorem dX9_tells_80 : decode cX9_tells 80 = .ok (.invokevirtual 272, 3) := by decide +kernel
theorem dX9_tells_83 : decode cX9_tells 83 = .ok (.istore 5, 2) := by decide +kernel
theorem dX9_tells_85 : decode cX9_tells 85 = .ok (.aload_n 0, 1) := by decide +kernel
theorem dX9_tells_86 : decode cX9_tells 86 = .ok (.iconst 0, 1) := by decide +kernel
theorem dX9_tells_87 : decode cX9_tells 87 = .ok (.putfield 279, 3) := by decide +kernel
theorem dX9_tells_90 : decode cX9_tells 90 = .ok (.aload_n 0, 1) := by decide +kernel
theorem dX9_tells_91 : decode cX9_tells 91 = .ok (.dup, 1) := by decide +kernel
theorem dX9_tells_92 : decode cX9_tells 92 = .ok (.getfield 269, 3) := by decide +kernel
theorem dX9_tells_95 : decode cX9_tells 95 = .ok (.iconst 1, 1) := by decide +kernel
theorem dX9_tells_96 : decode cX9_tells 96 = .ok (.iadd, 1) := by decide +kernel
theorem dX9_tells_97 : decode cX9_tells 97 = .ok (.putfield 269, 3) := by decide +kernel
theorem dX9_tells_100 : decode cX9_tells 100 = .ok (.iload 5, 2) := by decide +kernel
theorem dX9_tells_102 : decode cX9_tells 102 = .ok (.iconst 2, 1) := by decide +kernel
theorem dX9_tells_103 : decode cX9_tells 103 = .ok (.if_icmp .ne 7, 3) := by decide +kernel
theorem dX9_tells_106 : decode cX9_tells 106 = .ok (.lconst 1, 1) := by decide +kernel
theorem dX9_tells_107 : decode cX9_tells 107 = .ok (.goto 8, 3) := by decide +kernel
theorem dX9_tells_110 : decode cX9_tells 110 = .ok (.aload_n 0, 1) := by decide +kernel
theorem dX9_tells_111 : decode cX9_tells 111 = .ok (.iconst 1, 1) := by decide +kernel
theorem dX9_tells_112 : decode cX9_tells 112 = .ok (.invokevirtual 296, 3) := by decide +kernel
theorem dX9_tells_115 : decode cX9_tells 115 = .ok (.lstore 6, 2) := by decide +kernel
theorem dX9_tells_117 : decode cX9_tells 117 = .ok (.aload_n 0, 1) := by decide +kernel
theorem dX9_tells_118 : decode cX9_tells 118 = .ok (.getfield 279, 3) := by decide +kernel
theorem dX9_tells_121 : decode cX9_tells 121 = .ok (.istore 8, 2) := by decide +kernel
theorem dX9_tells_123 : decode cX9_tells 123 = .ok (.aload_n 0, 1) := by decide +kernel
theorem dX9_tells_124 : decode cX9_tells 124 = .ok (.iconst 0, 1) := by decide +kernel
theorem dX9_tells_125 : decode cX9_tells 125 = .ok (.putfield 279, 3) := by decide +kernel
theorem dX9_tells_128 : decode cX9_tells 128 = .ok (.aload_n 0, 1) := by decide +kernel
theorem dX9_tells_129 : decode cX9_tells 129 = .ok (.iconst 3, 1) := by decide +kernel
theorem dX9_tells_130 : decode cX9_tells 130 = .ok (.invokevirtual 293, 3) := by decide +kernel
theorem dX9_tells_133 : decode cX9_tells 133 = .ok (.ifCond .eq 11, 3) := by decide +kernel
theorem dX9_tells_136 : decode cX9_tells 136 = .ok (.aload_n 0, 1) := by decide +kernel
theorem dX9_tells_137 : decode cX9_tells 137 = .ok (.iconst 1, 1) := by decide +kernel
theorem dX9_tells_138 : decode cX9_tells 138 = .ok (.invokevirtual 323, 3) := by decide +kernel
theorem dX9_tells_141 : decode cX9_tells 141 = .ok (.ifCond .eq 7, 3) := by decide +kernel
theorem dX9_tells_144 : decode cX9_tells 144 = .ok (.iconst 1, 1) := by decide +kernel
theorem dX9_tells_145 : decode cX9_tells 145 = .ok (.goto 4, 3) := by decide +kernel
theorem dX9_tells_148 : decode cX9_tells 148 = .ok (.iconst 0, 1) := by decide +kernel
theorem dX9_tells_149 : decode cX9_tells 149 = .ok (.istore 9, 2) := by decide +kernel
theorem dX9_tells_151 : decode cX9_tells 151 = .ok (.iload 5, 2) := by decide +kernel
theorem dX9_tells_153 : decode cX9_tells 153 = .ok (.iload_n 1, 1) := by decide +kernel
theorem dX9_tells_154 : decode cX9_tells 154 = .ok (.if_icmp .ne 49, 3) := by decide +kernel
theorem dX9_tells_157 : decode cX9_tells 157 = .ok (.iload 9, 2) := by decide +kernel
theorem dX9_tells_159 : decode cX9_tells 159 = .ok (.ifCond .eq 44, 3) := by decide +kernel
theorem dX9_tells_162 : decode cX9_tells 162 = .ok (.aload_n 0, 1) := by decide +kernel
theorem dX9_tells_163 : decode cX9_tells 163 = .ok (.getfield 279, 3) := by decide +kernel
theorem dX9_tells_166 : decode cX9_tells 166 = .ok (.ifCond .ne 37, 3) := by decide +kernel
theorem dX9_tells_169 : decode cX9_tells 169 = .ok (.iload 8, 2) := by decide +kernel
theorem dX9_tells_171 : decode cX9_tells 171 = .ok (.ifCond .ne 32, 3) := by decide +kernel
theorem dX9_tells_174 : decode cX9_tells 174 = .ok (.lload 6, 2) := by decide +kernel
theorem dX9_tells_176 : decode cX9_tells 176 = .ok (.lconst 0, 1) := by decide +kernel
theorem dX9_tells_177 : decode cX9_tells 177 = .ok (.lcmp, 1) := by decide +kernel
theorem dX9_tells_178 : decode cX9_tells 178 = .ok (.ifCond .ge 7, 3) := by decide +kernel
theorem dX9_tells_181 : decode cX9_tells 181 = .ok (.lconst 0, 1) := by decide +kernel
theorem dX9_tells_182 : decode cX9_tells 182 = .ok (.goto 20, 3) := by decide +kernel
theorem dX9_tells_185 : decode cX9_tells 185 = .ok (.lload 6, 2) := by decide +kernel
theorem dX9_tells_187 : decode cX9_tells 187 = .ok (.ldc2_w 326, 3) := by decide +kernel
theorem dX9_tells_190 : decode cX9_tells 190 = .ok (.lcmp, 1) := by decide +kernel
theorem dX9_tells_191 : decode cX9_tells 191 = .ok (.ifCond .le 9, 3) := by decide +kernel
theorem dX9_tells_194 : decode cX9_tells 194 = .ok (.ldc2_w 326, 3) := by decide +kernel
theorem dX9_tells_197 : decode cX9_tells 197 = .ok (.goto 5, 3) := by decide +kernel
theorem dX9_tells_200 : decode cX9_tells 200 = .ok (.lload 6, 2) := by decide +kernel
theorem dX9_tells_202 : decode cX9_tells 202 = .ok (.lstore_n 3, 1) := by decide +kernel
theorem dX9_tells_203 : decode cX9_tells 203 = .ok (.aload_n 0, 1) := by decide +kernel
theorem dX9_tells_204 : decode cX9_tells 204 = .ok (.dup, 1) := by decide +kernel
theorem dX9_tells_205 : decode cX9_tells 205 = .ok (.getfield 269, 3) := by decide +kernel
theorem dX9_tells_208 : decode cX9_tells 208 = .ok (.iconst 1, 1) := by decide +kernel
theorem dX9_tells_209 : decode cX9_tells 209 = .ok (.iadd, 1) := by decide +kernel
theorem dX9_tells_210 : decode cX9_tells 210 = .ok (.putfield 269, 3) := by decide +kernel
theorem dX9_tells_213 : decode cX9_tells 213 = .ok (.goto (-149), 3) := by decide +kernel
theorem dX9_tells_216 : decode cX9_tells 216 = .ok (.lload_n 3, 1) := by decide +kernel
theorem dX9_tells_217 : decode cX9_tells 217 = .ok (.l2i, 1) := by decide +kernel
theorem dX9_tells_218 : decode cX9_tells 218 = .ok (.ireturn, 1) := by decide +kernel
theorem dX9_setsAsked_0 : decode cX9_setsAsked 0 = .ok (.aload_n 0, 1) := by decide +kernel
theorem dX9_setsAsked_1 : decode cX9_setsAsked 1 = .ok (.getfield 63, 3) := by decide +kernel
theorem dX9_setsAsked_4 : decode cX9_setsAsked 4 = .ok (.iconst 0, 1) := by decide +kernel
theorem dX9_setsAsked_5 : decode cX9_setsAsked 5 = .ok (.iload_n 1, 1) := by decide +kernel
theorem dX9_setsAsked_6 : decode cX9_setsAsked 6 = .ok (.iastore, 1) := by decide +kernel
theorem dX9_setsAsked_7 : decode cX9_setsAsked 7 = .ok (.aload_n 0, 1) := by decide +kernel
theorem dX9_setsAsked_8 : decode cX9_setsAsked 8 = .ok (.getfield 63, 3) := by decide +kernel
theorem dX9_setsAsked_11 : decode cX9_setsAsked 11 = .ok (.iconst 1, 1) := by decide +kernel
theorem dX9_setsAsked_12 : decode cX9_setsAsked 12 = .ok (.iload_n 2, 1) := by decide +kernel
theorem dX9_setsAsked_13 : decode cX9_setsAsked 13 = .ok (.iastore, 1) := by decide +kernel
theorem dX9_setsAsked_14 : decode cX9_setsAsked 14 = .ok (.aload_n 0, 1) := by decide +kernel
theorem dX9_setsAsked_15 : decode cX9_setsAsked 15 = .ok (.getfield 63, 3) := by decide +kernel
theorem dX9_setsAsked_18 : decode cX9_setsAsked 18 = .ok (.iconst 2, 1) := by decide +kernel
theorem dX9_setsAsked_19 : decode cX9_setsAsked 19 = .ok (.iload_n 3, 1) := by decide +kernel
theorem dX9_setsAsked_20 : decode cX9_setsAsked 20 = .ok (.iastore, 1) := by decide +kernel
theorem dX9_setsAsked_21 : decode cX9_setsAsked 21 = .ok (.aload_n 0, 1) := by decide +kernel
theorem dX9_setsAsked_22 : decode cX9_setsAsked 22 = .ok (.getfield 63, 3) := by decide +kernel
theorem dX9_setsAsked_25 : decode cX9_setsAsked 25 = .ok (.iconst 3, 1) := by decide +kernel
theorem dX9_setsAsked_26 : decode cX9_setsAsked 26 = .ok (.iload 4, 2) := by decide +kernel
theorem dX9_setsAsked_28 : decode cX9_setsAsked 28 = .ok (.iastore, 1) := by decide +kernel
theorem dX9_setsAsked_29 : decode cX9_setsAsked 29 = .ok (.aload_n 0, 1) := by decide +kernel
theorem dX9_setsAsked_30 : decode cX9_setsAsked 30 = .ok (.getfield 63, 3) := by decide +kernel
theorem dX9_setsAsked_33 : decode cX9_setsAsked 33 = .ok (.iconst 4, 1) := by decide +kernel
theorem dX9_setsAsked_34 : decode cX9_setsAsked 34 = .ok (.aload_n 0, 1) := by decide +kernel
theorem dX9_setsAsked_35 : decode cX9_setsAsked 35 = .ok (.getfield 28, 3) := by decide +kernel
theorem dX9_setsAsked_38 : decode cX9_setsAsked 38 = .ok (.sipush 201, 3) := by decide +kernel
theorem dX9_setsAsked_41 : decode cX9_setsAsked 41 = .ok (.iaload, 1) := by decide +kernel
theorem dX9_setsAsked_42 : decode cX9_setsAsked 42 = .ok (.iastore, 1) := by decide +kernel
theorem dX9_setsAsked_43 : decode cX9_setsAsked 43 = .ok (.aload_n 0, 1) := by decide +kernel
theorem dX9_setsAsked_44 : decode cX9_setsAsked 44 = .ok (.getfield 63, 3) := by decide +kernel
theorem dX9_setsAsked_47 : decode cX9_setsAsked 47 = .ok (.iconst 5, 1) := by decide +kernel
theorem dX9_setsAsked_48 : decode cX9_setsAsked 48 = .ok (.iload 5, 2) := by decide +kernel
theorem dX9_setsAsked_50 : decode cX9_setsAsked 50 = .ok (.iastore, 1) := by decide +kernel
theorem dX9_setsAsked_51 : decode cX9_setsAsked 51 = .ok (.aload_n 0, 1) := by decide +kernel
theorem dX9_setsAsked_52 : decode cX9_setsAsked 52 = .ok (.getfield 63, 3) := by decide +kernel
theorem dX9_setsAsked_55 : decode cX9_setsAsked 55 = .ok (.bipush 6, 2) := by decide +kernel
theorem dX9_setsAsked_57 : decode cX9_setsAsked 57 = .ok (.aload_n 0, 1) := by decide +kernel
theorem dX9_setsAsked_58 : decode cX9_setsAsked 58 = .ok (.getfield 28, 3) := by decide +kernel
theorem dX9_setsAsked_61 : decode cX9_setsAsked 61 = .ok (.sipush 187, 3) := by decide +kernel
theorem dX9_setsAsked_64 : decode cX9_setsAsked 64 = .ok (.iaload, 1) := by decide +kernel
theorem dX9_setsAsked_65 : decode cX9_setsAsked 65 = .ok (.iastore, 1) := by decide +kernel
theorem dX9_setsAsked_66 : decode cX9_setsAsked 66 = .ok (.return_, 1) := by decide +kernel
theorem dX9_ranksOf_0 : decode cX9_ranksOf 0 = .ok (.aload_n 0, 1) := by decide +kernel
theorem dX9_ranksOf_1 : decode cX9_ranksOf 1 = .ok (.iload_n 1, 1) := by decide +kernel
theorem dX9_ranksOf_2 : decode cX9_ranksOf 2 = .ok (.iload_n 1, 1) := by decide +kernel
theorem dX9_ranksOf_3 : decode cX9_ranksOf 3 = .ok (.aload_n 0, 1) := by decide +kernel
theorem dX9_ranksOf_4 : decode cX9_ranksOf 4 = .ok (.getfield 28, 3) := by decide +kernel
theorem dX9_ranksOf_7 : decode cX9_ranksOf 7 = .ok (.bipush 31, 2) := by decide +kernel
theorem dX9_ranksOf_9 : decode cX9_ranksOf 9 = .ok (.iaload, 1) := by decide +kernel
theorem dX9_ranksOf_10 : decode cX9_ranksOf 10 = .ok (.idiv, 1) := by decide +kernel
theorem dX9_ranksOf_11 : decode cX9_ranksOf 11 = .ok (.iconst (-1), 1) := by decide +kernel
theorem dX9_ranksOf_12 : decode cX9_ranksOf 12 = .ok (.iload_n 2, 1) := by decide +kernel
theorem dX9_ranksOf_13 : decode cX9_ranksOf 13 = .ok (.aload_n 0, 1) := by decide +kernel
theorem dX9_ranksOf_14 : decode cX9_ranksOf 14 = .ok (.iload_n 1, 1) := by decide +kernel
theorem dX9_ranksOf_15 : decode cX9_ranksOf 15 = .ok (.iload_n 2, 1) := by decide +kernel
theorem dX9_ranksOf_16 : decode cX9_ranksOf 16 = .ok (.invokevirtual 140, 3) := by decide +kernel
theorem dX9_ranksOf_19 : decode cX9_ranksOf 19 = .ok (.invokevirtual 328, 3) := by decide +kernel
theorem dX9_ranksOf_22 : decode cX9_ranksOf 22 = .ok (.aload_n 0, 1) := by decide +kernel
theorem dX9_ranksOf_23 : decode cX9_ranksOf 23 = .ok (.iconst 1, 1) := by decide +kernel
theorem dX9_ranksOf_24 : decode cX9_ranksOf 24 = .ok (.iconst 0, 1) := by decide +kernel
theorem dX9_ranksOf_25 : decode cX9_ranksOf 25 = .ok (.invokevirtual 332, 3) := by decide +kernel
theorem dX9_ranksOf_28 : decode cX9_ranksOf 28 = .ok (.ireturn, 1) := by decide +kernel
theorem dX9_isBarred_0 : decode cX9_isBarred 0 = .ok (.aload_n 0, 1) := by decide +kernel
theorem dX9_isBarred_1 : decode cX9_isBarred 1 = .ok (.iconst (-1), 1) := by decide +kernel
theorem dX9_isBarred_2 : decode cX9_isBarred 2 = .ok (.iconst (-1), 1) := by decide +kernel
theorem dX9_isBarred_3 : decode cX9_isBarred 3 = .ok (.iload_n 1, 1) := by decide +kernel
theorem dX9_isBarred_4 : decode cX9_isBarred 4 = .ok (.aload_n 0, 1) := by decide +kernel
theorem dX9_isBarred_5 : decode cX9_isBarred 5 = .ok (.getfield 28, 3) := by decide +kernel
theorem dX9_isBarred_8 : decode cX9_isBarred 8 = .ok (.bipush 32, 2) := by decide +kernel
theorem dX9_isBarred_10 : decode cX9_isBarred 10 = .ok (.iaload, 1) := by decide +kernel
theorem dX9_isBarred_11 : decode cX9_isBarred 11 = .ok (.iconst (-1), 1) := by decide +kernel
theorem dX9_isBarred_12 : decode cX9_isBarred 12 = .ok (.invokevirtual 328, 3) := by decide +kernel
theorem dX9_isBarred_15 : decode cX9_isBarred 15 = .ok (.aload_n 0, 1) := by decide +kernel
theorem dX9_isBarred_16 : decode cX9_isBarred 16 = .ok (.iconst 2, 1) := by decide +kernel
theorem dX9_isBarred_17 : decode cX9_isBarred 17 = .ok (.iconst 0, 1) := by decide +kernel
theorem dX9_isBarred_18 : decode cX9_isBarred 18 = .ok (.invokevirtual 332, 3) := by decide +kernel
theorem dX9_isBarred_21 : decode cX9_isBarred 21 = .ok (.iconst 1, 1) := by decide +kernel
theorem dX9_isBarred_22 : decode cX9_isBarred 22 = .ok (.if_icmp .ne 7, 3) := by decide +kernel
theorem dX9_isBarred_25 : decode cX9_isBarred 25 = .ok (.iconst 1, 1) := by decide +kernel
theorem dX9_isBarred_26 : decode cX9_isBarred 26 = .ok (.goto 4, 3) := by decide +kernel
theorem dX9_isBarred_29 : decode cX9_isBarred 29 = .ok (.iconst 0, 1) := by decide +kernel
theorem dX9_isBarred_30 : decode cX9_isBarred 30 = .ok (.ireturn, 1) := by decide +kernel
theorem dX9_laysRanks_0 : decode cX9_laysRanks 0 = .ok (.iconst 0, 1) := by decide +kernel
theorem dX9_laysRanks_1 : decode cX9_laysRanks 1 = .ok (.istore_n 2, 1) := by decide +kernel
theorem dX9_laysRanks_2 : decode cX9_laysRanks 2 = .ok (.iload_n 2, 1) := by decide +kernel
theorem dX9_laysRanks_3 : decode cX9_laysRanks 3 = .ok (.aload_n 0, 1) := by decide +kernel
theorem dX9_laysRanks_4 : decode cX9_laysRanks 4 = .ok (.invokevirtual 123, 3) := by decide +kernel
theorem dX9_laysRanks_7 : decode cX9_laysRanks 7 = .ok (.if_icmp .ge 21, 3) := by decide +kernel
theorem dX9_laysRanks_10 : decode cX9_laysRanks 10 = .ok (.aload_n 0, 1) := by decide +kernel
theorem dX9_laysRanks_11 : decode cX9_laysRanks 11 = .ok (.getfield 72, 3) := by decide +kernel
theorem dX9_laysRanks_14 : decode cX9_laysRanks 14 = .ok (.iload_n 2, 1) := by decide +kernel
theorem dX9_laysRanks_15 : decode cX9_laysRanks 15 = .ok (.aload_n 0, 1) := by decide +kernel
theorem dX9_laysRanks_16 : decode cX9_laysRanks 16 = .ok (.iload_n 2, 1) := by decide +kernel
theorem dX9_laysRanks_17 : decode cX9_laysRanks 17 = .ok (.iload_n 1, 1) := by decide +kernel
theorem dX9_laysRanks_18 : decode cX9_laysRanks 18 = .ok (.invokevirtual 144, 3) := by decide +kernel
theorem dX9_laysRanks_21 : decode cX9_laysRanks 21 = .ok (.iastore, 1) := by decide +kernel
theorem dX9_laysRanks_22 : decode cX9_laysRanks 22 = .ok (.iinc 2 1, 3) := by decide +kernel
theorem dX9_laysRanks_25 : decode cX9_laysRanks 25 = .ok (.goto (-23), 3) := by decide +kernel
theorem dX9_laysRanks_28 : decode cX9_laysRanks 28 = .ok (.return_, 1) := by decide +kernel
theorem dX9_laysVertices_0 : decode cX9_laysVertices 0 = .ok (.iconst 0, 1) := by decide +kernel
theorem dX9_laysVertices_1 : decode cX9_laysVertices 1 = .ok (.istore_n 2, 1) := by decide +kernel
theorem dX9_laysVertices_2 : decode cX9_laysVertices 2 = .ok (.iload_n 2, 1) := by decide +kernel
theorem dX9_laysVertices_3 : decode cX9_laysVertices 3 = .ok (.bipush 60, 2) := by decide +kernel
theorem dX9_laysVertices_5 : decode cX9_laysVertices 5 = .ok (.if_icmp .ge 23, 3) := by decide +kernel
theorem dX9_laysVertices_8 : decode cX9_laysVertices 8 = .ok (.aload_n 0, 1) := by decide +kernel
theorem dX9_laysVertices_9 : decode cX9_laysVertices 9 = .ok (.getfield 78, 3) := by decide +kernel
theorem dX9_laysVertices_12 : decode cX9_laysVertices 12 = .ok (.iload_n 2, 1) := by decide +kernel
theorem dX9_laysVertices_13 : decode cX9_laysVertices 13 = .ok (.iconst 0, 1) := by decide +kernel
theorem dX9_laysVertices_14 : decode cX9_laysVertices 14 = .ok (.iastore, 1) := by decide +kernel
theorem dX9_laysVertices_15 : decode cX9_laysVertices 15 = .ok (.aload_n 0, 1) := by decide +kernel
theorem dX9_laysVertices_16 : decode cX9_laysVertices 16 = .ok (.getfield 81, 3) := by decide +kernel
theorem dX9_laysVertices_19 : decode cX9_laysVertices 19 = .ok (.iload_n 2, 1) := by decide +kernel
theorem dX9_laysVertices_20 : decode cX9_laysVertices 20 = .ok (.iconst 0, 1) := by decide +kernel
theorem dX9_laysVertices_21 : decode cX9_laysVertices 21 = .ok (.iastore, 1) := by decide +kernel
theorem dX9_laysVertices_22 : decode cX9_laysVertices 22 = .ok (.iinc 2 1, 3) := by decide +kernel
theorem dX9_laysVertices_25 : decode cX9_laysVertices 25 = .ok (.goto (-23), 3) := by decide +kernel
theorem dX9_laysVertices_28 : decode cX9_laysVertices 28 = .ok (.iconst 0, 1) := by decide +kernel
theorem dX9_laysVertices_29 : decode cX9_laysVertices 29 = .ok (.istore_n 2, 1) := by decide +kernel
theorem dX9_laysVertices_30 : decode cX9_laysVertices 30 = .ok (.iload_n 2, 1) := by decide +kernel
theorem dX9_laysVertices_31 : decode cX9_laysVertices 31 = .ok (.aload_n 0, 1) := by decide +kernel
theorem dX9_laysVertices_32 : decode cX9_laysVertices 32 = .ok (.getfield 28, 3) := by decide +kernel
theorem dX9_laysVertices_35 : decode cX9_laysVertices 35 = .ok (.iconst 0, 1) := by decide +kernel
theorem dX9_laysVertices_36 : decode cX9_laysVertices 36 = .ok (.iaload, 1) := by decide +kernel
theorem dX9_laysVertices_37 : decode cX9_laysVertices 37 = .ok (.if_icmp .ge 75, 3) := by decide +kernel
theorem dX9_laysVertices_40 : decode cX9_laysVertices 40 = .ok (.iconst 0, 1) := by decide +kernel
theorem dX9_laysVertices_41 : decode cX9_laysVertices 41 = .ok (.istore_n 3, 1) := by decide +kernel
theorem dX9_laysVertices_42 : decode cX9_laysVertices 42 = .ok (.iload_n 3, 1) := by decide +kernel
theorem dX9_laysVertices_43 : decode cX9_laysVertices 43 = .ok (.iconst 3, 1) := by decide +kernel
theorem dX9_laysVertices_44 : decode cX9_laysVertices 44 = .ok (.if_icmp .ge 62, 3) := by decide +kernel
theorem dX9_laysVertices_47 : decode cX9_laysVertices 47 = .ok (.aload_n 0, 1) := by decide +kernel
theorem dX9_laysVertices_48 : decode cX9_laysVertices 48 = .ok (.iload_n 2, 1) := by decide +kernel
theorem dX9_laysVertices_49 : decode cX9_laysVertices 49 = .ok (.invokevirtual 109, 3) := by decide +kernel
theorem dX9_laysVertices_52 : decode cX9_laysVertices 52 = .ok (.iload_n 3, 1) := by decide +kernel
theorem dX9_laysVertices_53 : decode cX9_laysVertices 53 = .ok (.iload_n 1, 1) := by decide +kernel
theorem dX9_laysVertices_54 : decode cX9_laysVertices 54 = .ok (.aload_n 0, 1) := by decide +kernel
theorem dX9_laysVertices_55 : decode cX9_laysVertices 55 = .ok (.getfield 28, 3) := by decide +kernel
theorem dX9_laysVertices_58 : decode cX9_laysVertices 58 = .ok (.bipush 31, 2) := by decide +kernel
theorem dX9_laysVertices_60 : decode cX9_laysVertices 60 = .ok (.iaload, 1) := by decide +kernel
theorem dX9_laysVertices_61 : decode cX9_laysVertices 61 = .ok (.invokestatic 115, 3) := by decide +kernel
theorem dX9_laysVertices_64 : decode cX9_laysVertices 64 = .ok (.istore 4, 2) := by decide +kernel
theorem dX9_laysVertices_66 : decode cX9_laysVertices 66 = .ok (.aload_n 0, 1) := by decide +kernel
theorem dX9_laysVertices_67 : decode cX9_laysVertices 67 = .ok (.getfield 75, 3) := by decide +kernel
theorem dX9_laysVertices_70 : decode cX9_laysVertices 70 = .ok (.iconst 3, 1) := by decide +kernel
theorem dX9_laysVertices_71 : decode cX9_laysVertices 71 = .ok (.iload_n 2, 1) := by decide +kernel
theorem dX9_laysVertices_72 : decode cX9_laysVertices 72 = .ok (.imul, 1) := by decide +kernel
theorem dX9_laysVertices_73 : decode cX9_laysVertices 73 = .ok (.iload_n 3, 1) := by decide +kernel
theorem dX9_laysVertices_74 : decode cX9_laysVertices 74 = .ok (.iadd, 1) := by decide +kernel
theorem dX9_laysVertices_75 : decode cX9_laysVertices 75 = .ok (.iload 4, 2) := by decide +kernel
theorem dX9_laysVertices_77 : decode cX9_laysVertices 77 = .ok (.iastore, 1) := by decide +kernel
theorem dX9_laysVertices_78 : decode cX9_laysVertices 78 = .ok (.aload_n 0, 1) := by decide +kernel
theorem dX9_laysVertices_79 : decode cX9_laysVertices 79 = .ok (.getfield 78, 3) := by decide +kernel
theorem dX9_laysVertices_82 : decode cX9_laysVertices 82 = .ok (.iload 4, 2) := by decide +kernel
theorem dX9_laysVertices_84 : decode cX9_laysVertices 84 = .ok (.dup2, 1) := by decide +kernel
theorem dX9_laysVertices_85 : decode cX9_laysVertices 85 = .ok (.iaload, 1) := by decide +kernel
theorem dX9_laysVertices_86 : decode cX9_laysVertices 86 = .ok (.iconst 1, 1) := by decide +kernel
theorem dX9_laysVertices_87 : decode cX9_laysVertices 87 = .ok (.iadd, 1) := by decide +kernel
theorem dX9_laysVertices_88 : decode cX9_laysVertices 88 = .ok (.iastore, 1) := by decide +kernel
theorem dX9_laysVertices_89 : decode cX9_laysVertices 89 = .ok (.aload_n 0, 1) := by decide +kernel
theorem dX9_laysVertices_90 : decode cX9_laysVertices 90 = .ok (.getfield 81, 3) := by decide +kernel
theorem dX9_laysVertices_93 : decode cX9_laysVertices 93 = .ok (.iload 4, 2) := by decide +kernel
theorem dX9_laysVertices_95 : decode cX9_laysVertices 95 = .ok (.dup2, 1) := by decide +kernel
theorem dX9_laysVertices_96 : decode cX9_laysVertices 96 = .ok (.iaload, 1) := by decide +kernel
theorem dX9_laysVertices_97 : decode cX9_laysVertices 97 = .ok (.iload_n 2, 1) := by decide +kernel
theorem dX9_laysVertices_98 : decode cX9_laysVertices 98 = .ok (.iadd, 1) := by decide +kernel
theorem dX9_laysVertices_99 : decode cX9_laysVertices 99 = .ok (.iastore, 1) := by decide +kernel
theorem dX9_laysVertices_100 : decode cX9_laysVertices 100 = .ok (.iinc 3 1, 3) := by decide +kernel
theorem dX9_laysVertices_103 : decode cX9_laysVertices 103 = .ok (.goto (-61), 3) := by decide +kernel
theorem dX9_laysVertices_106 : decode cX9_laysVertices 106 = .ok (.iinc 2 1, 3) := by decide +kernel
theorem dX9_laysVertices_109 : decode cX9_laysVertices 109 = .ok (.goto (-79), 3) := by decide +kernel
theorem dX9_laysVertices_112 : decode cX9_laysVertices 112 = .ok (.return_, 1) := by decide +kernel
theorem dX9_nextFree_0 : decode cX9_nextFree 0 = .ok (.iconst (-1), 1) := by decide +kernel
theorem dX9_nextFree_1 : decode cX9_nextFree 1 = .ok (.istore_n 1, 1) := by decide +kernel
theorem dX9_nextFree_2 : decode cX9_nextFree 2 = .ok (.iconst 0, 1) := by decide +kernel
theorem dX9_nextFree_3 : decode cX9_nextFree 3 = .ok (.istore_n 2, 1) := by decide +kernel
theorem dX9_nextFree_4 : decode cX9_nextFree 4 = .ok (.iload_n 2, 1) := by decide +kernel
theorem dX9_nextFree_5 : decode cX9_nextFree 5 = .ok (.aload_n 0, 1) := by decide +kernel
theorem dX9_nextFree_6 : decode cX9_nextFree 6 = .ok (.invokevirtual 123, 3) := by decide +kernel
theorem dX9_nextFree_9 : decode cX9_nextFree 9 = .ok (.if_icmp .ge 41, 3) := by decide +kernel
theorem dX9_nextFree_12 : decode cX9_nextFree 12 = .ok (.aload_n 0, 1) := by decide +kernel
theorem dX9_nextFree_13 : decode cX9_nextFree 13 = .ok (.getfield 78, 3) := by decide +kernel
theorem dX9_nextFree_16 : decode cX9_nextFree 16 = .ok (.iload_n 2, 1) := by decide +kernel
theorem dX9_nextFree_17 : decode cX9_nextFree 17 = .ok (.iaload, 1) := by decide +kernel
theorem dX9_nextFree_18 : decode cX9_nextFree 18 = .ok (.iconst 1, 1) := by decide +kernel
theorem dX9_nextFree_19 : decode cX9_nextFree 19 = .ok (.if_icmp .ne 25, 3) := by decide +kernel
theorem dX9_nextFree_22 : decode cX9_nextFree 22 = .ok (.iload_n 1, 1) := by decide +kernel
theorem dX9_nextFree_23 : decode cX9_nextFree 23 = .ok (.iconst (-1), 1) := by decide +kernel
theorem dX9_nextFree_24 : decode cX9_nextFree 24 = .ok (.if_icmp .eq 18, 3) := by decide +kernel
theorem dX9_nextFree_27 : decode cX9_nextFree 27 = .ok (.aload_n 0, 1) := by decide +kernel
theorem dX9_nextFree_28 : decode cX9_nextFree 28 = .ok (.getfield 72, 3) := by decide +kernel
theorem dX9_nextFree_31 : decode cX9_nextFree 31 = .ok (.iload_n 2, 1) := by decide +kernel
theorem dX9_nextFree_32 : decode cX9_nextFree 32 = .ok (.iaload, 1) := by decide +kernel
theorem dX9_nextFree_33 : decode cX9_nextFree 33 = .ok (.aload_n 0, 1) := by decide +kernel
theorem dX9_nextFree_34 : decode cX9_nextFree 34 = .ok (.getfield 72, 3) := by decide +kernel
theorem dX9_nextFree_37 : decode cX9_nextFree 37 = .ok (.iload_n 1, 1) := by decide +kernel
theorem dX9_nextFree_38 : decode cX9_nextFree 38 = .ok (.iaload, 1) := by decide +kernel
theorem dX9_nextFree_39 : decode cX9_nextFree 39 = .ok (.if_icmp .ge 5, 3) := by decide +kernel
theorem dX9_nextFree_42 : decode cX9_nextFree 42 = .ok (.iload_n 2, 1) := by decide +kernel
theorem dX9_nextFree_43 : decode cX9_nextFree 43 = .ok (.istore_n 1, 1) := by decide +kernel
theorem dX9_nextFree_44 : decode cX9_nextFree 44 = .ok (.iinc 2 1, 3) := by decide +kernel
theorem dX9_nextFree_47 : decode cX9_nextFree 47 = .ok (.goto (-43), 3) := by decide +kernel
theorem dX9_nextFree_50 : decode cX9_nextFree 50 = .ok (.iload_n 1, 1) := by decide +kernel
theorem dX9_nextFree_51 : decode cX9_nextFree 51 = .ok (.ireturn, 1) := by decide +kernel
theorem dX9_peels_0 : decode cX9_peels 0 = .ok (.aload_n 0, 1) := by decide +kernel
theorem dX9_peels_1 : decode cX9_peels 1 = .ok (.iload_n 1, 1) := by decide +kernel
theorem dX9_peels_2 : decode cX9_peels 2 = .ok (.invokevirtual 335, 3) := by decide +kernel
theorem dX9_peels_5 : decode cX9_peels 5 = .ok (.aload_n 0, 1) := by decide +kernel
theorem dX9_peels_6 : decode cX9_peels 6 = .ok (.aload_n 0, 1) := by decide +kernel
theorem dX9_peels_7 : decode cX9_peels 7 = .ok (.getfield 28, 3) := by decide +kernel
theorem dX9_peels_10 : decode cX9_peels 10 = .ok (.iconst 0, 1) := by decide +kernel
theorem dX9_peels_11 : decode cX9_peels 11 = .ok (.iaload, 1) := by decide +kernel
theorem dX9_peels_12 : decode cX9_peels 12 = .ok (.putfield 338, 3) := by decide +kernel
theorem dX9_peels_15 : decode cX9_peels 15 = .ok (.iconst 0, 1) := by decide +kernel
theorem dX9_peels_16 : decode cX9_peels 16 = .ok (.istore_n 2, 1) := by decide +kernel
theorem dX9_peels_17 : decode cX9_peels 17 = .ok (.aload_n 0, 1) := by decide +kernel
theorem dX9_peels_18 : decode cX9_peels 18 = .ok (.invokevirtual 341, 3) := by decide +kernel
theorem dX9_peels_21 : decode cX9_peels 21 = .ok (.istore_n 3, 1) := by decide +kernel
theorem dX9_peels_22 : decode cX9_peels 22 = .ok (.iload_n 3, 1) := by decide +kernel
theorem dX9_peels_23 : decode cX9_peels 23 = .ok (.iconst (-1), 1) := by decide +kernel
theorem dX9_peels_24 : decode cX9_peels 24 = .ok (.if_icmp .eq 109, 3) := by decide +kernel
theorem dX9_peels_27 : decode cX9_peels 27 = .ok (.aload_n 0, 1) := by decide +kernel
theorem dX9_peels_28 : decode cX9_peels 28 = .ok (.getfield 81, 3) := by decide +kernel
theorem dX9_peels_31 : decode cX9_peels 31 = .ok (.iload_n 3, 1) := by decide +kernel
theorem dX9_peels_32 : decode cX9_peels 32 = .ok (.iaload, 1) := by decide +kernel
theorem dX9_peels_33 : decode cX9_peels 33 = .ok (.istore 4, 2) := by decide +kernel
theorem dX9_peels_35 : decode cX9_peels 35 = .ok (.iconst 0, 1) := by decide +kernel
theorem dX9_peels_36 : decode cX9_peels 36 = .ok (.istore 5, 2) := by decide +kernel
theorem dX9_peels_38 : decode cX9_peels 38 = .ok (.iload 5, 2) := by decide +kernel
theorem dX9_peels_40 : decode cX9_peels 40 = .ok (.iconst 3, 1) := by decide +kernel
theorem dX9_peels_41 : decode cX9_peels 41 = .ok (.if_icmp .ge 52, 3) := by decide +kernel
theorem dX9_peels_44 : decode cX9_peels 44 = .ok (.aload_n 0, 1) := by decide +kernel
theorem dX9_peels_45 : decode cX9_peels 45 = .ok (.getfield 78, 3) := by decide +kernel
theorem dX9_peels_48 : decode cX9_peels 48 = .ok (.aload_n 0, 1) := by decide +kernel
theorem dX9_peels_49 : decode cX9_peels 49 = .ok (.getfield 75, 3) := by decide +kernel
theorem dX9_peels_52 : decode cX9_peels 52 = .ok (.iconst 3, 1) := by decide +kernel
theorem dX9_peels_53 : decode cX9_peels 53 = .ok (.iload 4, 2) := by decide +kernel
theorem dX9_peels_55 : decode cX9_peels 55 = .ok (.imul, 1) := by decide +kernel
theorem dX9_peels_56 : decode cX9_peels 56 = .ok (.iload 5, 2) := by decide +kernel
theorem dX9_peels_58 : decode cX9_peels 58 = .ok (.iadd, 1) := by decide +kernel
theorem dX9_peels_59 : decode cX9_peels 59 = .ok (.iaload, 1) := by decide +kernel
theorem dX9_peels_60 : decode cX9_peels 60 = .ok (.dup2, 1) := by decide +kernel
theorem dX9_peels_61 : decode cX9_peels 61 = .ok (.iaload, 1) := by decide +kernel
theorem dX9_peels_62 : decode cX9_peels 62 = .ok (.iconst 1, 1) := by decide +kernel
theorem dX9_peels_63 : decode cX9_peels 63 = .ok (.isub, 1) := by decide +kernel
theorem dX9_peels_64 : decode cX9_peels 64 = .ok (.iastore, 1) := by decide +kernel
theorem dX9_peels_65 : decode cX9_peels 65 = .ok (.aload_n 0, 1) := by decide +kernel
theorem dX9_peels_66 : decode cX9_peels 66 = .ok (.getfield 81, 3) := by decide +kernel
theorem dX9_peels_69 : decode cX9_peels 69 = .ok (.aload_n 0, 1) := by decide +kernel
theorem dX9_peels_70 : decode cX9_peels 70 = .ok (.getfield 75, 3) := by decide +kernel
theorem dX9_peels_73 : decode cX9_peels 73 = .ok (.iconst 3, 1) := by decide +kernel
theorem dX9_peels_74 : decode cX9_peels 74 = .ok (.iload 4, 2) := by decide +kernel
theorem dX9_peels_76 : decode cX9_peels 76 = .ok (.imul, 1) := by decide +kernel
theorem dX9_peels_77 : decode cX9_peels 77 = .ok (.iload 5, 2) := by decide +kernel
theorem dX9_peels_79 : decode cX9_peels 79 = .ok (.iadd, 1) := by decide +kernel
theorem dX9_peels_80 : decode cX9_peels 80 = .ok (.iaload, 1) := by decide +kernel
theorem dX9_peels_81 : decode cX9_peels 81 = .ok (.dup2, 1) := by decide +kernel
theorem dX9_peels_82 : decode cX9_peels 82 = .ok (.iaload, 1) := by decide +kernel
theorem dX9_peels_83 : decode cX9_peels 83 = .ok (.iload 4, 2) := by decide +kernel
theorem dX9_peels_85 : decode cX9_peels 85 = .ok (.isub, 1) := by decide +kernel
theorem dX9_peels_86 : decode cX9_peels 86 = .ok (.iastore, 1) := by decide +kernel
theorem dX9_peels_87 : decode cX9_peels 87 = .ok (.iinc 5 1, 3) := by decide +kernel
theorem dX9_peels_90 : decode cX9_peels 90 = .ok (.goto (-52), 3) := by decide +kernel
theorem dX9_peels_93 : decode cX9_peels 93 = .ok (.aload_n 0, 1) := by decide +kernel
theorem dX9_peels_94 : decode cX9_peels 94 = .ok (.getfield 66, 3) := by decide +kernel
theorem dX9_peels_97 : decode cX9_peels 97 = .ok (.iload_n 2, 1) := by decide +kernel
theorem dX9_peels_98 : decode cX9_peels 98 = .ok (.aload_n 0, 1) := by decide +kernel
theorem dX9_peels_99 : decode cX9_peels 99 = .ok (.iload 4, 2) := by decide +kernel
theorem dX9_peels_101 : decode cX9_peels 101 = .ok (.invokevirtual 109, 3) := by decide +kernel
theorem dX9_peels_104 : decode cX9_peels 104 = .ok (.iastore, 1) := by decide +kernel
theorem dX9_peels_105 : decode cX9_peels 105 = .ok (.aload_n 0, 1) := by decide +kernel
theorem dX9_peels_106 : decode cX9_peels 106 = .ok (.getfield 69, 3) := by decide +kernel
theorem dX9_peels_109 : decode cX9_peels 109 = .ok (.iload_n 2, 1) := by decide +kernel
theorem dX9_peels_110 : decode cX9_peels 110 = .ok (.iload_n 3, 1) := by decide +kernel
theorem dX9_peels_111 : decode cX9_peels 111 = .ok (.iastore, 1) := by decide +kernel
theorem dX9_peels_112 : decode cX9_peels 112 = .ok (.iinc 2 1, 3) := by decide +kernel
theorem dX9_peels_115 : decode cX9_peels 115 = .ok (.aload_n 0, 1) := by decide +kernel
theorem dX9_peels_116 : decode cX9_peels 116 = .ok (.dup, 1) := by decide +kernel
theorem dX9_peels_117 : decode cX9_peels 117 = .ok (.getfield 338, 3) := by decide +kernel
theorem dX9_peels_120 : decode cX9_peels 120 = .ok (.iconst 1, 1) := by decide +kernel
theorem dX9_peels_121 : decode cX9_peels 121 = .ok (.isub, 1) := by decide +kernel
theorem dX9_peels_122 : decode cX9_peels 122 = .ok (.putfield 338, 3) := by decide +kernel
theorem dX9_peels_125 : decode cX9_peels 125 = .ok (.aload_n 0, 1) := by decide +kernel
theorem dX9_peels_126 : decode cX9_peels 126 = .ok (.invokevirtual 341, 3) := by decide +kernel
theorem dX9_peels_129 : decode cX9_peels 129 = .ok (.istore_n 3, 1) := by decide +kernel
theorem dX9_peels_130 : decode cX9_peels 130 = .ok (.goto (-108), 3) := by decide +kernel
theorem dX9_peels_133 : decode cX9_peels 133 = .ok (.return_, 1) := by decide +kernel
theorem dX9_coreOf_0 : decode cX9_coreOf 0 = .ok (.iconst 0, 1) := by decide +kernel
theorem dX9_coreOf_1 : decode cX9_coreOf 1 = .ok (.istore_n 2, 1) := by decide +kernel
theorem dX9_coreOf_2 : decode cX9_coreOf 2 = .ok (.iload_n 2, 1) := by decide +kernel
theorem dX9_coreOf_3 : decode cX9_coreOf 3 = .ok (.aload_n 0, 1) := by decide +kernel
theorem dX9_coreOf_4 : decode cX9_coreOf 4 = .ok (.invokevirtual 123, 3) := by decide +kernel
theorem dX9_coreOf_7 : decode cX9_coreOf 7 = .ok (.if_icmp .ge 16, 3) := by decide +kernel
theorem dX9_coreOf_10 : decode cX9_coreOf 10 = .ok (.aload_n 0, 1) := by decide +kernel
theorem dX9_coreOf_11 : decode cX9_coreOf 11 = .ok (.getfield 72, 3) := by decide +kernel
theorem dX9_coreOf_14 : decode cX9_coreOf 14 = .ok (.iload_n 2, 1) := by decide +kernel
theorem dX9_coreOf_15 : decode cX9_coreOf 15 = .ok (.iconst 0, 1) := by decide +kernel
theorem dX9_coreOf_16 : decode cX9_coreOf 16 = .ok (.iastore, 1) := by decide +kernel
theorem dX9_coreOf_17 : decode cX9_coreOf 17 = .ok (.iinc 2 1, 3) := by decide +kernel
theorem dX9_coreOf_20 : decode cX9_coreOf 20 = .ok (.goto (-18), 3) := by decide +kernel
theorem dX9_coreOf_23 : decode cX9_coreOf 23 = .ok (.aload_n 0, 1) := by decide +kernel
theorem dX9_coreOf_24 : decode cX9_coreOf 24 = .ok (.iload_n 1, 1) := by decide +kernel
theorem dX9_coreOf_25 : decode cX9_coreOf 25 = .ok (.invokevirtual 344, 3) := by decide +kernel
theorem dX9_coreOf_28 : decode cX9_coreOf 28 = .ok (.aload_n 0, 1) := by decide +kernel
theorem dX9_coreOf_29 : decode cX9_coreOf 29 = .ok (.getfield 338, 3) := by decide +kernel
theorem dX9_coreOf_32 : decode cX9_coreOf 32 = .ok (.ireturn, 1) := by decide +kernel
theorem dX9_adds_0 : decode cX9_adds 0 = .ok (.iload_n 1, 1) := by decide +kernel
theorem dX9_adds_1 : decode cX9_adds 1 = .ok (.invokestatic 127, 3) := by decide +kernel
theorem dX9_adds_4 : decode cX9_adds 4 = .ok (.ifCond .ne 5, 3) := by decide +kernel
theorem dX9_adds_7 : decode cX9_adds 7 = .ok (.iconst (-1), 1) := by decide +kernel
theorem dX9_adds_8 : decode cX9_adds 8 = .ok (.ireturn, 1) := by decide +kernel
theorem dX9_adds_9 : decode cX9_adds 9 = .ok (.aload_n 0, 1) := by decide +kernel
theorem dX9_adds_10 : decode cX9_adds 10 = .ok (.iload_n 1, 1) := by decide +kernel
theorem dX9_adds_11 : decode cX9_adds 11 = .ok (.invokevirtual 131, 3) := by decide +kernel
theorem dX9_adds_14 : decode cX9_adds 14 = .ok (.ifCond .ne 11, 3) := by decide +kernel
theorem dX9_adds_17 : decode cX9_adds 17 = .ok (.aload_n 0, 1) := by decide +kernel
theorem dX9_adds_18 : decode cX9_adds 18 = .ok (.iload_n 1, 1) := by decide +kernel
theorem dX9_adds_19 : decode cX9_adds 19 = .ok (.invokevirtual 134, 3) := by decide +kernel
theorem dX9_adds_22 : decode cX9_adds 22 = .ok (.ifCond .eq 6, 3) := by decide +kernel
theorem dX9_adds_25 : decode cX9_adds 25 = .ok (.bipush (-3), 2) := by decide +kernel
theorem dX9_adds_27 : decode cX9_adds 27 = .ok (.ireturn, 1) := by decide +kernel
theorem dX9_adds_28 : decode cX9_adds 28 = .ok (.aload_n 0, 1) := by decide +kernel
theorem dX9_adds_29 : decode cX9_adds 29 = .ok (.getfield 28, 3) := by decide +kernel
theorem dX9_adds_32 : decode cX9_adds 32 = .ok (.iconst 0, 1) := by decide +kernel
theorem dX9_adds_33 : decode cX9_adds 33 = .ok (.iaload, 1) := by decide +kernel
theorem dX9_adds_34 : decode cX9_adds 34 = .ok (.bipush 30, 2) := by decide +kernel
theorem dX9_adds_36 : decode cX9_adds 36 = .ok (.if_icmp .ne 6, 3) := by decide +kernel
theorem dX9_adds_39 : decode cX9_adds 39 = .ok (.bipush (-5), 2) := by decide +kernel
theorem dX9_adds_41 : decode cX9_adds 41 = .ok (.ireturn, 1) := by decide +kernel
theorem dX9_adds_42 : decode cX9_adds 42 = .ok (.aload_n 0, 1) := by decide +kernel
theorem dX9_adds_43 : decode cX9_adds 43 = .ok (.iload_n 1, 1) := by decide +kernel
theorem dX9_adds_44 : decode cX9_adds 44 = .ok (.invokevirtual 112, 3) := by decide +kernel
theorem dX9_adds_47 : decode cX9_adds 47 = .ok (.istore_n 2, 1) := by decide +kernel
theorem dX9_adds_48 : decode cX9_adds 48 = .ok (.aload_n 0, 1) := by decide +kernel
theorem dX9_adds_49 : decode cX9_adds 49 = .ok (.getfield 28, 3) := by decide +kernel
theorem dX9_adds_52 : decode cX9_adds 52 = .ok (.iconst 0, 1) := by decide +kernel
theorem dX9_adds_53 : decode cX9_adds 53 = .ok (.iaload, 1) := by decide +kernel
theorem dX9_adds_54 : decode cX9_adds 54 = .ok (.istore_n 3, 1) := by decide +kernel
theorem dX9_adds_55 : decode cX9_adds 55 = .ok (.iload_n 3, 1) := by decide +kernel
theorem dX9_adds_56 : decode cX9_adds 56 = .ok (.iload_n 2, 1) := by decide +kernel
theorem dX9_adds_57 : decode cX9_adds 57 = .ok (.if_icmp .le 24, 3) := by decide +kernel
theorem dX9_adds_60 : decode cX9_adds 60 = .ok (.aload_n 0, 1) := by decide +kernel
theorem dX9_adds_61 : decode cX9_adds 61 = .ok (.getfield 28, 3) := by decide +kernel
theorem dX9_adds_64 : decode cX9_adds 64 = .ok (.iconst 1, 1) := by decide +kernel
theorem dX9_adds_65 : decode cX9_adds 65 = .ok (.iload_n 3, 1) := by decide +kernel
theorem dX9_adds_66 : decode cX9_adds 66 = .ok (.iadd, 1) := by decide +kernel
theorem dX9_adds_67 : decode cX9_adds 67 = .ok (.aload_n 0, 1) := by decide +kernel
theorem dX9_adds_68 : decode cX9_adds 68 = .ok (.iload_n 3, 1) := by decide +kernel
theorem dX9_adds_69 : decode cX9_adds 69 = .ok (.iconst 1, 1) := by decide +kernel
theorem dX9_adds_70 : decode cX9_adds 70 = .ok (.isub, 1) := by decide +kernel
theorem dX9_adds_71 : decode cX9_adds 71 = .ok (.invokevirtual 109, 3) := by decide +kernel
theorem dX9_adds_74 : decode cX9_adds 74 = .ok (.iastore, 1) := by decide +kernel
theorem dX9_adds_75 : decode cX9_adds 75 = .ok (.iinc 3 (-1), 3) := by decide +kernel
theorem dX9_adds_78 : decode cX9_adds 78 = .ok (.goto (-23), 3) := by decide +kernel
theorem dX9_adds_81 : decode cX9_adds 81 = .ok (.aload_n 0, 1) := by decide +kernel
theorem dX9_adds_82 : decode cX9_adds 82 = .ok (.getfield 28, 3) := by decide +kernel
theorem dX9_adds_85 : decode cX9_adds 85 = .ok (.iconst 1, 1) := by decide +kernel
theorem dX9_adds_86 : decode cX9_adds 86 = .ok (.iload_n 2, 1) := by decide +kernel
theorem dX9_adds_87 : decode cX9_adds 87 = .ok (.iadd, 1) := by decide +kernel
theorem dX9_adds_88 : decode cX9_adds 88 = .ok (.iload_n 1, 1) := by decide +kernel
theorem dX9_adds_89 : decode cX9_adds 89 = .ok (.iastore, 1) := by decide +kernel
theorem dX9_adds_90 : decode cX9_adds 90 = .ok (.aload_n 0, 1) := by decide +kernel
theorem dX9_adds_91 : decode cX9_adds 91 = .ok (.getfield 28, 3) := by decide +kernel
theorem dX9_adds_94 : decode cX9_adds 94 = .ok (.iconst 0, 1) := by decide +kernel
theorem dX9_adds_95 : decode cX9_adds 95 = .ok (.dup2, 1) := by decide +kernel
theorem dX9_adds_96 : decode cX9_adds 96 = .ok (.iaload, 1) := by decide +kernel
theorem dX9_adds_97 : decode cX9_adds 97 = .ok (.iconst 1, 1) := by decide +kernel
theorem dX9_adds_98 : decode cX9_adds 98 = .ok (.iadd, 1) := by decide +kernel
theorem dX9_adds_99 : decode cX9_adds 99 = .ok (.iastore, 1) := by decide +kernel
theorem dX9_adds_100 : decode cX9_adds 100 = .ok (.aload_n 0, 1) := by decide +kernel
theorem dX9_adds_101 : decode cX9_adds 101 = .ok (.getfield 28, 3) := by decide +kernel
theorem dX9_adds_104 : decode cX9_adds 104 = .ok (.iconst 0, 1) := by decide +kernel
theorem dX9_adds_105 : decode cX9_adds 105 = .ok (.iaload, 1) := by decide +kernel
theorem dX9_adds_106 : decode cX9_adds 106 = .ok (.ireturn, 1) := by decide +kernel
theorem dX9_takesKey_0 : decode cX9_takesKey 0 = .ok (.iload_n 1, 1) := by decide +kernel
theorem dX9_takesKey_1 : decode cX9_takesKey 1 = .ok (.invokestatic 127, 3) := by decide +kernel
theorem dX9_takesKey_4 : decode cX9_takesKey 4 = .ok (.ifCond .ne 5, 3) := by decide +kernel
theorem dX9_takesKey_7 : decode cX9_takesKey 7 = .ok (.iconst (-1), 1) := by decide +kernel
theorem dX9_takesKey_8 : decode cX9_takesKey 8 = .ok (.ireturn, 1) := by decide +kernel
theorem dX9_takesKey_9 : decode cX9_takesKey 9 = .ok (.aload_n 0, 1) := by decide +kernel
theorem dX9_takesKey_10 : decode cX9_takesKey 10 = .ok (.iload_n 1, 1) := by decide +kernel
theorem dX9_takesKey_11 : decode cX9_takesKey 11 = .ok (.invokevirtual 131, 3) := by decide +kernel
theorem dX9_takesKey_14 : decode cX9_takesKey 14 = .ok (.ifCond .ne 6, 3) := by decide +kernel
theorem dX9_takesKey_17 : decode cX9_takesKey 17 = .ok (.bipush (-3), 2) := by decide +kernel
theorem dX9_takesKey_19 : decode cX9_takesKey 19 = .ok (.ireturn, 1) := by decide +kernel
theorem dX9_takesKey_20 : decode cX9_takesKey 20 = .ok (.aload_n 0, 1) := by decide +kernel
theorem dX9_takesKey_21 : decode cX9_takesKey 21 = .ok (.iload_n 1, 1) := by decide +kernel
theorem dX9_takesKey_22 : decode cX9_takesKey 22 = .ok (.invokevirtual 112, 3) := by decide +kernel
theorem dX9_takesKey_25 : decode cX9_takesKey 25 = .ok (.istore_n 2, 1) := by decide +kernel
theorem dX9_takesKey_26 : decode cX9_takesKey 26 = .ok (.aload_n 0, 1) := by decide +kernel
theorem dX9_takesKey_27 : decode cX9_takesKey 27 = .ok (.getfield 28, 3) := by decide +kernel
theorem dX9_takesKey_30 : decode cX9_takesKey 30 = .ok (.iconst 0, 1) := by decide +kernel
theorem dX9_takesKey_31 : decode cX9_takesKey 31 = .ok (.dup2, 1) := by decide +kernel
theorem dX9_takesKey_32 : decode cX9_takesKey 32 = .ok (.iaload, 1) := by decide +kernel
theorem dX9_takesKey_33 : decode cX9_takesKey 33 = .ok (.iconst 1, 1) := by decide +kernel
theorem dX9_takesKey_34 : decode cX9_takesKey 34 = .ok (.isub, 1) := by decide +kernel
theorem dX9_takesKey_35 : decode cX9_takesKey 35 = .ok (.iastore, 1) := by decide +kernel
theorem dX9_takesKey_36 : decode cX9_takesKey 36 = .ok (.iload_n 2, 1) := by decide +kernel
theorem dX9_takesKey_37 : decode cX9_takesKey 37 = .ok (.istore_n 3, 1) := by decide +kernel
theorem dX9_takesKey_38 : decode cX9_takesKey 38 = .ok (.iload_n 3, 1) := by decide +kernel
theorem dX9_takesKey_39 : decode cX9_takesKey 39 = .ok (.aload_n 0, 1) := by decide +kernel
theorem dX9_takesKey_40 : decode cX9_takesKey 40 = .ok (.getfield 28, 3) := by decide +kernel
theorem dX9_takesKey_43 : decode cX9_takesKey 43 = .ok (.iconst 0, 1) := by decide +kernel
theorem dX9_takesKey_44 : decode cX9_takesKey 44 = .ok (.iaload, 1) := by decide +kernel
theorem dX9_takesKey_45 : decode cX9_takesKey 45 = .ok (.if_icmp .ge 24, 3) := by decide +kernel
theorem dX9_takesKey_48 : decode cX9_takesKey 48 = .ok (.aload_n 0, 1) := by decide +kernel
theorem dX9_takesKey_49 : decode cX9_takesKey 49 = .ok (.getfield 28, 3) := by decide +kernel
theorem dX9_takesKey_52 : decode cX9_takesKey 52 = .ok (.iconst 1, 1) := by decide +kernel
theorem dX9_takesKey_53 : decode cX9_takesKey 53 = .ok (.iload_n 3, 1) := by decide +kernel
theorem dX9_takesKey_54 : decode cX9_takesKey 54 = .ok (.iadd, 1) := by decide +kernel
theorem dX9_takesKey_55 : decode cX9_takesKey 55 = .ok (.aload_n 0, 1) := by decide +kernel
theorem dX9_takesKey_56 : decode cX9_takesKey 56 = .ok (.iload_n 3, 1) := by decide +kernel
theorem dX9_takesKey_57 : decode cX9_takesKey 57 = .ok (.iconst 1, 1) := by decide +kernel
theorem dX9_takesKey_58 : decode cX9_takesKey 58 = .ok (.iadd, 1) := by decide +kernel
theorem dX9_takesKey_59 : decode cX9_takesKey 59 = .ok (.invokevirtual 109, 3) := by decide +kernel
theorem dX9_takesKey_62 : decode cX9_takesKey 62 = .ok (.iastore, 1) := by decide +kernel
theorem dX9_takesKey_63 : decode cX9_takesKey 63 = .ok (.iinc 3 1, 3) := by decide +kernel
theorem dX9_takesKey_66 : decode cX9_takesKey 66 = .ok (.goto (-28), 3) := by decide +kernel
theorem dX9_takesKey_69 : decode cX9_takesKey 69 = .ok (.aload_n 0, 1) := by decide +kernel
theorem dX9_takesKey_70 : decode cX9_takesKey 70 = .ok (.getfield 28, 3) := by decide +kernel
theorem dX9_takesKey_73 : decode cX9_takesKey 73 = .ok (.iconst 0, 1) := by decide +kernel
theorem dX9_takesKey_74 : decode cX9_takesKey 74 = .ok (.iaload, 1) := by decide +kernel
theorem dX9_takesKey_75 : decode cX9_takesKey 75 = .ok (.ireturn, 1) := by decide +kernel
theorem dX9_setsSide_0 : decode cX9_setsSide 0 = .ok (.iload_n 1, 1) := by decide +kernel
theorem dX9_setsSide_1 : decode cX9_setsSide 1 = .ok (.iconst 2, 1) := by decide +kernel
theorem dX9_setsSide_2 : decode cX9_setsSide 2 = .ok (.bipush 20, 2) := by decide +kernel
theorem dX9_setsSide_4 : decode cX9_setsSide 4 = .ok (.invokestatic 18, 3) := by decide +kernel
theorem dX9_setsSide_7 : decode cX9_setsSide 7 = .ok (.ifCond .ne 5, 3) := by decide +kernel
theorem dX9_setsSide_10 : decode cX9_setsSide 10 = .ok (.iconst (-1), 1) := by decide +kernel
theorem dX9_setsSide_11 : decode cX9_setsSide 11 = .ok (.ireturn, 1) := by decide +kernel
theorem dX9_setsSide_12 : decode cX9_setsSide 12 = .ok (.aload_n 0, 1) := by decide +kernel
theorem dX9_setsSide_13 : decode cX9_setsSide 13 = .ok (.getfield 28, 3) := by decide +kernel
theorem dX9_setsSide_16 : decode cX9_setsSide 16 = .ok (.bipush 31, 2) := by decide +kernel
theorem dX9_setsSide_18 : decode cX9_setsSide 18 = .ok (.iaload, 1) := by decide +kernel
theorem dX9_setsSide_19 : decode cX9_setsSide 19 = .ok (.istore_n 2, 1) := by decide +kernel
theorem dX9_setsSide_20 : decode cX9_setsSide 20 = .ok (.iload_n 2, 1) := by decide +kernel
theorem dX9_setsSide_21 : decode cX9_setsSide 21 = .ok (.iload_n 1, 1) := by decide +kernel
theorem dX9_setsSide_22 : decode cX9_setsSide 22 = .ok (.if_icmp .ne 6, 3) := by decide +kernel
theorem dX9_setsSide_25 : decode cX9_setsSide 25 = .ok (.bipush (-3), 2) := by decide +kernel
theorem dX9_setsSide_27 : decode cX9_setsSide 27 = .ok (.ireturn, 1) := by decide +kernel
theorem dX9_setsSide_28 : decode cX9_setsSide 28 = .ok (.aload_n 0, 1) := by decide +kernel
theorem dX9_setsSide_29 : decode cX9_setsSide 29 = .ok (.getfield 28, 3) := by decide +kernel
theorem dX9_setsSide_32 : decode cX9_setsSide 32 = .ok (.bipush 31, 2) := by decide +kernel
theorem dX9_setsSide_34 : decode cX9_setsSide 34 = .ok (.iload_n 1, 1) := by decide +kernel
theorem dX9_setsSide_35 : decode cX9_setsSide 35 = .ok (.iastore, 1) := by decide +kernel
theorem dX9_setsSide_36 : decode cX9_setsSide 36 = .ok (.iload_n 2, 1) := by decide +kernel
theorem dX9_setsSide_37 : decode cX9_setsSide 37 = .ok (.ireturn, 1) := by decide +kernel
theorem dX9_setsSeed_0 : decode cX9_setsSeed 0 = .ok (.iload_n 1, 1) := by decide +kernel
theorem dX9_setsSeed_1 : decode cX9_setsSeed 1 = .ok (.invokestatic 347, 3) := by decide +kernel
theorem dX9_setsSeed_4 : decode cX9_setsSeed 4 = .ok (.ifCond .ne 5, 3) := by decide +kernel
theorem dX9_setsSeed_7 : decode cX9_setsSeed 7 = .ok (.iconst (-1), 1) := by decide +kernel
theorem dX9_setsSeed_8 : decode cX9_setsSeed 8 = .ok (.ireturn, 1) := by decide +kernel
theorem dX9_setsSeed_9 : decode cX9_setsSeed 9 = .ok (.aload_n 0, 1) := by decide +kernel
theorem dX9_setsSeed_10 : decode cX9_setsSeed 10 = .ok (.getfield 28, 3) := by decide +kernel
theorem dX9_setsSeed_13 : decode cX9_setsSeed 13 = .ok (.bipush 32, 2) := by decide +kernel
theorem dX9_setsSeed_15 : decode cX9_setsSeed 15 = .ok (.iaload, 1) := by decide +kernel
theorem dX9_setsSeed_16 : decode cX9_setsSeed 16 = .ok (.istore_n 2, 1) := by decide +kernel
theorem dX9_setsSeed_17 : decode cX9_setsSeed 17 = .ok (.iload_n 2, 1) := by decide +kernel
theorem dX9_setsSeed_18 : decode cX9_setsSeed 18 = .ok (.iload_n 1, 1) := by decide +kernel
theorem dX9_setsSeed_19 : decode cX9_setsSeed 19 = .ok (.if_icmp .ne 6, 3) := by decide +kernel
theorem dX9_setsSeed_22 : decode cX9_setsSeed 22 = .ok (.bipush (-3), 2) := by decide +kernel
theorem dX9_setsSeed_24 : decode cX9_setsSeed 24 = .ok (.ireturn, 1) := by decide +kernel
theorem dX9_setsSeed_25 : decode cX9_setsSeed 25 = .ok (.aload_n 0, 1) := by decide +kernel
theorem dX9_setsSeed_26 : decode cX9_setsSeed 26 = .ok (.getfield 28, 3) := by decide +kernel
theorem dX9_setsSeed_29 : decode cX9_setsSeed 29 = .ok (.bipush 32, 2) := by decide +kernel
theorem dX9_setsSeed_31 : decode cX9_setsSeed 31 = .ok (.iload_n 1, 1) := by decide +kernel
theorem dX9_setsSeed_32 : decode cX9_setsSeed 32 = .ok (.iastore, 1) := by decide +kernel
theorem dX9_setsSeed_33 : decode cX9_setsSeed 33 = .ok (.iload_n 2, 1) := by decide +kernel
theorem dX9_setsSeed_34 : decode cX9_setsSeed 34 = .ok (.ireturn, 1) := by decide +kernel
theorem dX9_together_0 : decode cX9_together 0 = .ok (.iconst 0, 1) := by decide +kernel
theorem dX9_together_1 : decode cX9_together 1 = .ok (.istore_n 3, 1) := by decide +kernel
theorem dX9_together_2 : decode cX9_together 2 = .ok (.iconst 0, 1) := by decide +kernel
theorem dX9_together_3 : decode cX9_together 3 = .ok (.istore 4, 2) := by decide +kernel
theorem dX9_together_5 : decode cX9_together 5 = .ok (.iload 4, 2) := by decide +kernel
theorem dX9_together_7 : decode cX9_together 7 = .ok (.iconst 3, 1) := by decide +kernel
theorem dX9_together_8 : decode cX9_together 8 = .ok (.if_icmp .ge 39, 3) := by decide +kernel
theorem dX9_together_11 : decode cX9_together 11 = .ok (.iload_n 3, 1) := by decide +kernel
theorem dX9_together_12 : decode cX9_together 12 = .ok (.aload_n 0, 1) := by decide +kernel
theorem dX9_together_13 : decode cX9_together 13 = .ok (.getfield 28, 3) := by decide +kernel
theorem dX9_together_16 : decode cX9_together 16 = .ok (.iload_n 2, 1) := by decide +kernel
theorem dX9_together_17 : decode cX9_together 17 = .ok (.iload_n 1, 1) := by decide +kernel
theorem dX9_together_18 : decode cX9_together 18 = .ok (.iload 4, 2) := by decide +kernel
theorem dX9_together_20 : decode cX9_together 20 = .ok (.aload_n 0, 1) := by decide +kernel
theorem dX9_together_21 : decode cX9_together 21 = .ok (.getfield 28, 3) := by decide +kernel
theorem dX9_together_24 : decode cX9_together 24 = .ok (.bipush 35, 2) := by decide +kernel
theorem dX9_together_26 : decode cX9_together 26 = .ok (.iaload, 1) := by decide +kernel
theorem dX9_together_27 : decode cX9_together 27 = .ok (.aload_n 0, 1) := by decide +kernel
theorem dX9_together_28 : decode cX9_together 28 = .ok (.getfield 28, 3) := by decide +kernel
theorem dX9_together_31 : decode cX9_together 31 = .ok (.bipush 34, 2) := by decide +kernel
theorem dX9_together_33 : decode cX9_together 33 = .ok (.iaload, 1) := by decide +kernel
theorem dX9_together_34 : decode cX9_together 34 = .ok (.invokestatic 115, 3) := by decide +kernel
theorem dX9_together_37 : decode cX9_together 37 = .ok (.iadd, 1) := by decide +kernel
theorem dX9_together_38 : decode cX9_together 38 = .ok (.iaload, 1) := by decide +kernel
theorem dX9_together_39 : decode cX9_together 39 = .ok (.iadd, 1) := by decide +kernel
theorem dX9_together_40 : decode cX9_together 40 = .ok (.istore_n 3, 1) := by decide +kernel
theorem dX9_together_41 : decode cX9_together 41 = .ok (.iinc 4 1, 3) := by decide +kernel
theorem dX9_together_44 : decode cX9_together 44 = .ok (.goto (-39), 3) := by decide +kernel
theorem dX9_together_47 : decode cX9_together 47 = .ok (.iload_n 3, 1) := by decide +kernel
theorem dX9_together_48 : decode cX9_together 48 = .ok (.ireturn, 1) := by decide +kernel
theorem dX9_laysTable_0 : decode cX9_laysTable 0 = .ok (.aload_n 0, 1) := by decide +kernel
theorem dX9_laysTable_1 : decode cX9_laysTable 1 = .ok (.getfield 28, 3) := by decide +kernel
theorem dX9_laysTable_4 : decode cX9_laysTable 4 = .ok (.iconst 0, 1) := by decide +kernel
theorem dX9_laysTable_5 : decode cX9_laysTable 5 = .ok (.iaload, 1) := by decide +kernel
theorem dX9_laysTable_6 : decode cX9_laysTable 6 = .ok (.istore_n 1, 1) := by decide +kernel
theorem dX9_laysTable_7 : decode cX9_laysTable 7 = .ok (.aload_n 0, 1) := by decide +kernel
theorem dX9_laysTable_8 : decode cX9_laysTable 8 = .ok (.getfield 28, 3) := by decide +kernel
theorem dX9_laysTable_11 : decode cX9_laysTable 11 = .ok (.bipush 33, 2) := by decide +kernel
theorem dX9_laysTable_13 : decode cX9_laysTable 13 = .ok (.iconst 1, 1) := by decide +kernel
theorem dX9_laysTable_14 : decode cX9_laysTable 14 = .ok (.iastore, 1) := by decide +kernel
theorem dX9_laysTable_15 : decode cX9_laysTable 15 = .ok (.aload_n 0, 1) := by decide +kernel
theorem dX9_laysTable_16 : decode cX9_laysTable 16 = .ok (.getfield 28, 3) := by decide +kernel
theorem dX9_laysTable_19 : decode cX9_laysTable 19 = .ok (.bipush 34, 2) := by decide +kernel
theorem dX9_laysTable_21 : decode cX9_laysTable 21 = .ok (.aload_n 0, 1) := by decide +kernel
theorem dX9_laysTable_22 : decode cX9_laysTable 22 = .ok (.getfield 28, 3) := by decide +kernel
theorem dX9_laysTable_25 : decode cX9_laysTable 25 = .ok (.bipush 31, 2) := by decide +kernel
theorem dX9_laysTable_27 : decode cX9_laysTable 27 = .ok (.iaload, 1) := by decide +kernel
theorem dX9_laysTable_28 : decode cX9_laysTable 28 = .ok (.iastore, 1) := by decide +kernel
theorem dX9_laysTable_29 : decode cX9_laysTable 29 = .ok (.aload_n 0, 1) := by decide +kernel
theorem dX9_laysTable_30 : decode cX9_laysTable 30 = .ok (.getfield 28, 3) := by decide +kernel
theorem dX9_laysTable_33 : decode cX9_laysTable 33 = .ok (.bipush 35, 2) := by decide +kernel
theorem dX9_laysTable_35 : decode cX9_laysTable 35 = .ok (.aload_n 0, 1) := by decide +kernel
theorem dX9_laysTable_36 : decode cX9_laysTable 36 = .ok (.getfield 28, 3) := by decide +kernel
theorem dX9_laysTable_39 : decode cX9_laysTable 39 = .ok (.bipush 32, 2) := by decide +kernel
theorem dX9_laysTable_41 : decode cX9_laysTable 41 = .ok (.iaload, 1) := by decide +kernel
theorem dX9_laysTable_42 : decode cX9_laysTable 42 = .ok (.iastore, 1) := by decide +kernel
theorem dX9_laysTable_43 : decode cX9_laysTable 43 = .ok (.aload_n 0, 1) := by decide +kernel
theorem dX9_laysTable_44 : decode cX9_laysTable 44 = .ok (.getfield 28, 3) := by decide +kernel
theorem dX9_laysTable_47 : decode cX9_laysTable 47 = .ok (.bipush 36, 2) := by decide +kernel
theorem dX9_laysTable_49 : decode cX9_laysTable 49 = .ok (.iload_n 1, 1) := by decide +kernel
theorem dX9_laysTable_50 : decode cX9_laysTable 50 = .ok (.iastore, 1) := by decide +kernel
theorem dX9_laysTable_51 : decode cX9_laysTable 51 = .ok (.iconst 0, 1) := by decide +kernel
theorem dX9_laysTable_52 : decode cX9_laysTable 52 = .ok (.istore_n 2, 1) := by decide +kernel
theorem dX9_laysTable_53 : decode cX9_laysTable 53 = .ok (.iload_n 2, 1) := by decide +kernel
theorem dX9_laysTable_54 : decode cX9_laysTable 54 = .ok (.bipush 30, 2) := by decide +kernel
theorem dX9_laysTable_56 : decode cX9_laysTable 56 = .ok (.if_icmp .ge 32, 3) := by decide +kernel
theorem dX9_laysTable_59 : decode cX9_laysTable 59 = .ok (.aload_n 0, 1) := by decide +kernel
theorem dX9_laysTable_60 : decode cX9_laysTable 60 = .ok (.getfield 28, 3) := by decide +kernel
theorem dX9_laysTable_63 : decode cX9_laysTable 63 = .ok (.bipush 37, 2) := by decide +kernel
theorem dX9_laysTable_65 : decode cX9_laysTable 65 = .ok (.iload_n 2, 1) := by decide +kernel
theorem dX9_laysTable_66 : decode cX9_laysTable 66 = .ok (.iadd, 1) := by decide +kernel
theorem dX9_laysTable_67 : decode cX9_laysTable 67 = .ok (.iload_n 2, 1) := by decide +kernel
theorem dX9_laysTable_68 : decode cX9_laysTable 68 = .ok (.iload_n 1, 1) := by decide +kernel
theorem dX9_laysTable_69 : decode cX9_laysTable 69 = .ok (.if_icmp .ge 11, 3) := by decide +kernel
theorem dX9_laysTable_72 : decode cX9_laysTable 72 = .ok (.aload_n 0, 1) := by decide +kernel
theorem dX9_laysTable_73 : decode cX9_laysTable 73 = .ok (.iload_n 2, 1) := by decide +kernel
theorem dX9_laysTable_74 : decode cX9_laysTable 74 = .ok (.invokevirtual 109, 3) := by decide +kernel
theorem dX9_laysTable_77 : decode cX9_laysTable 77 = .ok (.goto 4, 3) := by decide +kernel
theorem dX9_laysTable_80 : decode cX9_laysTable 80 = .ok (.iconst 0, 1) := by decide +kernel
theorem dX9_laysTable_81 : decode cX9_laysTable 81 = .ok (.iastore, 1) := by decide +kernel
theorem dX9_laysTable_82 : decode cX9_laysTable 82 = .ok (.iinc 2 1, 3) := by decide +kernel
theorem dX9_laysTable_85 : decode cX9_laysTable 85 = .ok (.goto (-32), 3) := by decide +kernel
theorem dX9_laysTable_88 : decode cX9_laysTable 88 = .ok (.iconst 0, 1) := by decide +kernel
theorem dX9_laysTable_89 : decode cX9_laysTable 89 = .ok (.istore_n 2, 1) := by decide +kernel
theorem dX9_laysTable_90 : decode cX9_laysTable 90 = .ok (.iload_n 2, 1) := by decide +kernel
theorem dX9_laysTable_91 : decode cX9_laysTable 91 = .ok (.bipush 60, 2) := by decide +kernel
theorem dX9_laysTable_93 : decode cX9_laysTable 93 = .ok (.if_icmp .ge 29, 3) := by decide +kernel
theorem dX9_laysTable_96 : decode cX9_laysTable 96 = .ok (.aload_n 0, 1) := by decide +kernel
theorem dX9_laysTable_97 : decode cX9_laysTable 97 = .ok (.getfield 28, 3) := by decide +kernel
theorem dX9_laysTable_100 : decode cX9_laysTable 100 = .ok (.bipush 67, 2) := by decide +kernel
theorem dX9_laysTable_102 : decode cX9_laysTable 102 = .ok (.iload_n 2, 1) := by decide +kernel
theorem dX9_laysTable_103 : decode cX9_laysTable 103 = .ok (.iadd, 1) := by decide +kernel
theorem dX9_laysTable_104 : decode cX9_laysTable 104 = .ok (.iconst 3, 1) := by decide +kernel
theorem dX9_laysTable_105 : decode cX9_laysTable 105 = .ok (.iastore, 1) := by decide +kernel
theorem dX9_laysTable_106 : decode cX9_laysTable 106 = .ok (.aload_n 0, 1) := by decide +kernel
theorem dX9_laysTable_107 : decode cX9_laysTable 107 = .ok (.getfield 28, 3) := by decide +kernel
theorem dX9_laysTable_110 : decode cX9_laysTable 110 = .ok (.bipush 127, 2) := by decide +kernel
theorem dX9_laysTable_112 : decode cX9_laysTable 112 = .ok (.iload_n 2, 1) := by decide +kernel
theorem dX9_laysTable_113 : decode cX9_laysTable 113 = .ok (.iadd, 1) := by decide +kernel
theorem dX9_laysTable_114 : decode cX9_laysTable 114 = .ok (.iconst 0, 1) := by decide +kernel
theorem dX9_laysTable_115 : decode cX9_laysTable 115 = .ok (.iastore, 1) := by decide +kernel
theorem dX9_laysTable_116 : decode cX9_laysTable 116 = .ok (.iinc 2 1, 3) := by decide +kernel
theorem dX9_laysTable_119 : decode cX9_laysTable 119 = .ok (.goto (-29), 3) := by decide +kernel
theorem dX9_laysTable_122 : decode cX9_laysTable 122 = .ok (.iload_n 1, 1) := by decide +kernel
theorem dX9_laysTable_123 : decode cX9_laysTable 123 = .ok (.iconst 1, 1) := by decide +kernel
theorem dX9_laysTable_124 : decode cX9_laysTable 124 = .ok (.isub, 1) := by decide +kernel
theorem dX9_laysTable_125 : decode cX9_laysTable 125 = .ok (.istore_n 2, 1) := by decide +kernel
theorem dX9_laysTable_126 : decode cX9_laysTable 126 = .ok (.iload_n 2, 1) := by decide +kernel
theorem dX9_laysTable_127 : decode cX9_laysTable 127 = .ok (.ifCond .lt 111, 3) := by decide +kernel
theorem dX9_laysTable_130 : decode cX9_laysTable 130 = .ok (.aload_n 0, 1) := by decide +kernel
theorem dX9_laysTable_131 : decode cX9_laysTable 131 = .ok (.getfield 69, 3) := by decide +kernel
theorem dX9_laysTable_134 : decode cX9_laysTable 134 = .ok (.iload_n 2, 1) := by decide +kernel
theorem dX9_laysTable_135 : decode cX9_laysTable 135 = .ok (.iaload, 1) := by decide +kernel
theorem dX9_laysTable_136 : decode cX9_laysTable 136 = .ok (.istore_n 3, 1) := by decide +kernel
theorem dX9_laysTable_137 : decode cX9_laysTable 137 = .ok (.aload_n 0, 1) := by decide +kernel
theorem dX9_laysTable_138 : decode cX9_laysTable 138 = .ok (.getfield 28, 3) := by decide +kernel
theorem dX9_laysTable_141 : decode cX9_laysTable 141 = .ok (.bipush 67, 2) := by decide +kernel
theorem dX9_laysTable_143 : decode cX9_laysTable 143 = .ok (.iload_n 3, 1) := by decide +kernel
theorem dX9_laysTable_144 : decode cX9_laysTable 144 = .ok (.iadd, 1) := by decide +kernel
theorem dX9_laysTable_145 : decode cX9_laysTable 145 = .ok (.iconst 0, 1) := by decide +kernel
theorem dX9_laysTable_146 : decode cX9_laysTable 146 = .ok (.iastore, 1) := by decide +kernel
theorem dX9_laysTable_147 : decode cX9_laysTable 147 = .ok (.aload_n 0, 1) := by decide +kernel
theorem dX9_laysTable_148 : decode cX9_laysTable 148 = .ok (.aload_n 0, 1) := by decide +kernel
theorem dX9_laysTable_149 : decode cX9_laysTable 149 = .ok (.getfield 66, 3) := by decide +kernel
theorem dX9_laysTable_152 : decode cX9_laysTable 152 = .ok (.iload_n 2, 1) := by decide +kernel
theorem dX9_laysTable_153 : decode cX9_laysTable 153 = .ok (.iaload, 1) := by decide +kernel
theorem dX9_laysTable_154 : decode cX9_laysTable 154 = .ok (.bipush 67, 2) := by decide +kernel
theorem dX9_laysTable_156 : decode cX9_laysTable 156 = .ok (.invokevirtual 350, 3) := by decide +kernel
theorem dX9_laysTable_159 : decode cX9_laysTable 159 = .ok (.iconst 3, 1) := by decide +kernel
theorem dX9_laysTable_160 : decode cX9_laysTable 160 = .ok (.irem, 1) := by decide +kernel
theorem dX9_laysTable_161 : decode cX9_laysTable 161 = .ok (.iload_n 3, 1) := by decide +kernel
theorem dX9_laysTable_162 : decode cX9_laysTable 162 = .ok (.aload_n 0, 1) := by decide +kernel
theorem dX9_laysTable_163 : decode cX9_laysTable 163 = .ok (.getfield 28, 3) := by decide +kernel
theorem dX9_laysTable_166 : decode cX9_laysTable 166 = .ok (.bipush 31, 2) := by decide +kernel
theorem dX9_laysTable_168 : decode cX9_laysTable 168 = .ok (.iaload, 1) := by decide +kernel
theorem dX9_laysTable_169 : decode cX9_laysTable 169 = .ok (.idiv, 1) := by decide +kernel
theorem dX9_laysTable_170 : decode cX9_laysTable 170 = .ok (.if_icmp .eq 19, 3) := by decide +kernel
theorem dX9_laysTable_173 : decode cX9_laysTable 173 = .ok (.aload_n 0, 1) := by decide +kernel
theorem dX9_laysTable_174 : decode cX9_laysTable 174 = .ok (.getfield 28, 3) := by decide +kernel
theorem dX9_laysTable_177 : decode cX9_laysTable 177 = .ok (.bipush 67, 2) := by decide +kernel
theorem dX9_laysTable_179 : decode cX9_laysTable 179 = .ok (.iload_n 3, 1) := by decide +kernel
theorem dX9_laysTable_180 : decode cX9_laysTable 180 = .ok (.iadd, 1) := by decide +kernel
theorem dX9_laysTable_181 : decode cX9_laysTable 181 = .ok (.dup2, 1) := by decide +kernel
theorem dX9_laysTable_182 : decode cX9_laysTable 182 = .ok (.iaload, 1) := by decide +kernel
theorem dX9_laysTable_183 : decode cX9_laysTable 183 = .ok (.iconst 1, 1) := by decide +kernel
theorem dX9_laysTable_184 : decode cX9_laysTable 184 = .ok (.iadd, 1) := by decide +kernel
theorem dX9_laysTable_185 : decode cX9_laysTable 185 = .ok (.iastore, 1) := by decide +kernel
theorem dX9_laysTable_186 : decode cX9_laysTable 186 = .ok (.goto (-39), 3) := by decide +kernel
theorem dX9_laysTable_189 : decode cX9_laysTable 189 = .ok (.aload_n 0, 1) := by decide +kernel
theorem dX9_laysTable_190 : decode cX9_laysTable 190 = .ok (.aload_n 0, 1) := by decide +kernel
theorem dX9_laysTable_191 : decode cX9_laysTable 191 = .ok (.getfield 66, 3) := by decide +kernel
theorem dX9_laysTable_194 : decode cX9_laysTable 194 = .ok (.iload_n 2, 1) := by decide +kernel
theorem dX9_laysTable_195 : decode cX9_laysTable 195 = .ok (.iaload, 1) := by decide +kernel
theorem dX9_laysTable_196 : decode cX9_laysTable 196 = .ok (.bipush 127, 2) := by decide +kernel
theorem dX9_laysTable_198 : decode cX9_laysTable 198 = .ok (.invokevirtual 350, 3) := by decide +kernel
theorem dX9_laysTable_201 : decode cX9_laysTable 201 = .ok (.iload_n 1, 1) := by decide +kernel
theorem dX9_laysTable_202 : decode cX9_laysTable 202 = .ok (.irem, 1) := by decide +kernel
theorem dX9_laysTable_203 : decode cX9_laysTable 203 = .ok (.aload_n 0, 1) := by decide +kernel
theorem dX9_laysTable_204 : decode cX9_laysTable 204 = .ok (.aload_n 0, 1) := by decide +kernel
theorem dX9_laysTable_205 : decode cX9_laysTable 205 = .ok (.getfield 66, 3) := by decide +kernel
theorem dX9_laysTable_208 : decode cX9_laysTable 208 = .ok (.iload_n 2, 1) := by decide +kernel
theorem dX9_laysTable_209 : decode cX9_laysTable 209 = .ok (.iaload, 1) := by decide +kernel
theorem dX9_laysTable_210 : decode cX9_laysTable 210 = .ok (.invokevirtual 112, 3) := by decide +kernel
theorem dX9_laysTable_213 : decode cX9_laysTable 213 = .ok (.if_icmp .eq 19, 3) := by decide +kernel
theorem dX9_laysTable_216 : decode cX9_laysTable 216 = .ok (.aload_n 0, 1) := by decide +kernel
theorem dX9_laysTable_217 : decode cX9_laysTable 217 = .ok (.getfield 28, 3) := by decide +kernel
theorem dX9_laysTable_220 : decode cX9_laysTable 220 = .ok (.bipush 127, 2) := by decide +kernel
theorem dX9_laysTable_222 : decode cX9_laysTable 222 = .ok (.iload_n 3, 1) := by decide +kernel
theorem dX9_laysTable_223 : decode cX9_laysTable 223 = .ok (.iadd, 1) := by decide +kernel
theorem dX9_laysTable_224 : decode cX9_laysTable 224 = .ok (.dup2, 1) := by decide +kernel
theorem dX9_laysTable_225 : decode cX9_laysTable 225 = .ok (.iaload, 1) := by decide +kernel
theorem dX9_laysTable_226 : decode cX9_laysTable 226 = .ok (.iconst 1, 1) := by decide +kernel
theorem dX9_laysTable_227 : decode cX9_laysTable 227 = .ok (.iadd, 1) := by decide +kernel
theorem dX9_laysTable_228 : decode cX9_laysTable 228 = .ok (.iastore, 1) := by decide +kernel
theorem dX9_laysTable_229 : decode cX9_laysTable 229 = .ok (.goto (-40), 3) := by decide +kernel
theorem dX9_laysTable_232 : decode cX9_laysTable 232 = .ok (.iinc 2 (-1), 3) := by decide +kernel
theorem dX9_laysTable_235 : decode cX9_laysTable 235 = .ok (.goto (-109), 3) := by decide +kernel
theorem dX9_laysTable_238 : decode cX9_laysTable 238 = .ok (.return_, 1) := by decide +kernel
theorem dX9_builds_0 : decode cX9_builds 0 = .ok (.iconst 0, 1) := by decide +kernel
theorem dX9_builds_1 : decode cX9_builds 1 = .ok (.istore_n 1, 1) := by decide +kernel
theorem dX9_builds_2 : decode cX9_builds 2 = .ok (.aload_n 0, 1) := by decide +kernel
theorem dX9_builds_3 : decode cX9_builds 3 = .ok (.getfield 28, 3) := by decide +kernel
theorem dX9_builds_6 : decode cX9_builds 6 = .ok (.bipush 32, 2) := by decide +kernel
theorem dX9_builds_8 : decode cX9_builds 8 = .ok (.iaload, 1) := by decide +kernel
theorem dX9_builds_9 : decode cX9_builds 9 = .ok (.istore_n 2, 1) := by decide +kernel
theorem dX9_builds_10 : decode cX9_builds 10 = .ok (.iload_n 1, 1) := by decide +kernel
theorem dX9_builds_11 : decode cX9_builds 11 = .ok (.sipush 256, 3) := by decide +kernel
theorem dX9_builds_14 : decode cX9_builds 14 = .ok (.if_icmp .ge 25, 3) := by decide +kernel
theorem dX9_builds_17 : decode cX9_builds 17 = .ok (.aload_n 0, 1) := by decide +kernel
theorem dX9_builds_18 : decode cX9_builds 18 = .ok (.iload_n 2, 1) := by decide +kernel
theorem dX9_builds_19 : decode cX9_builds 19 = .ok (.invokevirtual 353, 3) := by decide +kernel
theorem dX9_builds_22 : decode cX9_builds 22 = .ok (.ifCond .le 17, 3) := by decide +kernel
theorem dX9_builds_25 : decode cX9_builds 25 = .ok (.iinc 1 1, 3) := by decide +kernel
theorem dX9_builds_28 : decode cX9_builds 28 = .ok (.iload_n 2, 1) := by decide +kernel
theorem dX9_builds_29 : decode cX9_builds 29 = .ok (.iconst 1, 1) := by decide +kernel
theorem dX9_builds_30 : decode cX9_builds 30 = .ok (.iadd, 1) := by decide +kernel
theorem dX9_builds_31 : decode cX9_builds 31 = .ok (.sipush 256, 3) := by decide +kernel
theorem dX9_builds_34 : decode cX9_builds 34 = .ok (.irem, 1) := by decide +kernel
theorem dX9_builds_35 : decode cX9_builds 35 = .ok (.istore_n 2, 1) := by decide +kernel
theorem dX9_builds_36 : decode cX9_builds 36 = .ok (.goto (-26), 3) := by decide +kernel
theorem dX9_builds_39 : decode cX9_builds 39 = .ok (.iload_n 1, 1) := by decide +kernel
theorem dX9_builds_40 : decode cX9_builds 40 = .ok (.sipush 256, 3) := by decide +kernel
theorem dX9_builds_43 : decode cX9_builds 43 = .ok (.if_icmp .ne 6, 3) := by decide +kernel
theorem dX9_builds_46 : decode cX9_builds 46 = .ok (.bipush (-3), 2) := by decide +kernel
theorem dX9_builds_48 : decode cX9_builds 48 = .ok (.ireturn, 1) := by decide +kernel
theorem dX9_builds_49 : decode cX9_builds 49 = .ok (.aload_n 0, 1) := by decide +kernel
theorem dX9_builds_50 : decode cX9_builds 50 = .ok (.getfield 28, 3) := by decide +kernel
theorem dX9_builds_53 : decode cX9_builds 53 = .ok (.bipush 32, 2) := by decide +kernel
theorem dX9_builds_55 : decode cX9_builds 55 = .ok (.iload_n 2, 1) := by decide +kernel
theorem dX9_builds_56 : decode cX9_builds 56 = .ok (.iastore, 1) := by decide +kernel
theorem dX9_builds_57 : decode cX9_builds 57 = .ok (.aload_n 0, 1) := by decide +kernel
theorem dX9_builds_58 : decode cX9_builds 58 = .ok (.iload_n 2, 1) := by decide +kernel
theorem dX9_builds_59 : decode cX9_builds 59 = .ok (.invokevirtual 356, 3) := by decide +kernel
theorem dX9_builds_62 : decode cX9_builds 62 = .ok (.aload_n 0, 1) := by decide +kernel
theorem dX9_builds_63 : decode cX9_builds 63 = .ok (.iload_n 2, 1) := by decide +kernel
theorem dX9_builds_64 : decode cX9_builds 64 = .ok (.invokevirtual 344, 3) := by decide +kernel
theorem dX9_builds_67 : decode cX9_builds 67 = .ok (.aload_n 0, 1) := by decide +kernel
theorem dX9_builds_68 : decode cX9_builds 68 = .ok (.invokevirtual 359, 3) := by decide +kernel
theorem dX9_builds_71 : decode cX9_builds 71 = .ok (.aload_n 0, 1) := by decide +kernel
theorem dX9_builds_72 : decode cX9_builds 72 = .ok (.getfield 28, 3) := by decide +kernel
theorem dX9_builds_75 : decode cX9_builds 75 = .ok (.sipush 187, 3) := by decide +kernel
theorem dX9_builds_78 : decode cX9_builds 78 = .ok (.sipush 999, 3) := by decide +kernel
theorem dX9_builds_81 : decode cX9_builds 81 = .ok (.aload_n 0, 1) := by decide +kernel
theorem dX9_builds_82 : decode cX9_builds 82 = .ok (.getfield 28, 3) := by decide +kernel
theorem dX9_builds_85 : decode cX9_builds 85 = .ok (.sipush 187, 3) := by decide +kernel
theorem dX9_builds_88 : decode cX9_builds 88 = .ok (.iaload, 1) := by decide +kernel
theorem dX9_builds_89 : decode cX9_builds 89 = .ok (.iconst 1, 1) := by decide +kernel
theorem dX9_builds_90 : decode cX9_builds 90 = .ok (.iadd, 1) := by decide +kernel
theorem dX9_builds_91 : decode cX9_builds 91 = .ok (.invokestatic 362, 3) := by decide +kernel
theorem dX9_builds_94 : decode cX9_builds 94 = .ok (.iastore, 1) := by decide +kernel
theorem dX9_builds_95 : decode cX9_builds 95 = .ok (.iload_n 1, 1) := by decide +kernel
theorem dX9_builds_96 : decode cX9_builds 96 = .ok (.ireturn, 1) := by decide +kernel
theorem dX9_keptOr_0 : decode cX9_keptOr 0 = .ok (.iload_n 2, 1) := by decide +kernel
theorem dX9_keptOr_1 : decode cX9_keptOr 1 = .ok (.ifCond .ge 5, 3) := by decide +kernel
theorem dX9_keptOr_4 : decode cX9_keptOr 4 = .ok (.iload_n 2, 1) := by decide +kernel
theorem dX9_keptOr_5 : decode cX9_keptOr 5 = .ok (.ireturn, 1) := by decide +kernel
theorem dX9_keptOr_6 : decode cX9_keptOr 6 = .ok (.sipush 189, 3) := by decide +kernel
theorem dX9_keptOr_9 : decode cX9_keptOr 9 = .ok (.istore_n 3, 1) := by decide +kernel
theorem dX9_keptOr_10 : decode cX9_keptOr 10 = .ok (.aload_n 0, 1) := by decide +kernel
theorem dX9_keptOr_11 : decode cX9_keptOr 11 = .ok (.getfield 11, 3) := by decide +kernel
theorem dX9_keptOr_14 : decode cX9_keptOr 14 = .ok (.bipush 16, 2) := by decide +kernel
theorem dX9_keptOr_16 : decode cX9_keptOr 16 = .ok (.if_icmp .ne 47, 3) := by decide +kernel
theorem dX9_keptOr_19 : decode cX9_keptOr 19 = .ok (.iconst 0, 1) := by decide +kernel
theorem dX9_keptOr_20 : decode cX9_keptOr 20 = .ok (.istore 4, 2) := by decide +kernel
theorem dX9_keptOr_22 : decode cX9_keptOr 22 = .ok (.iload 4, 2) := by decide +kernel
theorem dX9_keptOr_24 : decode cX9_keptOr 24 = .ok (.bipush 15, 2) := by decide +kernel
theorem dX9_keptOr_26 : decode cX9_keptOr 26 = .ok (.iload_n 3, 1) := by decide +kernel
theorem dX9_keptOr_27 : decode cX9_keptOr 27 = .ok (.imul, 1) := by decide +kernel
theorem dX9_keptOr_28 : decode cX9_keptOr 28 = .ok (.if_icmp .ge 25, 3) := by decide +kernel
theorem dX9_keptOr_31 : decode cX9_keptOr 31 = .ok (.aload_n 0, 1) := by decide +kernel
theorem dX9_keptOr_32 : decode cX9_keptOr 32 = .ok (.getfield 84, 3) := by decide +kernel
theorem dX9_keptOr_35 : decode cX9_keptOr 35 = .ok (.iload 4, 2) := by decide +kernel
theorem dX9_keptOr_37 : decode cX9_keptOr 37 = .ok (.aload_n 0, 1) := by decide +kernel
theorem dX9_keptOr_38 : decode cX9_keptOr 38 = .ok (.getfield 84, 3) := by decide +kernel
theorem dX9_keptOr_41 : decode cX9_keptOr 41 = .ok (.iload 4, 2) := by decide +kernel
theorem dX9_keptOr_43 : decode cX9_keptOr 43 = .ok (.iload_n 3, 1) := by decide +kernel
theorem dX9_keptOr_44 : decode cX9_keptOr 44 = .ok (.iadd, 1) := by decide +kernel
theorem dX9_keptOr_45 : decode cX9_keptOr 45 = .ok (.iaload, 1) := by decide +kernel
theorem dX9_keptOr_46 : decode cX9_keptOr 46 = .ok (.iastore, 1) := by decide +kernel
theorem dX9_keptOr_47 : decode cX9_keptOr 47 = .ok (.iinc 4 1, 3) := by decide +kernel
theorem dX9_keptOr_50 : decode cX9_keptOr 50 = .ok (.goto (-28), 3) := by decide +kernel
theorem dX9_keptOr_53 : decode cX9_keptOr 53 = .ok (.aload_n 0, 1) := by decide +kernel
theorem dX9_keptOr_54 : decode cX9_keptOr 54 = .ok (.dup, 1) := by decide +kernel
theorem dX9_keptOr_55 : decode cX9_keptOr 55 = .ok (.getfield 11, 3) := by decide +kernel
theorem dX9_keptOr_58 : decode cX9_keptOr 58 = .ok (.iconst 1, 1) := by decide +kernel
theorem dX9_keptOr_59 : decode cX9_keptOr 59 = .ok (.isub, 1) := by decide +kernel
theorem dX9_keptOr_60 : decode cX9_keptOr 60 = .ok (.putfield 11, 3) := by decide +kernel
theorem dX9_keptOr_63 : decode cX9_keptOr 63 = .ok (.iconst 0, 1) := by decide +kernel
theorem dX9_keptOr_64 : decode cX9_keptOr 64 = .ok (.istore 4, 2) := by decide +kernel
theorem dX9_keptOr_66 : decode cX9_keptOr 66 = .ok (.iload 4, 2) := by decide +kernel
theorem dX9_keptOr_68 : decode cX9_keptOr 68 = .ok (.sipush 188, 3) := by decide +kernel
theorem dX9_keptOr_71 : decode cX9_keptOr 71 = .ok (.if_icmp .ge 34, 3) := by decide +kernel
theorem dX9_keptOr_74 : decode cX9_keptOr 74 = .ok (.aload_n 0, 1) := by decide +kernel
theorem dX9_keptOr_75 : decode cX9_keptOr 75 = .ok (.getfield 84, 3) := by decide +kernel
theorem dX9_keptOr_78 : decode cX9_keptOr 78 = .ok (.iload_n 3, 1) := by decide +kernel
theorem dX9_keptOr_79 : decode cX9_keptOr 79 = .ok (.aload_n 0, 1) := by decide +kernel
theorem dX9_keptOr_80 : decode cX9_keptOr 80 = .ok (.getfield 11, 3) := by decide +kernel
theorem dX9_keptOr_83 : decode cX9_keptOr 83 = .ok (.imul, 1) := by decide +kernel
theorem dX9_keptOr_84 : decode cX9_keptOr 84 = .ok (.iload 4, 2) := by decide +kernel
theorem dX9_keptOr_86 : decode cX9_keptOr 86 = .ok (.iadd, 1) := by decide +kernel
theorem dX9_keptOr_87 : decode cX9_keptOr 87 = .ok (.aload_n 0, 1) := by decide +kernel
theorem dX9_keptOr_88 : decode cX9_keptOr 88 = .ok (.getfield 38, 3) := by decide +kernel
theorem dX9_keptOr_91 : decode cX9_keptOr 91 = .ok (.sipush 376, 3) := by decide +kernel
theorem dX9_keptOr_94 : decode cX9_keptOr 94 = .ok (.iload 4, 2) := by decide +kernel
theorem dX9_keptOr_96 : decode cX9_keptOr 96 = .ok (.iadd, 1) := by decide +kernel
theorem dX9_keptOr_97 : decode cX9_keptOr 97 = .ok (.iaload, 1) := by decide +kernel
theorem dX9_keptOr_98 : decode cX9_keptOr 98 = .ok (.iastore, 1) := by decide +kernel
theorem dX9_keptOr_99 : decode cX9_keptOr 99 = .ok (.iinc 4 1, 3) := by decide +kernel
theorem dX9_keptOr_102 : decode cX9_keptOr 102 = .ok (.goto (-36), 3) := by decide +kernel
theorem dX9_keptOr_105 : decode cX9_keptOr 105 = .ok (.aload_n 0, 1) := by decide +kernel
theorem dX9_keptOr_106 : decode cX9_keptOr 106 = .ok (.getfield 84, 3) := by decide +kernel
theorem dX9_keptOr_109 : decode cX9_keptOr 109 = .ok (.iload_n 3, 1) := by decide +kernel
theorem dX9_keptOr_110 : decode cX9_keptOr 110 = .ok (.aload_n 0, 1) := by decide +kernel
theorem dX9_keptOr_111 : decode cX9_keptOr 111 = .ok (.getfield 11, 3) := by decide +kernel
theorem dX9_keptOr_114 : decode cX9_keptOr 114 = .ok (.imul, 1) := by decide +kernel
theorem dX9_keptOr_115 : decode cX9_keptOr 115 = .ok (.sipush 188, 3) := by decide +kernel
theorem dX9_keptOr_118 : decode cX9_keptOr 118 = .ok (.iadd, 1) := by decide +kernel
theorem dX9_keptOr_119 : decode cX9_keptOr 119 = .ok (.iload_n 1, 1) := by decide +kernel
theorem dX9_keptOr_120 : decode cX9_keptOr 120 = .ok (.iastore, 1) := by decide +kernel
theorem dX9_keptOr_121 : decode cX9_keptOr 121 = .ok (.aload_n 0, 1) := by decide +kernel
theorem dX9_keptOr_122 : decode cX9_keptOr 122 = .ok (.dup, 1) := by decide +kernel
theorem dX9_keptOr_123 : decode cX9_keptOr 123 = .ok (.getfield 11, 3) := by decide +kernel
theorem dX9_keptOr_126 : decode cX9_keptOr 126 = .ok (.iconst 1, 1) := by decide +kernel
theorem dX9_keptOr_127 : decode cX9_keptOr 127 = .ok (.iadd, 1) := by decide +kernel
theorem dX9_keptOr_128 : decode cX9_keptOr 128 = .ok (.putfield 11, 3) := by decide +kernel
theorem dX9_keptOr_131 : decode cX9_keptOr 131 = .ok (.iload_n 2, 1) := by decide +kernel
theorem dX9_keptOr_132 : decode cX9_keptOr 132 = .ok (.ireturn, 1) := by decide +kernel
theorem dX9_undo_0 : decode cX9_undo 0 = .ok (.aload_n 0, 1) := by decide +kernel
theorem dX9_undo_1 : decode cX9_undo 1 = .ok (.getfield 11, 3) := by decide +kernel
theorem dX9_undo_4 : decode cX9_undo 4 = .ok (.ifCond .ne 10, 3) := by decide +kernel
theorem dX9_undo_7 : decode cX9_undo 7 = .ok (.aload_n 0, 1) := by decide +kernel
theorem dX9_undo_8 : decode cX9_undo 8 = .ok (.bipush (-3), 2) := by decide +kernel
theorem dX9_undo_10 : decode cX9_undo 10 = .ok (.invokevirtual 103, 3) := by decide +kernel
theorem dX9_undo_13 : decode cX9_undo 13 = .ok (.ireturn, 1) := by decide +kernel
theorem dX9_undo_14 : decode cX9_undo 14 = .ok (.aload_n 0, 1) := by decide +kernel
theorem dX9_undo_15 : decode cX9_undo 15 = .ok (.dup, 1) := by decide +kernel
theorem dX9_undo_16 : decode cX9_undo 16 = .ok (.getfield 11, 3) := by decide +kernel
theorem dX9_undo_19 : decode cX9_undo 19 = .ok (.iconst 1, 1) := by decide +kernel
theorem dX9_undo_20 : decode cX9_undo 20 = .ok (.isub, 1) := by decide +kernel
theorem dX9_undo_21 : decode cX9_undo 21 = .ok (.putfield 11, 3) := by decide +kernel
theorem dX9_undo_24 : decode cX9_undo 24 = .ok (.sipush 189, 3) := by decide +kernel
theorem dX9_undo_27 : decode cX9_undo 27 = .ok (.aload_n 0, 1) := by decide +kernel
theorem dX9_undo_28 : decode cX9_undo 28 = .ok (.getfield 11, 3) := by decide +kernel
theorem dX9_undo_31 : decode cX9_undo 31 = .ok (.imul, 1) := by decide +kernel
theorem dX9_undo_32 : decode cX9_undo 32 = .ok (.istore_n 1, 1) := by decide +kernel
theorem dX9_undo_33 : decode cX9_undo 33 = .ok (.iconst 0, 1) := by decide +kernel
theorem dX9_undo_34 : decode cX9_undo 34 = .ok (.istore_n 2, 1) := by decide +kernel
theorem dX9_undo_35 : decode cX9_undo 35 = .ok (.iload_n 2, 1) := by decide +kernel
theorem dX9_undo_36 : decode cX9_undo 36 = .ok (.sipush 188, 3) := by decide +kernel
theorem dX9_undo_39 : decode cX9_undo 39 = .ok (.if_icmp .ge 23, 3) := by decide +kernel
theorem dX9_undo_42 : decode cX9_undo 42 = .ok (.aload_n 0, 1) := by decide +kernel
theorem dX9_undo_43 : decode cX9_undo 43 = .ok (.getfield 28, 3) := by decide +kernel
theorem dX9_undo_46 : decode cX9_undo 46 = .ok (.iload_n 2, 1) := by decide +kernel
theorem dX9_undo_47 : decode cX9_undo 47 = .ok (.aload_n 0, 1) := by decide +kernel
theorem dX9_undo_48 : decode cX9_undo 48 = .ok (.getfield 84, 3) := by decide +kernel
theorem dX9_undo_51 : decode cX9_undo 51 = .ok (.iload_n 1, 1) := by decide +kernel
theorem dX9_undo_52 : decode cX9_undo 52 = .ok (.iload_n 2, 1) := by decide +kernel
theorem dX9_undo_53 : decode cX9_undo 53 = .ok (.iadd, 1) := by decide +kernel
theorem dX9_undo_54 : decode cX9_undo 54 = .ok (.iaload, 1) := by decide +kernel
theorem dX9_undo_55 : decode cX9_undo 55 = .ok (.iastore, 1) := by decide +kernel
theorem dX9_undo_56 : decode cX9_undo 56 = .ok (.iinc 2 1, 3) := by decide +kernel
theorem dX9_undo_59 : decode cX9_undo 59 = .ok (.goto (-24), 3) := by decide +kernel
theorem dX9_undo_62 : decode cX9_undo 62 = .ok (.aload_n 0, 1) := by decide +kernel
theorem dX9_undo_63 : decode cX9_undo 63 = .ok (.aload_n 0, 1) := by decide +kernel
theorem dX9_undo_64 : decode cX9_undo 64 = .ok (.getfield 84, 3) := by decide +kernel
theorem dX9_undo_67 : decode cX9_undo 67 = .ok (.iload_n 1, 1) := by decide +kernel
theorem dX9_undo_68 : decode cX9_undo 68 = .ok (.sipush 188, 3) := by decide +kernel
theorem dX9_undo_71 : decode cX9_undo 71 = .ok (.iadd, 1) := by decide +kernel
theorem dX9_undo_72 : decode cX9_undo 72 = .ok (.iaload, 1) := by decide +kernel
theorem dX9_undo_73 : decode cX9_undo 73 = .ok (.invokevirtual 14, 3) := by decide +kernel
theorem dX9_undo_76 : decode cX9_undo 76 = .ok (.ireturn, 1) := by decide +kernel
theorem dX9_goodOr_0 : decode cX9_goodOr 0 = .ok (.iload_n 1, 1) := by decide +kernel
theorem dX9_goodOr_1 : decode cX9_goodOr 1 = .ok (.ifCond .ge 11, 3) := by decide +kernel
theorem dX9_goodOr_4 : decode cX9_goodOr 4 = .ok (.aload_n 0, 1) := by decide +kernel
theorem dX9_goodOr_5 : decode cX9_goodOr 5 = .ok (.iload_n 1, 1) := by decide +kernel
theorem dX9_goodOr_6 : decode cX9_goodOr 6 = .ok (.invokevirtual 103, 3) := by decide +kernel
theorem dX9_goodOr_9 : decode cX9_goodOr 9 = .ok (.goto 8, 3) := by decide +kernel
theorem dX9_goodOr_12 : decode cX9_goodOr 12 = .ok (.aload_n 0, 1) := by decide +kernel
theorem dX9_goodOr_13 : decode cX9_goodOr 13 = .ok (.iload_n 1, 1) := by decide +kernel
theorem dX9_goodOr_14 : decode cX9_goodOr 14 = .ok (.invokevirtual 14, 3) := by decide +kernel
theorem dX9_goodOr_17 : decode cX9_goodOr 17 = .ok (.ireturn, 1) := by decide +kernel
theorem dX9_addsKept_0 : decode cX9_addsKept 0 = .ok (.aload_n 0, 1) := by decide +kernel
theorem dX9_addsKept_1 : decode cX9_addsKept 1 = .ok (.iconst 2, 1) := by decide +kernel
theorem dX9_addsKept_2 : decode cX9_addsKept 2 = .ok (.invokevirtual 365, 3) := by decide +kernel
theorem dX9_addsKept_5 : decode cX9_addsKept 5 = .ok (.aload_n 0, 1) := by decide +kernel
theorem dX9_addsKept_6 : decode cX9_addsKept 6 = .ok (.iconst 0, 1) := by decide +kernel
theorem dX9_addsKept_7 : decode cX9_addsKept 7 = .ok (.aload_n 0, 1) := by decide +kernel
theorem dX9_addsKept_8 : decode cX9_addsKept 8 = .ok (.iload_n 1, 1) := by decide +kernel
theorem dX9_addsKept_9 : decode cX9_addsKept 9 = .ok (.invokevirtual 163, 3) := by decide +kernel
theorem dX9_addsKept_12 : decode cX9_addsKept 12 = .ok (.invokevirtual 368, 3) := by decide +kernel
theorem dX9_addsKept_15 : decode cX9_addsKept 15 = .ok (.ireturn, 1) := by decide +kernel
theorem dX9_takesKept_0 : decode cX9_takesKept 0 = .ok (.aload_n 0, 1) := by decide +kernel
theorem dX9_takesKept_1 : decode cX9_takesKept 1 = .ok (.iconst 2, 1) := by decide +kernel
theorem dX9_takesKept_2 : decode cX9_takesKept 2 = .ok (.invokevirtual 365, 3) := by decide +kernel
theorem dX9_takesKept_5 : decode cX9_takesKept 5 = .ok (.aload_n 0, 1) := by decide +kernel
theorem dX9_takesKept_6 : decode cX9_takesKept 6 = .ok (.iconst 1, 1) := by decide +kernel
theorem dX9_takesKept_7 : decode cX9_takesKept 7 = .ok (.aload_n 0, 1) := by decide +kernel
theorem dX9_takesKept_8 : decode cX9_takesKept 8 = .ok (.iload_n 1, 1) := by decide +kernel
theorem dX9_takesKept_9 : decode cX9_takesKept 9 = .ok (.invokevirtual 371, 3) := by decide +kernel
theorem dX9_takesKept_12 : decode cX9_takesKept 12 = .ok (.invokevirtual 368, 3) := by decide +kernel
theorem dX9_takesKept_15 : decode cX9_takesKept 15 = .ok (.ireturn, 1) := by decide +kernel
theorem dX9_sideKept_0 : decode cX9_sideKept 0 = .ok (.aload_n 0, 1) := by decide +kernel
theorem dX9_sideKept_1 : decode cX9_sideKept 1 = .ok (.iconst 2, 1) := by decide +kernel
theorem dX9_sideKept_2 : decode cX9_sideKept 2 = .ok (.invokevirtual 365, 3) := by decide +kernel
theorem dX9_sideKept_5 : decode cX9_sideKept 5 = .ok (.aload_n 0, 1) := by decide +kernel
theorem dX9_sideKept_6 : decode cX9_sideKept 6 = .ok (.iconst 2, 1) := by decide +kernel
theorem dX9_sideKept_7 : decode cX9_sideKept 7 = .ok (.aload_n 0, 1) := by decide +kernel
theorem dX9_sideKept_8 : decode cX9_sideKept 8 = .ok (.iload_n 1, 1) := by decide +kernel
theorem dX9_sideKept_9 : decode cX9_sideKept 9 = .ok (.invokevirtual 374, 3) := by decide +kernel
theorem dX9_sideKept_12 : decode cX9_sideKept 12 = .ok (.invokevirtual 368, 3) := by decide +kernel
theorem dX9_sideKept_15 : decode cX9_sideKept 15 = .ok (.ireturn, 1) := by decide +kernel
theorem dX9_seedKept_0 : decode cX9_seedKept 0 = .ok (.aload_n 0, 1) := by decide +kernel
theorem dX9_seedKept_1 : decode cX9_seedKept 1 = .ok (.iconst 2, 1) := by decide +kernel
theorem dX9_seedKept_2 : decode cX9_seedKept 2 = .ok (.invokevirtual 365, 3) := by decide +kernel
theorem dX9_seedKept_5 : decode cX9_seedKept 5 = .ok (.aload_n 0, 1) := by decide +kernel
theorem dX9_seedKept_6 : decode cX9_seedKept 6 = .ok (.iconst 3, 1) := by decide +kernel
theorem dX9_seedKept_7 : decode cX9_seedKept 7 = .ok (.aload_n 0, 1) := by decide +kernel
theorem dX9_seedKept_8 : decode cX9_seedKept 8 = .ok (.iload_n 1, 1) := by decide +kernel
theorem dX9_seedKept_9 : decode cX9_seedKept 9 = .ok (.invokevirtual 377, 3) := by decide +kernel
theorem dX9_seedKept_12 : decode cX9_seedKept 12 = .ok (.invokevirtual 368, 3) := by decide +kernel
theorem dX9_seedKept_15 : decode cX9_seedKept 15 = .ok (.ireturn, 1) := by decide +kernel
theorem dX9_buildsKept_0 : decode cX9_buildsKept 0 = .ok (.aload_n 0, 1) := by decide +kernel
theorem dX9_buildsKept_1 : decode cX9_buildsKept 1 = .ok (.iconst 2, 1) := by decide +kernel
theorem dX9_buildsKept_2 : decode cX9_buildsKept 2 = .ok (.invokevirtual 365, 3) := by decide +kernel
theorem dX9_buildsKept_5 : decode cX9_buildsKept 5 = .ok (.aload_n 0, 1) := by decide +kernel
theorem dX9_buildsKept_6 : decode cX9_buildsKept 6 = .ok (.iconst 4, 1) := by decide +kernel
theorem dX9_buildsKept_7 : decode cX9_buildsKept 7 = .ok (.aload_n 0, 1) := by decide +kernel
theorem dX9_buildsKept_8 : decode cX9_buildsKept 8 = .ok (.invokevirtual 380, 3) := by decide +kernel
theorem dX9_buildsKept_11 : decode cX9_buildsKept 11 = .ok (.invokevirtual 368, 3) := by decide +kernel
theorem dX9_buildsKept_14 : decode cX9_buildsKept 14 = .ok (.ireturn, 1) := by decide +kernel
theorem dX9_add_0 : decode cX9_add 0 = .ok (.aload_n 0, 1) := by decide +kernel
theorem dX9_add_1 : decode cX9_add 1 = .ok (.aload_n 0, 1) := by decide +kernel
theorem dX9_add_2 : decode cX9_add 2 = .ok (.iload_n 1, 1) := by decide +kernel
theorem dX9_add_3 : decode cX9_add 3 = .ok (.invokevirtual 383, 3) := by decide +kernel
theorem dX9_add_6 : decode cX9_add 6 = .ok (.invokevirtual 386, 3) := by decide +kernel
theorem dX9_add_9 : decode cX9_add 9 = .ok (.ireturn, 1) := by decide +kernel
theorem dX9_take_0 : decode cX9_take 0 = .ok (.aload_n 0, 1) := by decide +kernel
theorem dX9_take_1 : decode cX9_take 1 = .ok (.aload_n 0, 1) := by decide +kernel
theorem dX9_take_2 : decode cX9_take 2 = .ok (.iload_n 1, 1) := by decide +kernel
theorem dX9_take_3 : decode cX9_take 3 = .ok (.invokevirtual 389, 3) := by decide +kernel
theorem dX9_take_6 : decode cX9_take 6 = .ok (.invokevirtual 386, 3) := by decide +kernel
theorem dX9_take_9 : decode cX9_take 9 = .ok (.ireturn, 1) := by decide +kernel
theorem dX9_side_0 : decode cX9_side 0 = .ok (.aload_n 0, 1) := by decide +kernel
theorem dX9_side_1 : decode cX9_side 1 = .ok (.aload_n 0, 1) := by decide +kernel
theorem dX9_side_2 : decode cX9_side 2 = .ok (.iload_n 1, 1) := by decide +kernel
theorem dX9_side_3 : decode cX9_side 3 = .ok (.invokevirtual 392, 3) := by decide +kernel
theorem dX9_side_6 : decode cX9_side 6 = .ok (.invokevirtual 386, 3) := by decide +kernel
theorem dX9_side_9 : decode cX9_side 9 = .ok (.ireturn, 1) := by decide +kernel
theorem dX9_seed_0 : decode cX9_seed 0 = .ok (.aload_n 0, 1) := by decide +kernel
theorem dX9_seed_1 : decode cX9_seed 1 = .ok (.aload_n 0, 1) := by decide +kernel
theorem dX9_seed_2 : decode cX9_seed 2 = .ok (.iload_n 1, 1) := by decide +kernel
theorem dX9_seed_3 : decode cX9_seed 3 = .ok (.invokevirtual 395, 3) := by decide +kernel
theorem dX9_seed_6 : decode cX9_seed 6 = .ok (.invokevirtual 386, 3) := by decide +kernel
theorem dX9_seed_9 : decode cX9_seed 9 = .ok (.ireturn, 1) := by decide +kernel
theorem dX9_build_0 : decode cX9_build 0 = .ok (.aload_n 0, 1) := by decide +kernel
theorem dX9_build_1 : decode cX9_build 1 = .ok (.aload_n 0, 1) := by decide +kernel
theorem dX9_build_2 : decode cX9_build 2 = .ok (.invokevirtual 398, 3) := by decide +kernel
theorem dX9_build_5 : decode cX9_build 5 = .ok (.invokevirtual 386, 3) := by decide +kernel
theorem dX9_build_8 : decode cX9_build 8 = .ok (.ireturn, 1) := by decide +kernel
theorem dX9_core_0 : decode cX9_core 0 = .ok (.iload_n 1, 1) := by decide +kernel
theorem dX9_core_1 : decode cX9_core 1 = .ok (.invokestatic 347, 3) := by decide +kernel
theorem dX9_core_4 : decode cX9_core 4 = .ok (.ifCond .eq 11, 3) := by decide +kernel
theorem dX9_core_7 : decode cX9_core 7 = .ok (.aload_n 0, 1) := by decide +kernel
theorem dX9_core_8 : decode cX9_core 8 = .ok (.iload_n 1, 1) := by decide +kernel
theorem dX9_core_9 : decode cX9_core 9 = .ok (.invokevirtual 353, 3) := by decide +kernel
theorem dX9_core_12 : decode cX9_core 12 = .ok (.goto 4, 3) := by decide +kernel
theorem dX9_core_15 : decode cX9_core 15 = .ok (.iconst (-1), 1) := by decide +kernel
theorem dX9_core_16 : decode cX9_core 16 = .ok (.ireturn, 1) := by decide +kernel
theorem dX9_peeled_0 : decode cX9_peeled 0 = .ok (.iload_n 1, 1) := by decide +kernel
theorem dX9_peeled_1 : decode cX9_peeled 1 = .ok (.ifCond .lt 12, 3) := by decide +kernel
theorem dX9_peeled_4 : decode cX9_peeled 4 = .ok (.iload_n 2, 1) := by decide +kernel
theorem dX9_peeled_5 : decode cX9_peeled 5 = .ok (.iconst 0, 1) := by decide +kernel
theorem dX9_peeled_6 : decode cX9_peeled 6 = .ok (.iconst 1, 1) := by decide +kernel
theorem dX9_peeled_7 : decode cX9_peeled 7 = .ok (.invokestatic 18, 3) := by decide +kernel
theorem dX9_peeled_10 : decode cX9_peeled 10 = .ok (.ifCond .ne 5, 3) := by decide +kernel
theorem dX9_peeled_13 : decode cX9_peeled 13 = .ok (.iconst (-1), 1) := by decide +kernel
theorem dX9_peeled_14 : decode cX9_peeled 14 = .ok (.ireturn, 1) := by decide +kernel
theorem dX9_peeled_15 : decode cX9_peeled 15 = .ok (.aload_n 0, 1) := by decide +kernel
theorem dX9_peeled_16 : decode cX9_peeled 16 = .ok (.aload_n 0, 1) := by decide +kernel
theorem dX9_peeled_17 : decode cX9_peeled 17 = .ok (.getfield 28, 3) := by decide +kernel
theorem dX9_peeled_20 : decode cX9_peeled 20 = .ok (.bipush 32, 2) := by decide +kernel
theorem dX9_peeled_22 : decode cX9_peeled 22 = .ok (.iaload, 1) := by decide +kernel
theorem dX9_peeled_23 : decode cX9_peeled 23 = .ok (.invokevirtual 356, 3) := by decide +kernel
theorem dX9_peeled_26 : decode cX9_peeled 26 = .ok (.aload_n 0, 1) := by decide +kernel
theorem dX9_peeled_27 : decode cX9_peeled 27 = .ok (.aload_n 0, 1) := by decide +kernel
theorem dX9_peeled_28 : decode cX9_peeled 28 = .ok (.getfield 28, 3) := by decide +kernel
theorem dX9_peeled_31 : decode cX9_peeled 31 = .ok (.bipush 32, 2) := by decide +kernel
theorem dX9_peeled_33 : decode cX9_peeled 33 = .ok (.iaload, 1) := by decide +kernel
theorem dX9_peeled_34 : decode cX9_peeled 34 = .ok (.invokevirtual 344, 3) := by decide +kernel
theorem dX9_peeled_37 : decode cX9_peeled 37 = .ok (.iload_n 1, 1) := by decide +kernel
theorem dX9_peeled_38 : decode cX9_peeled 38 = .ok (.aload_n 0, 1) := by decide +kernel
theorem dX9_peeled_39 : decode cX9_peeled 39 = .ok (.getfield 28, 3) := by decide +kernel
theorem dX9_peeled_42 : decode cX9_peeled 42 = .ok (.iconst 0, 1) := by decide +kernel
theorem dX9_peeled_43 : decode cX9_peeled 43 = .ok (.iaload, 1) := by decide +kernel
theorem dX9_peeled_44 : decode cX9_peeled 44 = .ok (.aload_n 0, 1) := by decide +kernel
theorem dX9_peeled_45 : decode cX9_peeled 45 = .ok (.getfield 338, 3) := by decide +kernel
theorem dX9_peeled_48 : decode cX9_peeled 48 = .ok (.isub, 1) := by decide +kernel
theorem dX9_peeled_49 : decode cX9_peeled 49 = .ok (.if_icmp .lt 5, 3) := by decide +kernel
theorem dX9_peeled_52 : decode cX9_peeled 52 = .ok (.iconst (-1), 1) := by decide +kernel
theorem dX9_peeled_53 : decode cX9_peeled 53 = .ok (.ireturn, 1) := by decide +kernel
theorem dX9_peeled_54 : decode cX9_peeled 54 = .ok (.iload_n 2, 1) := by decide +kernel
theorem dX9_peeled_55 : decode cX9_peeled 55 = .ok (.ifCond .ne 12, 3) := by decide +kernel
theorem dX9_peeled_58 : decode cX9_peeled 58 = .ok (.aload_n 0, 1) := by decide +kernel
theorem dX9_peeled_59 : decode cX9_peeled 59 = .ok (.getfield 66, 3) := by decide +kernel
theorem dX9_peeled_62 : decode cX9_peeled 62 = .ok (.iload_n 1, 1) := by decide +kernel
theorem dX9_peeled_63 : decode cX9_peeled 63 = .ok (.iaload, 1) := by decide +kernel
theorem dX9_peeled_64 : decode cX9_peeled 64 = .ok (.goto 9, 3) := by decide +kernel
theorem dX9_peeled_67 : decode cX9_peeled 67 = .ok (.aload_n 0, 1) := by decide +kernel
theorem dX9_peeled_68 : decode cX9_peeled 68 = .ok (.getfield 69, 3) := by decide +kernel
theorem dX9_peeled_71 : decode cX9_peeled 71 = .ok (.iload_n 1, 1) := by decide +kernel
theorem dX9_peeled_72 : decode cX9_peeled 72 = .ok (.iaload, 1) := by decide +kernel
theorem dX9_peeled_73 : decode cX9_peeled 73 = .ok (.ireturn, 1) := by decide +kernel
theorem dX9_good_0 : decode cX9_good 0 = .ok (.iload_n 1, 1) := by decide +kernel
theorem dX9_good_1 : decode cX9_good 1 = .ok (.iconst (-1), 1) := by decide +kernel
theorem dX9_good_2 : decode cX9_good 2 = .ok (.if_icmp .ge 5, 3) := by decide +kernel
theorem dX9_good_5 : decode cX9_good 5 = .ok (.iconst (-1), 1) := by decide +kernel
theorem dX9_good_6 : decode cX9_good 6 = .ok (.ireturn, 1) := by decide +kernel
theorem dX9_good_7 : decode cX9_good 7 = .ok (.iconst 0, 1) := by decide +kernel
theorem dX9_good_8 : decode cX9_good 8 = .ok (.istore_n 2, 1) := by decide +kernel
theorem dX9_good_9 : decode cX9_good 9 = .ok (.iconst 0, 1) := by decide +kernel
theorem dX9_good_10 : decode cX9_good 10 = .ok (.istore_n 3, 1) := by decide +kernel
theorem dX9_good_11 : decode cX9_good 11 = .ok (.iload_n 3, 1) := by decide +kernel
theorem dX9_good_12 : decode cX9_good 12 = .ok (.sipush 256, 3) := by decide +kernel
theorem dX9_good_15 : decode cX9_good 15 = .ok (.if_icmp .ge 30, 3) := by decide +kernel
theorem dX9_good_18 : decode cX9_good 18 = .ok (.aload_n 0, 1) := by decide +kernel
theorem dX9_good_19 : decode cX9_good 19 = .ok (.iload_n 3, 1) := by decide +kernel
theorem dX9_good_20 : decode cX9_good 20 = .ok (.invokevirtual 353, 3) := by decide +kernel
theorem dX9_good_23 : decode cX9_good 23 = .ok (.ifCond .le 6, 3) := by decide +kernel
theorem dX9_good_26 : decode cX9_good 26 = .ok (.goto 13, 3) := by decide +kernel
theorem dX9_good_29 : decode cX9_good 29 = .ok (.iload_n 2, 1) := by decide +kernel
theorem dX9_good_30 : decode cX9_good 30 = .ok (.iload_n 1, 1) := by decide +kernel
theorem dX9_good_31 : decode cX9_good 31 = .ok (.if_icmp .ne 5, 3) := by decide +kernel
theorem dX9_good_34 : decode cX9_good 34 = .ok (.iload_n 3, 1) := by decide +kernel
theorem dX9_good_35 : decode cX9_good 35 = .ok (.ireturn, 1) := by decide +kernel
theorem dX9_good_36 : decode cX9_good 36 = .ok (.iinc 2 1, 3) := by decide +kernel
theorem dX9_good_39 : decode cX9_good 39 = .ok (.iinc 3 1, 3) := by decide +kernel
theorem dX9_good_42 : decode cX9_good 42 = .ok (.goto (-31), 3) := by decide +kernel
theorem dX9_good_45 : decode cX9_good 45 = .ok (.iload_n 1, 1) := by decide +kernel
theorem dX9_good_46 : decode cX9_good 46 = .ok (.iconst (-1), 1) := by decide +kernel
theorem dX9_good_47 : decode cX9_good 47 = .ok (.if_icmp .ne 7, 3) := by decide +kernel
theorem dX9_good_50 : decode cX9_good 50 = .ok (.iload_n 2, 1) := by decide +kernel
theorem dX9_good_51 : decode cX9_good 51 = .ok (.goto 4, 3) := by decide +kernel
theorem dX9_good_54 : decode cX9_good 54 = .ok (.iconst (-1), 1) := by decide +kernel
theorem dX9_good_55 : decode cX9_good 55 = .ok (.ireturn, 1) := by decide +kernel
theorem dX9_hasGood_0 : decode cX9_hasGood 0 = .ok (.iconst 0, 1) := by decide +kernel
theorem dX9_hasGood_1 : decode cX9_hasGood 1 = .ok (.istore_n 1, 1) := by decide +kernel
theorem dX9_hasGood_2 : decode cX9_hasGood 2 = .ok (.iload_n 1, 1) := by decide +kernel
theorem dX9_hasGood_3 : decode cX9_hasGood 3 = .ok (.bipush 16, 2) := by decide +kernel
theorem dX9_hasGood_5 : decode cX9_hasGood 5 = .ok (.if_icmp .ge 19, 3) := by decide +kernel
theorem dX9_hasGood_8 : decode cX9_hasGood 8 = .ok (.aload_n 0, 1) := by decide +kernel
theorem dX9_hasGood_9 : decode cX9_hasGood 9 = .ok (.iload_n 1, 1) := by decide +kernel
theorem dX9_hasGood_10 : decode cX9_hasGood 10 = .ok (.invokevirtual 353, 3) := by decide +kernel
theorem dX9_hasGood_13 : decode cX9_hasGood 13 = .ok (.ifCond .ne 5, 3) := by decide +kernel
theorem dX9_hasGood_16 : decode cX9_hasGood 16 = .ok (.iconst 1, 1) := by decide +kernel
theorem dX9_hasGood_17 : decode cX9_hasGood 17 = .ok (.ireturn, 1) := by decide +kernel
theorem dX9_hasGood_18 : decode cX9_hasGood 18 = .ok (.iinc 1 1, 3) := by decide +kernel
theorem dX9_hasGood_21 : decode cX9_hasGood 21 = .ok (.goto (-19), 3) := by decide +kernel
theorem dX9_hasGood_24 : decode cX9_hasGood 24 = .ok (.iconst 0, 1) := by decide +kernel
theorem dX9_hasGood_25 : decode cX9_hasGood 25 = .ok (.ireturn, 1) := by decide +kernel
theorem dX9_leastSide_0 : decode cX9_leastSide 0 = .ok (.aload_n 0, 1) := by decide +kernel
theorem dX9_leastSide_1 : decode cX9_leastSide 1 = .ok (.getfield 28, 3) := by decide +kernel
theorem dX9_leastSide_4 : decode cX9_leastSide 4 = .ok (.bipush 31, 2) := by decide +kernel
theorem dX9_leastSide_6 : decode cX9_leastSide 6 = .ok (.iaload, 1) := by decide +kernel
theorem dX9_leastSide_7 : decode cX9_leastSide 7 = .ok (.istore_n 1, 1) := by decide +kernel
theorem dX9_leastSide_8 : decode cX9_leastSide 8 = .ok (.aload_n 0, 1) := by decide +kernel
theorem dX9_leastSide_9 : decode cX9_leastSide 9 = .ok (.getfield 28, 3) := by decide +kernel
theorem dX9_leastSide_12 : decode cX9_leastSide 12 = .ok (.bipush 31, 2) := by decide +kernel
theorem dX9_leastSide_14 : decode cX9_leastSide 14 = .ok (.iconst 2, 1) := by decide +kernel
theorem dX9_leastSide_15 : decode cX9_leastSide 15 = .ok (.iastore, 1) := by decide +kernel
theorem dX9_leastSide_16 : decode cX9_leastSide 16 = .ok (.aload_n 0, 1) := by decide +kernel
theorem dX9_leastSide_17 : decode cX9_leastSide 17 = .ok (.getfield 28, 3) := by decide +kernel
theorem dX9_leastSide_20 : decode cX9_leastSide 20 = .ok (.bipush 31, 2) := by decide +kernel
theorem dX9_leastSide_22 : decode cX9_leastSide 22 = .ok (.iaload, 1) := by decide +kernel
theorem dX9_leastSide_23 : decode cX9_leastSide 23 = .ok (.bipush 20, 2) := by decide +kernel
theorem dX9_leastSide_25 : decode cX9_leastSide 25 = .ok (.if_icmp .gt 24, 3) := by decide +kernel
theorem dX9_leastSide_28 : decode cX9_leastSide 28 = .ok (.aload_n 0, 1) := by decide +kernel
theorem dX9_leastSide_29 : decode cX9_leastSide 29 = .ok (.invokevirtual 401, 3) := by decide +kernel
theorem dX9_leastSide_32 : decode cX9_leastSide 32 = .ok (.ifCond .ne 17, 3) := by decide +kernel
theorem dX9_leastSide_35 : decode cX9_leastSide 35 = .ok (.aload_n 0, 1) := by decide +kernel
theorem dX9_leastSide_36 : decode cX9_leastSide 36 = .ok (.getfield 28, 3) := by decide +kernel
theorem dX9_leastSide_39 : decode cX9_leastSide 39 = .ok (.bipush 31, 2) := by decide +kernel
theorem dX9_leastSide_41 : decode cX9_leastSide 41 = .ok (.dup2, 1) := by decide +kernel
theorem dX9_leastSide_42 : decode cX9_leastSide 42 = .ok (.iaload, 1) := by decide +kernel
theorem dX9_leastSide_43 : decode cX9_leastSide 43 = .ok (.iconst 1, 1) := by decide +kernel
theorem dX9_leastSide_44 : decode cX9_leastSide 44 = .ok (.iadd, 1) := by decide +kernel
theorem dX9_leastSide_45 : decode cX9_leastSide 45 = .ok (.iastore, 1) := by decide +kernel
theorem dX9_leastSide_46 : decode cX9_leastSide 46 = .ok (.goto (-30), 3) := by decide +kernel
theorem dX9_leastSide_49 : decode cX9_leastSide 49 = .ok (.aload_n 0, 1) := by decide +kernel
theorem dX9_leastSide_50 : decode cX9_leastSide 50 = .ok (.getfield 28, 3) := by decide +kernel
theorem dX9_leastSide_53 : decode cX9_leastSide 53 = .ok (.bipush 31, 2) := by decide +kernel
theorem dX9_leastSide_55 : decode cX9_leastSide 55 = .ok (.iaload, 1) := by decide +kernel
theorem dX9_leastSide_56 : decode cX9_leastSide 56 = .ok (.bipush 20, 2) := by decide +kernel
theorem dX9_leastSide_58 : decode cX9_leastSide 58 = .ok (.if_icmp .le 7, 3) := by decide +kernel
theorem dX9_leastSide_61 : decode cX9_leastSide 61 = .ok (.iconst (-1), 1) := by decide +kernel
theorem dX9_leastSide_62 : decode cX9_leastSide 62 = .ok (.goto 10, 3) := by decide +kernel
theorem dX9_leastSide_65 : decode cX9_leastSide 65 = .ok (.aload_n 0, 1) := by decide +kernel
theorem dX9_leastSide_66 : decode cX9_leastSide 66 = .ok (.getfield 28, 3) := by decide +kernel
theorem dX9_leastSide_69 : decode cX9_leastSide 69 = .ok (.bipush 31, 2) := by decide +kernel
theorem dX9_leastSide_71 : decode cX9_leastSide 71 = .ok (.iaload, 1) := by decide +kernel
theorem dX9_leastSide_72 : decode cX9_leastSide 72 = .ok (.istore_n 2, 1) := by decide +kernel
theorem dX9_leastSide_73 : decode cX9_leastSide 73 = .ok (.aload_n 0, 1) := by decide +kernel
theorem dX9_leastSide_74 : decode cX9_leastSide 74 = .ok (.getfield 28, 3) := by decide +kernel
theorem dX9_leastSide_77 : decode cX9_leastSide 77 = .ok (.bipush 31, 2) := by decide +kernel
theorem dX9_leastSide_79 : decode cX9_leastSide 79 = .ok (.iload_n 1, 1) := by decide +kernel
theorem dX9_leastSide_80 : decode cX9_leastSide 80 = .ok (.iastore, 1) := by decide +kernel
theorem dX9_leastSide_81 : decode cX9_leastSide 81 = .ok (.iload_n 2, 1) := by decide +kernel
theorem dX9_leastSide_82 : decode cX9_leastSide 82 = .ok (.ireturn, 1) := by decide +kernel
theorem dX9_ownOf_0 : decode cX9_ownOf 0 = .ok (.aload_n 0, 1) := by decide +kernel
theorem dX9_ownOf_1 : decode cX9_ownOf 1 = .ok (.iload_n 1, 1) := by decide +kernel
theorem dX9_ownOf_2 : decode cX9_ownOf 2 = .ok (.bipush 67, 2) := by decide +kernel
theorem dX9_ownOf_4 : decode cX9_ownOf 4 = .ok (.invokevirtual 350, 3) := by decide +kernel
theorem dX9_ownOf_7 : decode cX9_ownOf 7 = .ok (.iconst 3, 1) := by decide +kernel
theorem dX9_ownOf_8 : decode cX9_ownOf 8 = .ok (.irem, 1) := by decide +kernel
theorem dX9_ownOf_9 : decode cX9_ownOf 9 = .ok (.istore_n 2, 1) := by decide +kernel
theorem dX9_ownOf_10 : decode cX9_ownOf 10 = .ok (.iload_n 1, 1) := by decide +kernel
theorem dX9_ownOf_11 : decode cX9_ownOf 11 = .ok (.iload_n 2, 1) := by decide +kernel
theorem dX9_ownOf_12 : decode cX9_ownOf 12 = .ok (.aload_n 0, 1) := by decide +kernel
theorem dX9_ownOf_13 : decode cX9_ownOf 13 = .ok (.getfield 28, 3) := by decide +kernel
theorem dX9_ownOf_16 : decode cX9_ownOf 16 = .ok (.bipush 35, 2) := by decide +kernel
theorem dX9_ownOf_18 : decode cX9_ownOf 18 = .ok (.iaload, 1) := by decide +kernel
theorem dX9_ownOf_19 : decode cX9_ownOf 19 = .ok (.aload_n 0, 1) := by decide +kernel
theorem dX9_ownOf_20 : decode cX9_ownOf 20 = .ok (.getfield 28, 3) := by decide +kernel
theorem dX9_ownOf_23 : decode cX9_ownOf 23 = .ok (.bipush 34, 2) := by decide +kernel
theorem dX9_ownOf_25 : decode cX9_ownOf 25 = .ok (.iaload, 1) := by decide +kernel
theorem dX9_ownOf_26 : decode cX9_ownOf 26 = .ok (.invokestatic 115, 3) := by decide +kernel
theorem dX9_ownOf_29 : decode cX9_ownOf 29 = .ok (.ireturn, 1) := by decide +kernel
theorem dX9_placeBy_0 : decode cX9_placeBy 0 = .ok (.aload_n 0, 1) := by decide +kernel
theorem dX9_placeBy_1 : decode cX9_placeBy 1 = .ok (.getfield 28, 3) := by decide +kernel
theorem dX9_placeBy_4 : decode cX9_placeBy 4 = .ok (.bipush 36, 2) := by decide +kernel
theorem dX9_placeBy_6 : decode cX9_placeBy 6 = .ok (.iaload, 1) := by decide +kernel
theorem dX9_placeBy_7 : decode cX9_placeBy 7 = .ok (.istore_n 2, 1) := by decide +kernel
theorem dX9_placeBy_8 : decode cX9_placeBy 8 = .ok (.iload_n 2, 1) := by decide +kernel
theorem dX9_placeBy_9 : decode cX9_placeBy 9 = .ok (.ifCond .ne 5, 3) := by decide +kernel
theorem dX9_placeBy_12 : decode cX9_placeBy 12 = .ok (.iconst 0, 1) := by decide +kernel
theorem dX9_placeBy_13 : decode cX9_placeBy 13 = .ok (.ireturn, 1) := by decide +kernel
theorem dX9_placeBy_14 : decode cX9_placeBy 14 = .ok (.aload_n 0, 1) := by decide +kernel
theorem dX9_placeBy_15 : decode cX9_placeBy 15 = .ok (.iload_n 1, 1) := by decide +kernel
theorem dX9_placeBy_16 : decode cX9_placeBy 16 = .ok (.bipush 127, 2) := by decide +kernel
theorem dX9_placeBy_18 : decode cX9_placeBy 18 = .ok (.invokevirtual 350, 3) := by decide +kernel
theorem dX9_placeBy_21 : decode cX9_placeBy 21 = .ok (.iload_n 2, 1) := by decide +kernel
theorem dX9_placeBy_22 : decode cX9_placeBy 22 = .ok (.irem, 1) := by decide +kernel
theorem dX9_placeBy_23 : decode cX9_placeBy 23 = .ok (.ireturn, 1) := by decide +kernel
theorem dX9_signedBelow_0 : decode cX9_signedBelow 0 = .ok (.iconst 0, 1) := by decide +kernel
theorem dX9_signedBelow_1 : decode cX9_signedBelow 1 = .ok (.istore_n 2, 1) := by decide +kernel
theorem dX9_signedBelow_2 : decode cX9_signedBelow 2 = .ok (.iconst 0, 1) := by decide +kernel
theorem dX9_signedBelow_3 : decode cX9_signedBelow 3 = .ok (.istore_n 3, 1) := by decide +kernel
theorem dX9_signedBelow_4 : decode cX9_signedBelow 4 = .ok (.iload_n 3, 1) := by decide +kernel
theorem dX9_signedBelow_5 : decode cX9_signedBelow 5 = .ok (.iload_n 1, 1) := by decide +kernel
theorem dX9_signedBelow_6 : decode cX9_signedBelow 6 = .ok (.if_icmp .ge 30, 3) := by decide +kernel
theorem dX9_signedBelow_9 : decode cX9_signedBelow 9 = .ok (.iload_n 2, 1) := by decide +kernel
theorem dX9_signedBelow_10 : decode cX9_signedBelow 10 = .ok (.aload_n 0, 1) := by decide +kernel
theorem dX9_signedBelow_11 : decode cX9_signedBelow 11 = .ok (.getfield 28, 3) := by decide +kernel
theorem dX9_signedBelow_14 : decode cX9_signedBelow 14 = .ok (.bipush 67, 2) := by decide +kernel
theorem dX9_signedBelow_16 : decode cX9_signedBelow 16 = .ok (.iload_n 3, 1) := by decide +kernel
theorem dX9_signedBelow_17 : decode cX9_signedBelow 17 = .ok (.iadd, 1) := by decide +kernel
theorem dX9_signedBelow_18 : decode cX9_signedBelow 18 = .ok (.iaload, 1) := by decide +kernel
theorem dX9_signedBelow_19 : decode cX9_signedBelow 19 = .ok (.iconst 3, 1) := by decide +kernel
theorem dX9_signedBelow_20 : decode cX9_signedBelow 20 = .ok (.if_icmp .ne 7, 3) := by decide +kernel
theorem dX9_signedBelow_23 : decode cX9_signedBelow 23 = .ok (.iconst 0, 1) := by decide +kernel
theorem dX9_signedBelow_24 : decode cX9_signedBelow 24 = .ok (.goto 4, 3) := by decide +kernel
theorem dX9_signedBelow_27 : decode cX9_signedBelow 27 = .ok (.iconst 1, 1) := by decide +kernel
theorem dX9_signedBelow_28 : decode cX9_signedBelow 28 = .ok (.iadd, 1) := by decide +kernel
theorem dX9_signedBelow_29 : decode cX9_signedBelow 29 = .ok (.istore_n 2, 1) := by decide +kernel
theorem dX9_signedBelow_30 : decode cX9_signedBelow 30 = .ok (.iinc 3 1, 3) := by decide +kernel
theorem dX9_signedBelow_33 : decode cX9_signedBelow 33 = .ok (.goto (-29), 3) := by decide +kernel
theorem dX9_signedBelow_36 : decode cX9_signedBelow 36 = .ok (.iload_n 2, 1) := by decide +kernel
theorem dX9_signedBelow_37 : decode cX9_signedBelow 37 = .ok (.ireturn, 1) := by decide +kernel
theorem dX9_found_0 : decode cX9_found 0 = .ok (.aload_n 0, 1) := by decide +kernel
theorem dX9_found_1 : decode cX9_found 1 = .ok (.getfield 28, 3) := by decide +kernel
theorem dX9_found_4 : decode cX9_found 4 = .ok (.bipush 33, 2) := by decide +kernel
theorem dX9_found_6 : decode cX9_found 6 = .ok (.iaload, 1) := by decide +kernel
theorem dX9_found_7 : decode cX9_found 7 = .ok (.ifCond .eq 10, 3) := by decide +kernel
theorem dX9_found_10 : decode cX9_found 10 = .ok (.iload_n 1, 1) := by decide +kernel
theorem dX9_found_11 : decode cX9_found 11 = .ok (.invokestatic 127, 3) := by decide +kernel
theorem dX9_found_14 : decode cX9_found 14 = .ok (.ifCond .ne 5, 3) := by decide +kernel
theorem dX9_found_17 : decode cX9_found 17 = .ok (.iconst (-1), 1) := by decide +kernel
theorem dX9_found_18 : decode cX9_found 18 = .ok (.ireturn, 1) := by decide +kernel
theorem dX9_found_19 : decode cX9_found 19 = .ok (.iload_n 2, 1) := by decide +kernel
theorem dX9_found_20 : decode cX9_found 20 = .ok (.tableswitch 50 0 2 #[28, 34, 44], 28) := by decide +kernel
theorem dX9_found_48 : decode cX9_found 48 = .ok (.aload_n 0, 1) := by decide +kernel
theorem dX9_found_49 : decode cX9_found 49 = .ok (.iload_n 1, 1) := by decide +kernel
theorem dX9_found_50 : decode cX9_found 50 = .ok (.invokevirtual 404, 3) := by decide +kernel
theorem dX9_found_53 : decode cX9_found 53 = .ok (.ireturn, 1) := by decide +kernel
theorem dX9_found_54 : decode cX9_found 54 = .ok (.aload_n 0, 1) := by decide +kernel
theorem dX9_found_55 : decode cX9_found 55 = .ok (.aload_n 0, 1) := by decide +kernel
theorem dX9_found_56 : decode cX9_found 56 = .ok (.iload_n 1, 1) := by decide +kernel
theorem dX9_found_57 : decode cX9_found 57 = .ok (.invokevirtual 404, 3) := by decide +kernel
theorem dX9_found_60 : decode cX9_found 60 = .ok (.invokevirtual 407, 3) := by decide +kernel
theorem dX9_found_63 : decode cX9_found 63 = .ok (.ireturn, 1) := by decide +kernel
theorem dX9_found_64 : decode cX9_found 64 = .ok (.aload_n 0, 1) := by decide +kernel
theorem dX9_found_65 : decode cX9_found 65 = .ok (.iload_n 1, 1) := by decide +kernel
theorem dX9_found_66 : decode cX9_found 66 = .ok (.invokevirtual 410, 3) := by decide +kernel
theorem dX9_found_69 : decode cX9_found 69 = .ok (.ireturn, 1) := by decide +kernel
theorem dX9_found_70 : decode cX9_found 70 = .ok (.iconst (-1), 1) := by decide +kernel
theorem dX9_found_71 : decode cX9_found 71 = .ok (.ireturn, 1) := by decide +kernel
theorem dX9_packed_0 : decode cX9_packed 0 = .ok (.iconst 0, 1) := by decide +kernel
theorem dX9_packed_1 : decode cX9_packed 1 = .ok (.istore_n 2, 1) := by decide +kernel
theorem dX9_packed_2 : decode cX9_packed 2 = .ok (.iconst 4, 1) := by decide +kernel
theorem dX9_packed_3 : decode cX9_packed 3 = .ok (.iload_n 1, 1) := by decide +kernel
theorem dX9_packed_4 : decode cX9_packed 4 = .ok (.imul, 1) := by decide +kernel
theorem dX9_packed_5 : decode cX9_packed 5 = .ok (.iconst 3, 1) := by decide +kernel
theorem dX9_packed_6 : decode cX9_packed 6 = .ok (.iadd, 1) := by decide +kernel
theorem dX9_packed_7 : decode cX9_packed 7 = .ok (.istore_n 3, 1) := by decide +kernel
theorem dX9_packed_8 : decode cX9_packed 8 = .ok (.iload_n 3, 1) := by decide +kernel
theorem dX9_packed_9 : decode cX9_packed 9 = .ok (.iconst 4, 1) := by decide +kernel
theorem dX9_packed_10 : decode cX9_packed 10 = .ok (.iload_n 1, 1) := by decide +kernel
theorem dX9_packed_11 : decode cX9_packed 11 = .ok (.imul, 1) := by decide +kernel
theorem dX9_packed_12 : decode cX9_packed 12 = .ok (.if_icmp .lt 40, 3) := by decide +kernel
theorem dX9_packed_15 : decode cX9_packed 15 = .ok (.iconst 4, 1) := by decide +kernel
theorem dX9_packed_16 : decode cX9_packed 16 = .ok (.iload_n 2, 1) := by decide +kernel
theorem dX9_packed_17 : decode cX9_packed 17 = .ok (.imul, 1) := by decide +kernel
theorem dX9_packed_18 : decode cX9_packed 18 = .ok (.iload_n 3, 1) := by decide +kernel
theorem dX9_packed_19 : decode cX9_packed 19 = .ok (.iconst 3, 1) := by decide +kernel
theorem dX9_packed_20 : decode cX9_packed 20 = .ok (.aload_n 0, 1) := by decide +kernel
theorem dX9_packed_21 : decode cX9_packed 21 = .ok (.getfield 28, 3) := by decide +kernel
theorem dX9_packed_24 : decode cX9_packed 24 = .ok (.bipush 34, 2) := by decide +kernel
theorem dX9_packed_26 : decode cX9_packed 26 = .ok (.iaload, 1) := by decide +kernel
theorem dX9_packed_27 : decode cX9_packed 27 = .ok (.imul, 1) := by decide +kernel
theorem dX9_packed_28 : decode cX9_packed 28 = .ok (.if_icmp .ge 15, 3) := by decide +kernel
theorem dX9_packed_31 : decode cX9_packed 31 = .ok (.aload_n 0, 1) := by decide +kernel
theorem dX9_packed_32 : decode cX9_packed 32 = .ok (.getfield 28, 3) := by decide +kernel
theorem dX9_packed_35 : decode cX9_packed 35 = .ok (.bipush 67, 2) := by decide +kernel
theorem dX9_packed_37 : decode cX9_packed 37 = .ok (.iload_n 3, 1) := by decide +kernel
theorem dX9_packed_38 : decode cX9_packed 38 = .ok (.iadd, 1) := by decide +kernel
theorem dX9_packed_39 : decode cX9_packed 39 = .ok (.iaload, 1) := by decide +kernel
theorem dX9_packed_40 : decode cX9_packed 40 = .ok (.goto 4, 3) := by decide +kernel
theorem dX9_packed_43 : decode cX9_packed 43 = .ok (.iconst 3, 1) := by decide +kernel
theorem dX9_packed_44 : decode cX9_packed 44 = .ok (.iadd, 1) := by decide +kernel
theorem dX9_packed_45 : decode cX9_packed 45 = .ok (.istore_n 2, 1) := by decide +kernel
theorem dX9_packed_46 : decode cX9_packed 46 = .ok (.iinc 3 (-1), 3) := by decide +kernel
theorem dX9_packed_49 : decode cX9_packed 49 = .ok (.goto (-41), 3) := by decide +kernel
theorem dX9_packed_52 : decode cX9_packed 52 = .ok (.iload_n 2, 1) := by decide +kernel
theorem dX9_packed_53 : decode cX9_packed 53 = .ok (.ireturn, 1) := by decide +kernel
theorem dX9_table_0 : decode cX9_table 0 = .ok (.aload_n 0, 1) := by decide +kernel
theorem dX9_table_1 : decode cX9_table 1 = .ok (.getfield 28, 3) := by decide +kernel
theorem dX9_table_4 : decode cX9_table 4 = .ok (.bipush 33, 2) := by decide +kernel
theorem dX9_table_6 : decode cX9_table 6 = .ok (.iaload, 1) := by decide +kernel
theorem dX9_table_7 : decode cX9_table 7 = .ok (.ifCond .ne 5, 3) := by decide +kernel
theorem dX9_table_10 : decode cX9_table 10 = .ok (.iconst (-1), 1) := by decide +kernel
theorem dX9_table_11 : decode cX9_table 11 = .ok (.ireturn, 1) := by decide +kernel
theorem dX9_table_12 : decode cX9_table 12 = .ok (.iconst 3, 1) := by decide +kernel
theorem dX9_table_13 : decode cX9_table 13 = .ok (.aload_n 0, 1) := by decide +kernel
theorem dX9_table_14 : decode cX9_table 14 = .ok (.getfield 28, 3) := by decide +kernel
theorem dX9_table_17 : decode cX9_table 17 = .ok (.bipush 34, 2) := by decide +kernel
theorem dX9_table_19 : decode cX9_table 19 = .ok (.iaload, 1) := by decide +kernel
theorem dX9_table_20 : decode cX9_table 20 = .ok (.imul, 1) := by decide +kernel
theorem dX9_table_21 : decode cX9_table 21 = .ok (.istore_n 2, 1) := by decide +kernel
theorem dX9_table_22 : decode cX9_table 22 = .ok (.iload_n 1, 1) := by decide +kernel
theorem dX9_table_23 : decode cX9_table 23 = .ok (.tableswitch 59 0 3 #[29, 37, 45, 53], 29) := by decide +kernel
theorem dX9_table_52 : decode cX9_table 52 = .ok (.aload_n 0, 1) := by decide +kernel
theorem dX9_table_53 : decode cX9_table 53 = .ok (.getfield 28, 3) := by decide +kernel
theorem dX9_table_56 : decode cX9_table 56 = .ok (.bipush 34, 2) := by decide +kernel
theorem dX9_table_58 : decode cX9_table 58 = .ok (.iaload, 1) := by decide +kernel
theorem dX9_table_59 : decode cX9_table 59 = .ok (.ireturn, 1) := by decide +kernel
theorem dX9_table_60 : decode cX9_table 60 = .ok (.aload_n 0, 1) := by decide +kernel
theorem dX9_table_61 : decode cX9_table 61 = .ok (.getfield 28, 3) := by decide +kernel
theorem dX9_table_64 : decode cX9_table 64 = .ok (.bipush 35, 2) := by decide +kernel
theorem dX9_table_66 : decode cX9_table 66 = .ok (.iaload, 1) := by decide +kernel
theorem dX9_table_67 : decode cX9_table 67 = .ok (.ireturn, 1) := by decide +kernel
theorem dX9_table_68 : decode cX9_table 68 = .ok (.aload_n 0, 1) := by decide +kernel
theorem dX9_table_69 : decode cX9_table 69 = .ok (.getfield 28, 3) := by decide +kernel
theorem dX9_table_72 : decode cX9_table 72 = .ok (.bipush 36, 2) := by decide +kernel
theorem dX9_table_74 : decode cX9_table 74 = .ok (.iaload, 1) := by decide +kernel
theorem dX9_table_75 : decode cX9_table 75 = .ok (.ireturn, 1) := by decide +kernel
theorem dX9_table_76 : decode cX9_table 76 = .ok (.aload_n 0, 1) := by decide +kernel
theorem dX9_table_77 : decode cX9_table 77 = .ok (.iload_n 2, 1) := by decide +kernel
theorem dX9_table_78 : decode cX9_table 78 = .ok (.invokevirtual 407, 3) := by decide +kernel
theorem dX9_table_81 : decode cX9_table 81 = .ok (.ireturn, 1) := by decide +kernel
theorem dX9_table_82 : decode cX9_table 82 = .ok (.aload_n 0, 1) := by decide +kernel
theorem dX9_table_83 : decode cX9_table 83 = .ok (.iload_n 1, 1) := by decide +kernel
theorem dX9_table_84 : decode cX9_table 84 = .ok (.iload_n 2, 1) := by decide +kernel
theorem dX9_table_85 : decode cX9_table 85 = .ok (.invokevirtual 413, 3) := by decide +kernel
theorem dX9_table_88 : decode cX9_table 88 = .ok (.ireturn, 1) := by decide +kernel
theorem dX9_signOrByte_0 : decode cX9_signOrByte 0 = .ok (.iload_n 1, 1) := by decide +kernel
theorem dX9_signOrByte_1 : decode cX9_signOrByte 1 = .ok (.iconst 4, 1) := by decide +kernel
theorem dX9_signOrByte_2 : decode cX9_signOrByte 2 = .ok (.iconst 3, 1) := by decide +kernel
theorem dX9_signOrByte_3 : decode cX9_signOrByte 3 = .ok (.iload_n 2, 1) := by decide +kernel
theorem dX9_signOrByte_4 : decode cX9_signOrByte 4 = .ok (.iadd, 1) := by decide +kernel
theorem dX9_signOrByte_5 : decode cX9_signOrByte 5 = .ok (.invokestatic 18, 3) := by decide +kernel
theorem dX9_signOrByte_8 : decode cX9_signOrByte 8 = .ok (.ifCond .eq 15, 3) := by decide +kernel
theorem dX9_signOrByte_11 : decode cX9_signOrByte 11 = .ok (.aload_n 0, 1) := by decide +kernel
theorem dX9_signOrByte_12 : decode cX9_signOrByte 12 = .ok (.getfield 28, 3) := by decide +kernel
theorem dX9_signOrByte_15 : decode cX9_signOrByte 15 = .ok (.bipush 67, 2) := by decide +kernel
theorem dX9_signOrByte_17 : decode cX9_signOrByte 17 = .ok (.iload_n 1, 1) := by decide +kernel
theorem dX9_signOrByte_18 : decode cX9_signOrByte 18 = .ok (.iadd, 1) := by decide +kernel
theorem dX9_signOrByte_19 : decode cX9_signOrByte 19 = .ok (.iconst 4, 1) := by decide +kernel
theorem dX9_signOrByte_20 : decode cX9_signOrByte 20 = .ok (.isub, 1) := by decide +kernel
theorem dX9_signOrByte_21 : decode cX9_signOrByte 21 = .ok (.iaload, 1) := by decide +kernel
theorem dX9_signOrByte_22 : decode cX9_signOrByte 22 = .ok (.ireturn, 1) := by decide +kernel
theorem dX9_signOrByte_23 : decode cX9_signOrByte 23 = .ok (.iload_n 1, 1) := by decide +kernel
theorem dX9_signOrByte_24 : decode cX9_signOrByte 24 = .ok (.bipush 64, 2) := by decide +kernel
theorem dX9_signOrByte_26 : decode cX9_signOrByte 26 = .ok (.bipush 78, 2) := by decide +kernel
theorem dX9_signOrByte_28 : decode cX9_signOrByte 28 = .ok (.invokestatic 18, 3) := by decide +kernel
theorem dX9_signOrByte_31 : decode cX9_signOrByte 31 = .ok (.ifCond .ne 5, 3) := by decide +kernel
theorem dX9_signOrByte_34 : decode cX9_signOrByte 34 = .ok (.iconst (-1), 1) := by decide +kernel
theorem dX9_signOrByte_35 : decode cX9_signOrByte 35 = .ok (.ireturn, 1) := by decide +kernel
theorem dX9_signOrByte_36 : decode cX9_signOrByte 36 = .ok (.iload_n 1, 1) := by decide +kernel
theorem dX9_signOrByte_37 : decode cX9_signOrByte 37 = .ok (.bipush 64, 2) := by decide +kernel
theorem dX9_signOrByte_39 : decode cX9_signOrByte 39 = .ok (.isub, 1) := by decide +kernel
theorem dX9_signOrByte_40 : decode cX9_signOrByte 40 = .ok (.istore_n 3, 1) := by decide +kernel
theorem dX9_signOrByte_41 : decode cX9_signOrByte 41 = .ok (.iconst 4, 1) := by decide +kernel
theorem dX9_signOrByte_42 : decode cX9_signOrByte 42 = .ok (.iload_n 3, 1) := by decide +kernel
theorem dX9_signOrByte_43 : decode cX9_signOrByte 43 = .ok (.imul, 1) := by decide +kernel
theorem dX9_signOrByte_44 : decode cX9_signOrByte 44 = .ok (.iload_n 2, 1) := by decide +kernel
theorem dX9_signOrByte_45 : decode cX9_signOrByte 45 = .ok (.if_icmp .ge 11, 3) := by decide +kernel
theorem dX9_signOrByte_48 : decode cX9_signOrByte 48 = .ok (.aload_n 0, 1) := by decide +kernel
theorem dX9_signOrByte_49 : decode cX9_signOrByte 49 = .ok (.iload_n 3, 1) := by decide +kernel
theorem dX9_signOrByte_50 : decode cX9_signOrByte 50 = .ok (.invokevirtual 416, 3) := by decide +kernel
theorem dX9_signOrByte_53 : decode cX9_signOrByte 53 = .ok (.goto 4, 3) := by decide +kernel
theorem dX9_signOrByte_56 : decode cX9_signOrByte 56 = .ok (.iconst (-1), 1) := by decide +kernel
theorem dX9_signOrByte_57 : decode cX9_signOrByte 57 = .ok (.ireturn, 1) := by decide +kernel
theorem dX9_wasThere_0 : decode cX9_wasThere 0 = .ok (.iconst 0, 1) := by decide +kernel
theorem dX9_wasThere_1 : decode cX9_wasThere 1 = .ok (.istore_n 2, 1) := by decide +kernel
theorem dX9_wasThere_2 : decode cX9_wasThere 2 = .ok (.iconst 0, 1) := by decide +kernel
theorem dX9_wasThere_3 : decode cX9_wasThere 3 = .ok (.istore_n 3, 1) := by decide +kernel
theorem dX9_wasThere_4 : decode cX9_wasThere 4 = .ok (.iload_n 3, 1) := by decide +kernel
theorem dX9_wasThere_5 : decode cX9_wasThere 5 = .ok (.aload_n 0, 1) := by decide +kernel
theorem dX9_wasThere_6 : decode cX9_wasThere 6 = .ok (.getfield 28, 3) := by decide +kernel
theorem dX9_wasThere_9 : decode cX9_wasThere 9 = .ok (.bipush 36, 2) := by decide +kernel
theorem dX9_wasThere_11 : decode cX9_wasThere 11 = .ok (.iaload, 1) := by decide +kernel
theorem dX9_wasThere_12 : decode cX9_wasThere 12 = .ok (.if_icmp .ge 32, 3) := by decide +kernel
theorem dX9_wasThere_15 : decode cX9_wasThere 15 = .ok (.iload_n 2, 1) := by decide +kernel
theorem dX9_wasThere_16 : decode cX9_wasThere 16 = .ok (.ifCond .ne 16, 3) := by decide +kernel
theorem dX9_wasThere_19 : decode cX9_wasThere 19 = .ok (.aload_n 0, 1) := by decide +kernel
theorem dX9_wasThere_20 : decode cX9_wasThere 20 = .ok (.getfield 28, 3) := by decide +kernel
theorem dX9_wasThere_23 : decode cX9_wasThere 23 = .ok (.bipush 37, 2) := by decide +kernel
theorem dX9_wasThere_25 : decode cX9_wasThere 25 = .ok (.iload_n 3, 1) := by decide +kernel
theorem dX9_wasThere_26 : decode cX9_wasThere 26 = .ok (.iadd, 1) := by decide +kernel
theorem dX9_wasThere_27 : decode cX9_wasThere 27 = .ok (.iaload, 1) := by decide +kernel
theorem dX9_wasThere_28 : decode cX9_wasThere 28 = .ok (.iload_n 1, 1) := by decide +kernel
theorem dX9_wasThere_29 : decode cX9_wasThere 29 = .ok (.if_icmp .ne 7, 3) := by decide +kernel
theorem dX9_wasThere_32 : decode cX9_wasThere 32 = .ok (.iconst 1, 1) := by decide +kernel
theorem dX9_wasThere_33 : decode cX9_wasThere 33 = .ok (.goto 4, 3) := by decide +kernel
theorem dX9_wasThere_36 : decode cX9_wasThere 36 = .ok (.iconst 0, 1) := by decide +kernel
theorem dX9_wasThere_37 : decode cX9_wasThere 37 = .ok (.istore_n 2, 1) := by decide +kernel
theorem dX9_wasThere_38 : decode cX9_wasThere 38 = .ok (.iinc 3 1, 3) := by decide +kernel
theorem dX9_wasThere_41 : decode cX9_wasThere 41 = .ok (.goto (-37), 3) := by decide +kernel
theorem dX9_wasThere_44 : decode cX9_wasThere 44 = .ok (.iload_n 2, 1) := by decide +kernel
theorem dX9_wasThere_45 : decode cX9_wasThere 45 = .ok (.ireturn, 1) := by decide +kernel
theorem dX9_twin_0 : decode cX9_twin 0 = .ok (.aload_n 0, 1) := by decide +kernel
theorem dX9_twin_1 : decode cX9_twin 1 = .ok (.getfield 28, 3) := by decide +kernel
theorem dX9_twin_4 : decode cX9_twin 4 = .ok (.bipush 33, 2) := by decide +kernel
theorem dX9_twin_6 : decode cX9_twin 6 = .ok (.iaload, 1) := by decide +kernel
theorem dX9_twin_7 : decode cX9_twin 7 = .ok (.ifCond .eq 18, 3) := by decide +kernel
theorem dX9_twin_10 : decode cX9_twin 10 = .ok (.iload_n 1, 1) := by decide +kernel
theorem dX9_twin_11 : decode cX9_twin 11 = .ok (.invokestatic 127, 3) := by decide +kernel
theorem dX9_twin_14 : decode cX9_twin 14 = .ok (.ifCond .eq 11, 3) := by decide +kernel
theorem dX9_twin_17 : decode cX9_twin 17 = .ok (.aload_n 0, 1) := by decide +kernel
theorem dX9_twin_18 : decode cX9_twin 18 = .ok (.iload_n 1, 1) := by decide +kernel
theorem dX9_twin_19 : decode cX9_twin 19 = .ok (.invokevirtual 419, 3) := by decide +kernel
theorem dX9_twin_22 : decode cX9_twin 22 = .ok (.ifCond .eq 5, 3) := by decide +kernel
theorem dX9_twin_25 : decode cX9_twin 25 = .ok (.iconst (-1), 1) := by decide +kernel
theorem dX9_twin_26 : decode cX9_twin 26 = .ok (.ireturn, 1) := by decide +kernel
theorem dX9_twin_27 : decode cX9_twin 27 = .ok (.iconst 0, 1) := by decide +kernel
theorem dX9_twin_28 : decode cX9_twin 28 = .ok (.istore_n 2, 1) := by decide +kernel
theorem dX9_twin_29 : decode cX9_twin 29 = .ok (.iload_n 2, 1) := by decide +kernel
theorem dX9_twin_30 : decode cX9_twin 30 = .ok (.aload_n 0, 1) := by decide +kernel
theorem dX9_twin_31 : decode cX9_twin 31 = .ok (.getfield 28, 3) := by decide +kernel
theorem dX9_twin_34 : decode cX9_twin 34 = .ok (.bipush 36, 2) := by decide +kernel
theorem dX9_twin_36 : decode cX9_twin 36 = .ok (.iaload, 1) := by decide +kernel
theorem dX9_twin_37 : decode cX9_twin 37 = .ok (.if_icmp .ge 42, 3) := by decide +kernel
theorem dX9_twin_40 : decode cX9_twin 40 = .ok (.aload_n 0, 1) := by decide +kernel
theorem dX9_twin_41 : decode cX9_twin 41 = .ok (.aload_n 0, 1) := by decide +kernel
theorem dX9_twin_42 : decode cX9_twin 42 = .ok (.getfield 28, 3) := by decide +kernel
theorem dX9_twin_45 : decode cX9_twin 45 = .ok (.bipush 37, 2) := by decide +kernel
theorem dX9_twin_47 : decode cX9_twin 47 = .ok (.iload_n 2, 1) := by decide +kernel
theorem dX9_twin_48 : decode cX9_twin 48 = .ok (.iadd, 1) := by decide +kernel
theorem dX9_twin_49 : decode cX9_twin 49 = .ok (.iaload, 1) := by decide +kernel
theorem dX9_twin_50 : decode cX9_twin 50 = .ok (.iconst 1, 1) := by decide +kernel
theorem dX9_twin_51 : decode cX9_twin 51 = .ok (.invokevirtual 311, 3) := by decide +kernel
theorem dX9_twin_54 : decode cX9_twin 54 = .ok (.aload_n 0, 1) := by decide +kernel
theorem dX9_twin_55 : decode cX9_twin 55 = .ok (.iload_n 1, 1) := by decide +kernel
theorem dX9_twin_56 : decode cX9_twin 56 = .ok (.iconst 1, 1) := by decide +kernel
theorem dX9_twin_57 : decode cX9_twin 57 = .ok (.invokevirtual 311, 3) := by decide +kernel
theorem dX9_twin_60 : decode cX9_twin 60 = .ok (.if_icmp .ne 13, 3) := by decide +kernel
theorem dX9_twin_63 : decode cX9_twin 63 = .ok (.aload_n 0, 1) := by decide +kernel
theorem dX9_twin_64 : decode cX9_twin 64 = .ok (.getfield 28, 3) := by decide +kernel
theorem dX9_twin_67 : decode cX9_twin 67 = .ok (.bipush 37, 2) := by decide +kernel
theorem dX9_twin_69 : decode cX9_twin 69 = .ok (.iload_n 2, 1) := by decide +kernel
theorem dX9_twin_70 : decode cX9_twin 70 = .ok (.iadd, 1) := by decide +kernel
theorem dX9_twin_71 : decode cX9_twin 71 = .ok (.iaload, 1) := by decide +kernel
theorem dX9_twin_72 : decode cX9_twin 72 = .ok (.ireturn, 1) := by decide +kernel
theorem dX9_twin_73 : decode cX9_twin 73 = .ok (.iinc 2 1, 3) := by decide +kernel
theorem dX9_twin_76 : decode cX9_twin 76 = .ok (.goto (-47), 3) := by decide +kernel
theorem dX9_twin_79 : decode cX9_twin 79 = .ok (.iconst (-1), 1) := by decide +kernel
theorem dX9_twin_80 : decode cX9_twin 80 = .ok (.ireturn, 1) := by decide +kernel
theorem dX9_seen_0 : decode cX9_seen 0 = .ok (.iload_n 1, 1) := by decide +kernel
theorem dX9_seen_1 : decode cX9_seen 1 = .ok (.iconst 0, 1) := by decide +kernel
theorem dX9_seen_2 : decode cX9_seen 2 = .ok (.bipush 59, 2) := by decide +kernel
theorem dX9_seen_4 : decode cX9_seen 4 = .ok (.invokestatic 18, 3) := by decide +kernel
theorem dX9_seen_7 : decode cX9_seen 7 = .ok (.ifCond .eq 12, 3) := by decide +kernel
theorem dX9_seen_10 : decode cX9_seen 10 = .ok (.iload_n 2, 1) := by decide +kernel
theorem dX9_seen_11 : decode cX9_seen 11 = .ok (.iconst 0, 1) := by decide +kernel
theorem dX9_seen_12 : decode cX9_seen 12 = .ok (.iconst 1, 1) := by decide +kernel
theorem dX9_seen_13 : decode cX9_seen 13 = .ok (.invokestatic 18, 3) := by decide +kernel
theorem dX9_seen_16 : decode cX9_seen 16 = .ok (.ifCond .ne 9, 3) := by decide +kernel
theorem dX9_seen_19 : decode cX9_seen 19 = .ok (.aload_n 0, 1) := by decide +kernel
theorem dX9_seen_20 : decode cX9_seen 20 = .ok (.iconst (-1), 1) := by decide +kernel
theorem dX9_seen_21 : decode cX9_seen 21 = .ok (.invokevirtual 103, 3) := by decide +kernel
theorem dX9_seen_24 : decode cX9_seen 24 = .ok (.ireturn, 1) := by decide +kernel
theorem dX9_seen_25 : decode cX9_seen 25 = .ok (.sipush 188, 3) := by decide +kernel
theorem dX9_seen_28 : decode cX9_seen 28 = .ok (.iconst 2, 1) := by decide +kernel
theorem dX9_seen_29 : decode cX9_seen 29 = .ok (.aload_n 0, 1) := by decide +kernel
theorem dX9_seen_30 : decode cX9_seen 30 = .ok (.getfield 28, 3) := by decide +kernel
theorem dX9_seen_33 : decode cX9_seen 33 = .ok (.sipush 202, 3) := by decide +kernel
theorem dX9_seen_36 : decode cX9_seen 36 = .ok (.iaload, 1) := by decide +kernel
theorem dX9_seen_37 : decode cX9_seen 37 = .ok (.imul, 1) := by decide +kernel
theorem dX9_seen_38 : decode cX9_seen 38 = .ok (.iadd, 1) := by decide +kernel
theorem dX9_seen_39 : decode cX9_seen 39 = .ok (.istore_n 3, 1) := by decide +kernel
theorem dX9_seen_40 : decode cX9_seen 40 = .ok (.aload_n 0, 1) := by decide +kernel
theorem dX9_seen_41 : decode cX9_seen 41 = .ok (.getfield 28, 3) := by decide +kernel
theorem dX9_seen_44 : decode cX9_seen 44 = .ok (.sipush 202, 3) := by decide +kernel
theorem dX9_seen_47 : decode cX9_seen 47 = .ok (.iaload, 1) := by decide +kernel
theorem dX9_seen_48 : decode cX9_seen 48 = .ok (.bipush 6, 2) := by decide +kernel
theorem dX9_seen_50 : decode cX9_seen 50 = .ok (.if_icmp .ne 10, 3) := by decide +kernel
theorem dX9_seen_53 : decode cX9_seen 53 = .ok (.aload_n 0, 1) := by decide +kernel
theorem dX9_seen_54 : decode cX9_seen 54 = .ok (.bipush (-5), 2) := by decide +kernel
theorem dX9_seen_56 : decode cX9_seen 56 = .ok (.invokevirtual 103, 3) := by decide +kernel
theorem dX9_seen_59 : decode cX9_seen 59 = .ok (.ireturn, 1) := by decide +kernel
theorem dX9_seen_60 : decode cX9_seen 60 = .ok (.aload_n 0, 1) := by decide +kernel
theorem dX9_seen_61 : decode cX9_seen 61 = .ok (.getfield 28, 3) := by decide +kernel
theorem dX9_seen_64 : decode cX9_seen 64 = .ok (.iload_n 3, 1) := by decide +kernel
theorem dX9_seen_65 : decode cX9_seen 65 = .ok (.iload_n 1, 1) := by decide +kernel
theorem dX9_seen_66 : decode cX9_seen 66 = .ok (.iastore, 1) := by decide +kernel
theorem dX9_seen_67 : decode cX9_seen 67 = .ok (.aload_n 0, 1) := by decide +kernel
theorem dX9_seen_68 : decode cX9_seen 68 = .ok (.getfield 28, 3) := by decide +kernel
theorem dX9_seen_71 : decode cX9_seen 71 = .ok (.iload_n 3, 1) := by decide +kernel
theorem dX9_seen_72 : decode cX9_seen 72 = .ok (.iconst 1, 1) := by decide +kernel
theorem dX9_seen_73 : decode cX9_seen 73 = .ok (.iadd, 1) := by decide +kernel
theorem dX9_seen_74 : decode cX9_seen 74 = .ok (.iload_n 2, 1) := by decide +kernel
theorem dX9_seen_75 : decode cX9_seen 75 = .ok (.iastore, 1) := by decide +kernel
theorem dX9_seen_76 : decode cX9_seen 76 = .ok (.aload_n 0, 1) := by decide +kernel
theorem dX9_seen_77 : decode cX9_seen 77 = .ok (.getfield 28, 3) := by decide +kernel
theorem dX9_seen_80 : decode cX9_seen 80 = .ok (.sipush 202, 3) := by decide +kernel
theorem dX9_seen_83 : decode cX9_seen 83 = .ok (.dup2, 1) := by decide +kernel
theorem dX9_seen_84 : decode cX9_seen 84 = .ok (.iaload, 1) := by decide +kernel
theorem dX9_seen_85 : decode cX9_seen 85 = .ok (.iconst 1, 1) := by decide +kernel
theorem dX9_seen_86 : decode cX9_seen 86 = .ok (.iadd, 1) := by decide +kernel
theorem dX9_seen_87 : decode cX9_seen 87 = .ok (.iastore, 1) := by decide +kernel
theorem dX9_seen_88 : decode cX9_seen 88 = .ok (.aload_n 0, 1) := by decide +kernel
theorem dX9_seen_89 : decode cX9_seen 89 = .ok (.aload_n 0, 1) := by decide +kernel
theorem dX9_seen_90 : decode cX9_seen 90 = .ok (.getfield 28, 3) := by decide +kernel
theorem dX9_seen_93 : decode cX9_seen 93 = .ok (.sipush 202, 3) := by decide +kernel
theorem dX9_seen_96 : decode cX9_seen 96 = .ok (.iaload, 1) := by decide +kernel
theorem dX9_seen_97 : decode cX9_seen 97 = .ok (.invokevirtual 14, 3) := by decide +kernel
theorem dX9_seen_100 : decode cX9_seen 100 = .ok (.ireturn, 1) := by decide +kernel
theorem dX9_forget_0 : decode cX9_forget 0 = .ok (.aload_n 0, 1) := by decide +kernel
theorem dX9_forget_1 : decode cX9_forget 1 = .ok (.getfield 28, 3) := by decide +kernel
theorem dX9_forget_4 : decode cX9_forget 4 = .ok (.sipush 202, 3) := by decide +kernel
theorem dX9_forget_7 : decode cX9_forget 7 = .ok (.iaload, 1) := by decide +kernel
theorem dX9_forget_8 : decode cX9_forget 8 = .ok (.istore_n 1, 1) := by decide +kernel
theorem dX9_forget_9 : decode cX9_forget 9 = .ok (.aload_n 0, 1) := by decide +kernel
theorem dX9_forget_10 : decode cX9_forget 10 = .ok (.getfield 28, 3) := by decide +kernel
theorem dX9_forget_13 : decode cX9_forget 13 = .ok (.sipush 202, 3) := by decide +kernel
theorem dX9_forget_16 : decode cX9_forget 16 = .ok (.iconst 0, 1) := by decide +kernel
theorem dX9_forget_17 : decode cX9_forget 17 = .ok (.iastore, 1) := by decide +kernel
theorem dX9_forget_18 : decode cX9_forget 18 = .ok (.iload_n 1, 1) := by decide +kernel
theorem dX9_forget_19 : decode cX9_forget 19 = .ok (.ireturn, 1) := by decide +kernel
theorem dX9_has_0 : decode cX9_has 0 = .ok (.iload_n 1, 1) := by decide +kernel
theorem dX9_has_1 : decode cX9_has 1 = .ok (.iload_n 2, 1) := by decide +kernel
theorem dX9_has_2 : decode cX9_has 2 = .ok (.aload_n 0, 1) := by decide +kernel
theorem dX9_has_3 : decode cX9_has 3 = .ok (.getfield 28, 3) := by decide +kernel
theorem dX9_has_6 : decode cX9_has 6 = .ok (.bipush 32, 2) := by decide +kernel
theorem dX9_has_8 : decode cX9_has 8 = .ok (.iaload, 1) := by decide +kernel
theorem dX9_has_9 : decode cX9_has 9 = .ok (.aload_n 0, 1) := by decide +kernel
theorem dX9_has_10 : decode cX9_has 10 = .ok (.getfield 28, 3) := by decide +kernel
theorem dX9_has_13 : decode cX9_has 13 = .ok (.bipush 31, 2) := by decide +kernel
theorem dX9_has_15 : decode cX9_has 15 = .ok (.iaload, 1) := by decide +kernel
theorem dX9_has_16 : decode cX9_has 16 = .ok (.invokestatic 119, 3) := by decide +kernel
theorem dX9_has_19 : decode cX9_has 19 = .ok (.ireturn, 1) := by decide +kernel
theorem dX9_isSo_0 : decode cX9_isSo 0 = .ok (.iconst 1, 1) := by decide +kernel
theorem dX9_isSo_1 : decode cX9_isSo 1 = .ok (.istore_n 2, 1) := by decide +kernel
theorem dX9_isSo_2 : decode cX9_isSo 2 = .ok (.iconst 0, 1) := by decide +kernel
theorem dX9_isSo_3 : decode cX9_isSo 3 = .ok (.istore_n 3, 1) := by decide +kernel
theorem dX9_isSo_4 : decode cX9_isSo 4 = .ok (.iload_n 3, 1) := by decide +kernel
theorem dX9_isSo_5 : decode cX9_isSo 5 = .ok (.aload_n 0, 1) := by decide +kernel
theorem dX9_isSo_6 : decode cX9_isSo 6 = .ok (.getfield 28, 3) := by decide +kernel
theorem dX9_isSo_9 : decode cX9_isSo 9 = .ok (.sipush 202, 3) := by decide +kernel
theorem dX9_isSo_12 : decode cX9_isSo 12 = .ok (.iaload, 1) := by decide +kernel
theorem dX9_isSo_13 : decode cX9_isSo 13 = .ok (.if_icmp .ge 62, 3) := by decide +kernel
theorem dX9_isSo_16 : decode cX9_isSo 16 = .ok (.iload_n 2, 1) := by decide +kernel
theorem dX9_isSo_17 : decode cX9_isSo 17 = .ok (.ifCond .eq 50, 3) := by decide +kernel
theorem dX9_isSo_20 : decode cX9_isSo 20 = .ok (.aload_n 0, 1) := by decide +kernel
theorem dX9_isSo_21 : decode cX9_isSo 21 = .ok (.iload_n 1, 1) := by decide +kernel
theorem dX9_isSo_22 : decode cX9_isSo 22 = .ok (.aload_n 0, 1) := by decide +kernel
theorem dX9_isSo_23 : decode cX9_isSo 23 = .ok (.getfield 28, 3) := by decide +kernel
theorem dX9_isSo_26 : decode cX9_isSo 26 = .ok (.sipush 188, 3) := by decide +kernel
theorem dX9_isSo_29 : decode cX9_isSo 29 = .ok (.iconst 2, 1) := by decide +kernel
theorem dX9_isSo_30 : decode cX9_isSo 30 = .ok (.iload_n 3, 1) := by decide +kernel
theorem dX9_isSo_31 : decode cX9_isSo 31 = .ok (.imul, 1) := by decide +kernel
theorem dX9_isSo_32 : decode cX9_isSo 32 = .ok (.iadd, 1) := by decide +kernel
theorem dX9_isSo_33 : decode cX9_isSo 33 = .ok (.iaload, 1) := by decide +kernel
theorem dX9_isSo_34 : decode cX9_isSo 34 = .ok (.invokevirtual 422, 3) := by decide +kernel
theorem dX9_isSo_37 : decode cX9_isSo 37 = .ok (.aload_n 0, 1) := by decide +kernel
theorem dX9_isSo_38 : decode cX9_isSo 38 = .ok (.getfield 28, 3) := by decide +kernel
theorem dX9_isSo_41 : decode cX9_isSo 41 = .ok (.sipush 188, 3) := by decide +kernel
theorem dX9_isSo_44 : decode cX9_isSo 44 = .ok (.iconst 2, 1) := by decide +kernel
theorem dX9_isSo_45 : decode cX9_isSo 45 = .ok (.iload_n 3, 1) := by decide +kernel
theorem dX9_isSo_46 : decode cX9_isSo 46 = .ok (.imul, 1) := by decide +kernel
theorem dX9_isSo_47 : decode cX9_isSo 47 = .ok (.iadd, 1) := by decide +kernel
theorem dX9_isSo_48 : decode cX9_isSo 48 = .ok (.iconst 1, 1) := by decide +kernel
theorem dX9_isSo_49 : decode cX9_isSo 49 = .ok (.iadd, 1) := by decide +kernel
theorem dX9_isSo_50 : decode cX9_isSo 50 = .ok (.iaload, 1) := by decide +kernel
theorem dX9_isSo_51 : decode cX9_isSo 51 = .ok (.iconst 1, 1) := by decide +kernel
theorem dX9_isSo_52 : decode cX9_isSo 52 = .ok (.if_icmp .ne 7, 3) := by decide +kernel
theorem dX9_isSo_55 : decode cX9_isSo 55 = .ok (.iconst 1, 1) := by decide +kernel
theorem dX9_isSo_56 : decode cX9_isSo 56 = .ok (.goto 4, 3) := by decide +kernel
theorem dX9_isSo_59 : decode cX9_isSo 59 = .ok (.iconst 0, 1) := by decide +kernel
theorem dX9_isSo_60 : decode cX9_isSo 60 = .ok (.if_icmp .ne 7, 3) := by decide +kernel
theorem dX9_isSo_63 : decode cX9_isSo 63 = .ok (.iconst 1, 1) := by decide +kernel
theorem dX9_isSo_64 : decode cX9_isSo 64 = .ok (.goto 4, 3) := by decide +kernel
theorem dX9_isSo_67 : decode cX9_isSo 67 = .ok (.iconst 0, 1) := by decide +kernel
theorem dX9_isSo_68 : decode cX9_isSo 68 = .ok (.istore_n 2, 1) := by decide +kernel
theorem dX9_isSo_69 : decode cX9_isSo 69 = .ok (.iinc 3 1, 3) := by decide +kernel
theorem dX9_isSo_72 : decode cX9_isSo 72 = .ok (.goto (-68), 3) := by decide +kernel
theorem dX9_isSo_75 : decode cX9_isSo 75 = .ok (.iload_n 2, 1) := by decide +kernel
theorem dX9_isSo_76 : decode cX9_isSo 76 = .ok (.ireturn, 1) := by decide +kernel
theorem dX9_canBe_0 : decode cX9_canBe 0 = .ok (.iload_n 1, 1) := by decide +kernel
theorem dX9_canBe_1 : decode cX9_canBe 1 = .ok (.iconst (-1), 1) := by decide +kernel
theorem dX9_canBe_2 : decode cX9_canBe 2 = .ok (.if_icmp .ge 5, 3) := by decide +kernel
theorem dX9_canBe_5 : decode cX9_canBe 5 = .ok (.iconst (-1), 1) := by decide +kernel
theorem dX9_canBe_6 : decode cX9_canBe 6 = .ok (.ireturn, 1) := by decide +kernel
theorem dX9_canBe_7 : decode cX9_canBe 7 = .ok (.iconst 0, 1) := by decide +kernel
theorem dX9_canBe_8 : decode cX9_canBe 8 = .ok (.istore_n 2, 1) := by decide +kernel
theorem dX9_canBe_9 : decode cX9_canBe 9 = .ok (.iconst 0, 1) := by decide +kernel
theorem dX9_canBe_10 : decode cX9_canBe 10 = .ok (.istore_n 3, 1) := by decide +kernel
theorem dX9_canBe_11 : decode cX9_canBe 11 = .ok (.iload_n 3, 1) := by decide +kernel
theorem dX9_canBe_12 : decode cX9_canBe 12 = .ok (.aload_n 0, 1) := by decide +kernel
theorem dX9_canBe_13 : decode cX9_canBe 13 = .ok (.getfield 28, 3) := by decide +kernel
theorem dX9_canBe_16 : decode cX9_canBe 16 = .ok (.iconst 0, 1) := by decide +kernel
theorem dX9_canBe_17 : decode cX9_canBe 17 = .ok (.iaload, 1) := by decide +kernel
theorem dX9_canBe_18 : decode cX9_canBe 18 = .ok (.if_icmp .ge 38, 3) := by decide +kernel
theorem dX9_canBe_21 : decode cX9_canBe 21 = .ok (.aload_n 0, 1) := by decide +kernel
theorem dX9_canBe_22 : decode cX9_canBe 22 = .ok (.aload_n 0, 1) := by decide +kernel
theorem dX9_canBe_23 : decode cX9_canBe 23 = .ok (.iload_n 3, 1) := by decide +kernel
theorem dX9_canBe_24 : decode cX9_canBe 24 = .ok (.invokevirtual 109, 3) := by decide +kernel
theorem dX9_canBe_27 : decode cX9_canBe 27 = .ok (.invokevirtual 425, 3) := by decide +kernel
theorem dX9_canBe_30 : decode cX9_canBe 30 = .ok (.ifCond .ne 6, 3) := by decide +kernel
theorem dX9_canBe_33 : decode cX9_canBe 33 = .ok (.goto 17, 3) := by decide +kernel
theorem dX9_canBe_36 : decode cX9_canBe 36 = .ok (.iload_n 2, 1) := by decide +kernel
theorem dX9_canBe_37 : decode cX9_canBe 37 = .ok (.iload_n 1, 1) := by decide +kernel
theorem dX9_canBe_38 : decode cX9_canBe 38 = .ok (.if_icmp .ne 9, 3) := by decide +kernel
theorem dX9_canBe_41 : decode cX9_canBe 41 = .ok (.aload_n 0, 1) := by decide +kernel
theorem dX9_canBe_42 : decode cX9_canBe 42 = .ok (.iload_n 3, 1) := by decide +kernel
theorem dX9_canBe_43 : decode cX9_canBe 43 = .ok (.invokevirtual 109, 3) := by decide +kernel
theorem dX9_canBe_46 : decode cX9_canBe 46 = .ok (.ireturn, 1) := by decide +kernel
theorem dX9_canBe_47 : decode cX9_canBe 47 = .ok (.iinc 2 1, 3) := by decide +kernel
theorem dX9_canBe_50 : decode cX9_canBe 50 = .ok (.iinc 3 1, 3) := by decide +kernel
theorem dX9_canBe_53 : decode cX9_canBe 53 = .ok (.goto (-42), 3) := by decide +kernel
theorem dX9_canBe_56 : decode cX9_canBe 56 = .ok (.iload_n 1, 1) := by decide +kernel
theorem dX9_canBe_57 : decode cX9_canBe 57 = .ok (.iconst (-1), 1) := by decide +kernel
theorem dX9_canBe_58 : decode cX9_canBe 58 = .ok (.if_icmp .ne 7, 3) := by decide +kernel
theorem dX9_canBe_61 : decode cX9_canBe 61 = .ok (.iload_n 2, 1) := by decide +kernel
theorem dX9_canBe_62 : decode cX9_canBe 62 = .ok (.goto 4, 3) := by decide +kernel
theorem dX9_canBe_65 : decode cX9_canBe 65 = .ok (.iconst (-1), 1) := by decide +kernel
theorem dX9_canBe_66 : decode cX9_canBe 66 = .ok (.ireturn, 1) := by decide +kernel
theorem dX9_ask_0 : decode cX9_ask 0 = .ok (.iload_n 1, 1) := by decide +kernel
theorem dX9_ask_1 : decode cX9_ask 1 = .ok (.iconst 0, 1) := by decide +kernel
theorem dX9_ask_2 : decode cX9_ask 2 = .ok (.iconst 1, 1) := by decide +kernel
theorem dX9_ask_3 : decode cX9_ask 3 = .ok (.invokestatic 18, 3) := by decide +kernel
theorem dX9_ask_6 : decode cX9_ask 6 = .ok (.ifCond .ne 5, 3) := by decide +kernel
theorem dX9_ask_9 : decode cX9_ask 9 = .ok (.iconst (-1), 1) := by decide +kernel
theorem dX9_ask_10 : decode cX9_ask 10 = .ok (.ireturn, 1) := by decide +kernel
theorem dX9_ask_11 : decode cX9_ask 11 = .ok (.aload_n 0, 1) := by decide +kernel
theorem dX9_ask_12 : decode cX9_ask 12 = .ok (.iconst (-1), 1) := by decide +kernel
theorem dX9_ask_13 : decode cX9_ask 13 = .ok (.invokevirtual 428, 3) := by decide +kernel
theorem dX9_ask_16 : decode cX9_ask 16 = .ok (.istore_n 2, 1) := by decide +kernel
theorem dX9_ask_17 : decode cX9_ask 17 = .ok (.iconst (-1), 1) := by decide +kernel
theorem dX9_ask_18 : decode cX9_ask 18 = .ok (.istore_n 3, 1) := by decide +kernel
theorem dX9_ask_19 : decode cX9_ask 19 = .ok (.ldc 178, 2) := by decide +kernel
theorem dX9_ask_21 : decode cX9_ask 21 = .ok (.istore 4, 2) := by decide +kernel
theorem dX9_ask_23 : decode cX9_ask 23 = .ok (.iconst 0, 1) := by decide +kernel
theorem dX9_ask_24 : decode cX9_ask 24 = .ok (.istore 5, 2) := by decide +kernel
theorem dX9_ask_26 : decode cX9_ask 26 = .ok (.iload 5, 2) := by decide +kernel
theorem dX9_ask_28 : decode cX9_ask 28 = .ok (.aload_n 0, 1) := by decide +kernel
theorem dX9_ask_29 : decode cX9_ask 29 = .ok (.invokevirtual 123, 3) := by decide +kernel
theorem dX9_ask_32 : decode cX9_ask 32 = .ok (.if_icmp .ge 102, 3) := by decide +kernel
theorem dX9_ask_35 : decode cX9_ask 35 = .ok (.iload_n 2, 1) := by decide +kernel
theorem dX9_ask_36 : decode cX9_ask 36 = .ok (.ifCond .le 98, 3) := by decide +kernel
theorem dX9_ask_39 : decode cX9_ask 39 = .ok (.iconst 0, 1) := by decide +kernel
theorem dX9_ask_40 : decode cX9_ask 40 = .ok (.istore 6, 2) := by decide +kernel
theorem dX9_ask_42 : decode cX9_ask 42 = .ok (.iconst 0, 1) := by decide +kernel
theorem dX9_ask_43 : decode cX9_ask 43 = .ok (.istore 7, 2) := by decide +kernel
theorem dX9_ask_45 : decode cX9_ask 45 = .ok (.iload 7, 2) := by decide +kernel
theorem dX9_ask_47 : decode cX9_ask 47 = .ok (.aload_n 0, 1) := by decide +kernel
theorem dX9_ask_48 : decode cX9_ask 48 = .ok (.getfield 28, 3) := by decide +kernel
theorem dX9_ask_51 : decode cX9_ask 51 = .ok (.iconst 0, 1) := by decide +kernel
theorem dX9_ask_52 : decode cX9_ask 52 = .ok (.iaload, 1) := by decide +kernel
theorem dX9_ask_53 : decode cX9_ask 53 = .ok (.if_icmp .ge 47, 3) := by decide +kernel
theorem dX9_ask_56 : decode cX9_ask 56 = .ok (.iload 6, 2) := by decide +kernel
theorem dX9_ask_58 : decode cX9_ask 58 = .ok (.aload_n 0, 1) := by decide +kernel
theorem dX9_ask_59 : decode cX9_ask 59 = .ok (.aload_n 0, 1) := by decide +kernel
theorem dX9_ask_60 : decode cX9_ask 60 = .ok (.iload 7, 2) := by decide +kernel
theorem dX9_ask_62 : decode cX9_ask 62 = .ok (.invokevirtual 109, 3) := by decide +kernel
theorem dX9_ask_65 : decode cX9_ask 65 = .ok (.invokevirtual 425, 3) := by decide +kernel
theorem dX9_ask_68 : decode cX9_ask 68 = .ok (.ifCond .eq 22, 3) := by decide +kernel
theorem dX9_ask_71 : decode cX9_ask 71 = .ok (.aload_n 0, 1) := by decide +kernel
theorem dX9_ask_72 : decode cX9_ask 72 = .ok (.aload_n 0, 1) := by decide +kernel
theorem dX9_ask_73 : decode cX9_ask 73 = .ok (.iload 7, 2) := by decide +kernel
theorem dX9_ask_75 : decode cX9_ask 75 = .ok (.invokevirtual 109, 3) := by decide +kernel
theorem dX9_ask_78 : decode cX9_ask 78 = .ok (.iload 5, 2) := by decide +kernel
theorem dX9_ask_80 : decode cX9_ask 80 = .ok (.invokevirtual 422, 3) := by decide +kernel
theorem dX9_ask_83 : decode cX9_ask 83 = .ok (.ifCond .eq 7, 3) := by decide +kernel
theorem dX9_ask_86 : decode cX9_ask 86 = .ok (.iconst 1, 1) := by decide +kernel
theorem dX9_ask_87 : decode cX9_ask 87 = .ok (.goto 4, 3) := by decide +kernel
theorem dX9_ask_90 : decode cX9_ask 90 = .ok (.iconst 0, 1) := by decide +kernel
theorem dX9_ask_91 : decode cX9_ask 91 = .ok (.iadd, 1) := by decide +kernel
theorem dX9_ask_92 : decode cX9_ask 92 = .ok (.istore 6, 2) := by decide +kernel
theorem dX9_ask_94 : decode cX9_ask 94 = .ok (.iinc 7 1, 3) := by decide +kernel
theorem dX9_ask_97 : decode cX9_ask 97 = .ok (.goto (-52), 3) := by decide +kernel
theorem dX9_ask_100 : decode cX9_ask 100 = .ok (.iload 6, 2) := by decide +kernel
theorem dX9_ask_102 : decode cX9_ask 102 = .ok (.iload_n 2, 1) := by decide +kernel
theorem dX9_ask_103 : decode cX9_ask 103 = .ok (.iload 6, 2) := by decide +kernel
theorem dX9_ask_105 : decode cX9_ask 105 = .ok (.isub, 1) := by decide +kernel
theorem dX9_ask_106 : decode cX9_ask 106 = .ok (.invokestatic 431, 3) := by decide +kernel
theorem dX9_ask_109 : decode cX9_ask 109 = .ok (.istore 7, 2) := by decide +kernel
theorem dX9_ask_111 : decode cX9_ask 111 = .ok (.iload 7, 2) := by decide +kernel
theorem dX9_ask_113 : decode cX9_ask 113 = .ok (.iload 4, 2) := by decide +kernel
theorem dX9_ask_115 : decode cX9_ask 115 = .ok (.if_icmp .lt 6, 3) := by decide +kernel
theorem dX9_ask_118 : decode cX9_ask 118 = .ok (.goto 10, 3) := by decide +kernel
theorem dX9_ask_121 : decode cX9_ask 121 = .ok (.iload 7, 2) := by decide +kernel
theorem dX9_ask_123 : decode cX9_ask 123 = .ok (.istore 4, 2) := by decide +kernel
theorem dX9_ask_125 : decode cX9_ask 125 = .ok (.iload 5, 2) := by decide +kernel
theorem dX9_ask_127 : decode cX9_ask 127 = .ok (.istore_n 3, 1) := by decide +kernel
theorem dX9_ask_128 : decode cX9_ask 128 = .ok (.iinc 5 1, 3) := by decide +kernel
theorem dX9_ask_131 : decode cX9_ask 131 = .ok (.goto (-105), 3) := by decide +kernel
theorem dX9_ask_134 : decode cX9_ask 134 = .ok (.iload_n 3, 1) := by decide +kernel
theorem dX9_ask_135 : decode cX9_ask 135 = .ok (.iconst (-1), 1) := by decide +kernel
theorem dX9_ask_136 : decode cX9_ask 136 = .ok (.if_icmp .eq 7, 3) := by decide +kernel
theorem dX9_ask_139 : decode cX9_ask 139 = .ok (.iload_n 1, 1) := by decide +kernel
theorem dX9_ask_140 : decode cX9_ask 140 = .ok (.ifCond .ne 7, 3) := by decide +kernel
theorem dX9_ask_143 : decode cX9_ask 143 = .ok (.iload_n 3, 1) := by decide +kernel
theorem dX9_ask_144 : decode cX9_ask 144 = .ok (.goto 5, 3) := by decide +kernel
theorem dX9_ask_147 : decode cX9_ask 147 = .ok (.iload 4, 2) := by decide +kernel
theorem dX9_ask_149 : decode cX9_ask 149 = .ok (.ireturn, 1) := by decide +kernel
theorem dX9_few_0 : decode cX9_few 0 = .ok (.iload_n 1, 1) := by decide +kernel
theorem dX9_few_1 : decode cX9_few 1 = .ok (.iconst 1, 1) := by decide +kernel
theorem dX9_few_2 : decode cX9_few 2 = .ok (.bipush 20, 2) := by decide +kernel
theorem dX9_few_4 : decode cX9_few 4 = .ok (.invokestatic 18, 3) := by decide +kernel
theorem dX9_few_7 : decode cX9_few 7 = .ok (.ifCond .eq 13, 3) := by decide +kernel
theorem dX9_few_10 : decode cX9_few 10 = .ok (.iload_n 2, 1) := by decide +kernel
theorem dX9_few_11 : decode cX9_few 11 = .ok (.iconst 0, 1) := by decide +kernel
theorem dX9_few_12 : decode cX9_few 12 = .ok (.bipush 99, 2) := by decide +kernel
theorem dX9_few_14 : decode cX9_few 14 = .ok (.invokestatic 18, 3) := by decide +kernel
theorem dX9_few_17 : decode cX9_few 17 = .ok (.ifCond .ne 7, 3) := by decide +kernel
theorem dX9_few_20 : decode cX9_few 20 = .ok (.ldc2_w 434, 3) := by decide +kernel
theorem dX9_few_23 : decode cX9_few 23 = .ok (.lreturn, 1) := by decide +kernel
theorem dX9_few_24 : decode cX9_few 24 = .ok (.iconst 0, 1) := by decide +kernel
theorem dX9_few_25 : decode cX9_few 25 = .ok (.istore_n 3, 1) := by decide +kernel
theorem dX9_few_26 : decode cX9_few 26 = .ok (.iload_n 3, 1) := by decide +kernel
theorem dX9_few_27 : decode cX9_few 27 = .ok (.bipush 20, 2) := by decide +kernel
theorem dX9_few_29 : decode cX9_few 29 = .ok (.if_icmp .gt 26, 3) := by decide +kernel
theorem dX9_few_32 : decode cX9_few 32 = .ok (.aload_n 0, 1) := by decide +kernel
theorem dX9_few_33 : decode cX9_few 33 = .ok (.getfield 90, 3) := by decide +kernel
theorem dX9_few_36 : decode cX9_few 36 = .ok (.iload_n 3, 1) := by decide +kernel
theorem dX9_few_37 : decode cX9_few 37 = .ok (.iload_n 3, 1) := by decide +kernel
theorem dX9_few_38 : decode cX9_few 38 = .ok (.ifCond .ne 9, 3) := by decide +kernel
theorem dX9_few_41 : decode cX9_few 41 = .ok (.ldc2_w 436, 3) := by decide +kernel
theorem dX9_few_44 : decode cX9_few 44 = .ok (.goto 4, 3) := by decide +kernel
theorem dX9_few_47 : decode cX9_few 47 = .ok (.lconst 0, 1) := by decide +kernel
theorem dX9_few_48 : decode cX9_few 48 = .ok (.lastore, 1) := by decide +kernel
theorem dX9_few_49 : decode cX9_few 49 = .ok (.iinc 3 1, 3) := by decide +kernel
theorem dX9_few_52 : decode cX9_few 52 = .ok (.goto (-26), 3) := by decide +kernel
theorem dX9_few_55 : decode cX9_few 55 = .ok (.iconst 0, 1) := by decide +kernel
theorem dX9_few_56 : decode cX9_few 56 = .ok (.istore_n 3, 1) := by decide +kernel
theorem dX9_few_57 : decode cX9_few 57 = .ok (.iload_n 3, 1) := by decide +kernel
theorem dX9_few_58 : decode cX9_few 58 = .ok (.iload_n 2, 1) := by decide +kernel
theorem dX9_few_59 : decode cX9_few 59 = .ok (.if_icmp .ge 89, 3) := by decide +kernel
theorem dX9_few_62 : decode cX9_few 62 = .ok (.iload_n 1, 1) := by decide +kernel
theorem dX9_few_63 : decode cX9_few 63 = .ok (.iconst 1, 1) := by decide +kernel
theorem dX9_few_64 : decode cX9_few 64 = .ok (.isub, 1) := by decide +kernel
theorem dX9_few_65 : decode cX9_few 65 = .ok (.istore 4, 2) := by decide +kernel
theorem dX9_few_67 : decode cX9_few 67 = .ok (.iload 4, 2) := by decide +kernel
theorem dX9_few_69 : decode cX9_few 69 = .ok (.ifCond .lt 73, 3) := by decide +kernel
theorem dX9_few_72 : decode cX9_few 72 = .ok (.aload_n 0, 1) := by decide +kernel
theorem dX9_few_73 : decode cX9_few 73 = .ok (.getfield 90, 3) := by decide +kernel
theorem dX9_few_76 : decode cX9_few 76 = .ok (.iload 4, 2) := by decide +kernel
theorem dX9_few_78 : decode cX9_few 78 = .ok (.iconst 1, 1) := by decide +kernel
theorem dX9_few_79 : decode cX9_few 79 = .ok (.iadd, 1) := by decide +kernel
theorem dX9_few_80 : decode cX9_few 80 = .ok (.dup2, 1) := by decide +kernel
theorem dX9_few_81 : decode cX9_few 81 = .ok (.laload, 1) := by decide +kernel
theorem dX9_few_82 : decode cX9_few 82 = .ok (.aload_n 0, 1) := by decide +kernel
theorem dX9_few_83 : decode cX9_few 83 = .ok (.getfield 90, 3) := by decide +kernel
theorem dX9_few_86 : decode cX9_few 86 = .ok (.iload 4, 2) := by decide +kernel
theorem dX9_few_88 : decode cX9_few 88 = .ok (.laload, 1) := by decide +kernel
theorem dX9_few_89 : decode cX9_few 89 = .ok (.aload_n 0, 1) := by decide +kernel
theorem dX9_few_90 : decode cX9_few 90 = .ok (.getfield 28, 3) := by decide +kernel
theorem dX9_few_93 : decode cX9_few 93 = .ok (.sipush 200, 3) := by decide +kernel
theorem dX9_few_96 : decode cX9_few 96 = .ok (.iaload, 1) := by decide +kernel
theorem dX9_few_97 : decode cX9_few 97 = .ok (.i2l, 1) := by decide +kernel
theorem dX9_few_98 : decode cX9_few 98 = .ok (.lmul, 1) := by decide +kernel
theorem dX9_few_99 : decode cX9_few 99 = .ok (.ldc2_w 438, 3) := by decide +kernel
theorem dX9_few_102 : decode cX9_few 102 = .ok (.ldiv, 1) := by decide +kernel
theorem dX9_few_103 : decode cX9_few 103 = .ok (.ladd, 1) := by decide +kernel
theorem dX9_few_104 : decode cX9_few 104 = .ok (.lastore, 1) := by decide +kernel
theorem dX9_few_105 : decode cX9_few 105 = .ok (.aload_n 0, 1) := by decide +kernel
theorem dX9_few_106 : decode cX9_few 106 = .ok (.getfield 90, 3) := by decide +kernel
theorem dX9_few_109 : decode cX9_few 109 = .ok (.iload 4, 2) := by decide +kernel
theorem dX9_few_111 : decode cX9_few 111 = .ok (.aload_n 0, 1) := by decide +kernel
theorem dX9_few_112 : decode cX9_few 112 = .ok (.getfield 90, 3) := by decide +kernel
theorem dX9_few_115 : decode cX9_few 115 = .ok (.iload 4, 2) := by decide +kernel
theorem dX9_few_117 : decode cX9_few 117 = .ok (.laload, 1) := by decide +kernel
theorem dX9_few_118 : decode cX9_few 118 = .ok (.bipush 10, 2) := by decide +kernel
theorem dX9_few_120 : decode cX9_few 120 = .ok (.aload_n 0, 1) := by decide +kernel
theorem dX9_few_121 : decode cX9_few 121 = .ok (.getfield 28, 3) := by decide +kernel
theorem dX9_few_124 : decode cX9_few 124 = .ok (.sipush 200, 3) := by decide +kernel
theorem dX9_few_127 : decode cX9_few 127 = .ok (.iaload, 1) := by decide +kernel
theorem dX9_few_128 : decode cX9_few 128 = .ok (.isub, 1) := by decide +kernel
theorem dX9_few_129 : decode cX9_few 129 = .ok (.i2l, 1) := by decide +kernel
theorem dX9_few_130 : decode cX9_few 130 = .ok (.lmul, 1) := by decide +kernel
theorem dX9_few_131 : decode cX9_few 131 = .ok (.ldc2_w 438, 3) := by decide +kernel
theorem dX9_few_134 : decode cX9_few 134 = .ok (.ldiv, 1) := by decide +kernel
theorem dX9_few_135 : decode cX9_few 135 = .ok (.lastore, 1) := by decide +kernel
theorem dX9_few_136 : decode cX9_few 136 = .ok (.iinc 4 (-1), 3) := by decide +kernel
theorem dX9_few_139 : decode cX9_few 139 = .ok (.goto (-72), 3) := by decide +kernel
theorem dX9_few_142 : decode cX9_few 142 = .ok (.iinc 3 1, 3) := by decide +kernel
theorem dX9_few_145 : decode cX9_few 145 = .ok (.goto (-88), 3) := by decide +kernel
theorem dX9_few_148 : decode cX9_few 148 = .ok (.lconst 0, 1) := by decide +kernel
theorem dX9_few_149 : decode cX9_few 149 = .ok (.lstore_n 3, 1) := by decide +kernel
theorem dX9_few_150 : decode cX9_few 150 = .ok (.iconst 0, 1) := by decide +kernel
theorem dX9_few_151 : decode cX9_few 151 = .ok (.istore 5, 2) := by decide +kernel
theorem dX9_few_153 : decode cX9_few 153 = .ok (.iload 5, 2) := by decide +kernel
theorem dX9_few_155 : decode cX9_few 155 = .ok (.iload_n 1, 1) := by decide +kernel
theorem dX9_few_156 : decode cX9_few 156 = .ok (.if_icmp .ge 19, 3) := by decide +kernel
theorem dX9_few_159 : decode cX9_few 159 = .ok (.lload_n 3, 1) := by decide +kernel
theorem dX9_few_160 : decode cX9_few 160 = .ok (.aload_n 0, 1) := by decide +kernel
theorem dX9_few_161 : decode cX9_few 161 = .ok (.getfield 90, 3) := by decide +kernel
theorem dX9_few_164 : decode cX9_few 164 = .ok (.iload 5, 2) := by decide +kernel
theorem dX9_few_166 : decode cX9_few 166 = .ok (.laload, 1) := by decide +kernel
theorem dX9_few_167 : decode cX9_few 167 = .ok (.ladd, 1) := by decide +kernel
theorem dX9_few_168 : decode cX9_few 168 = .ok (.lstore_n 3, 1) := by decide +kernel
theorem dX9_few_169 : decode cX9_few 169 = .ok (.iinc 5 1, 3) := by decide +kernel
theorem dX9_few_172 : decode cX9_few 172 = .ok (.goto (-19), 3) := by decide +kernel
theorem dX9_few_175 : decode cX9_few 175 = .ok (.lload_n 3, 1) := by decide +kernel
theorem dX9_few_176 : decode cX9_few 176 = .ok (.lreturn, 1) := by decide +kernel
theorem dX9_compare_0 : decode cX9_compare 0 = .ok (.aload_n 0, 1) := by decide +kernel
theorem dX9_compare_1 : decode cX9_compare 1 = .ok (.iload_n 1, 1) := by decide +kernel
theorem dX9_compare_2 : decode cX9_compare 2 = .ok (.invokevirtual 263, 3) := by decide +kernel
theorem dX9_compare_5 : decode cX9_compare 5 = .ok (.ifCond .eq 11, 3) := by decide +kernel
theorem dX9_compare_8 : decode cX9_compare 8 = .ok (.aload_n 0, 1) := by decide +kernel
theorem dX9_compare_9 : decode cX9_compare 9 = .ok (.iload_n 2, 1) := by decide +kernel
theorem dX9_compare_10 : decode cX9_compare 10 = .ok (.invokevirtual 137, 3) := by decide +kernel
theorem dX9_compare_13 : decode cX9_compare 13 = .ok (.ifCond .ne 5, 3) := by decide +kernel
theorem dX9_compare_16 : decode cX9_compare 16 = .ok (.iconst (-1), 1) := by decide +kernel
theorem dX9_compare_17 : decode cX9_compare 17 = .ok (.ireturn, 1) := by decide +kernel
theorem dX9_compare_18 : decode cX9_compare 18 = .ok (.aload_n 0, 1) := by decide +kernel
theorem dX9_compare_19 : decode cX9_compare 19 = .ok (.getfield 28, 3) := by decide +kernel
theorem dX9_compare_22 : decode cX9_compare 22 = .ok (.sipush 204, 3) := by decide +kernel
theorem dX9_compare_25 : decode cX9_compare 25 = .ok (.iaload, 1) := by decide +kernel
theorem dX9_compare_26 : decode cX9_compare 26 = .ok (.istore_n 3, 1) := by decide +kernel
theorem dX9_compare_27 : decode cX9_compare 27 = .ok (.aload_n 0, 1) := by decide +kernel
theorem dX9_compare_28 : decode cX9_compare 28 = .ok (.getfield 28, 3) := by decide +kernel
theorem dX9_compare_31 : decode cX9_compare 31 = .ok (.sipush 204, 3) := by decide +kernel
theorem dX9_compare_34 : decode cX9_compare 34 = .ok (.iload_n 1, 1) := by decide +kernel
theorem dX9_compare_35 : decode cX9_compare 35 = .ok (.iastore, 1) := by decide +kernel
theorem dX9_compare_36 : decode cX9_compare 36 = .ok (.aload_n 0, 1) := by decide +kernel
theorem dX9_compare_37 : decode cX9_compare 37 = .ok (.iload_n 2, 1) := by decide +kernel
theorem dX9_compare_38 : decode cX9_compare 38 = .ok (.aload_n 0, 1) := by decide +kernel
theorem dX9_compare_39 : decode cX9_compare 39 = .ok (.getfield 28, 3) := by decide +kernel
theorem dX9_compare_42 : decode cX9_compare 42 = .ok (.bipush 32, 2) := by decide +kernel
theorem dX9_compare_44 : decode cX9_compare 44 = .ok (.iaload, 1) := by decide +kernel
theorem dX9_compare_45 : decode cX9_compare 45 = .ok (.invokevirtual 144, 3) := by decide +kernel
theorem dX9_compare_48 : decode cX9_compare 48 = .ok (.istore 4, 2) := by decide +kernel
theorem dX9_compare_50 : decode cX9_compare 50 = .ok (.aload_n 0, 1) := by decide +kernel
theorem dX9_compare_51 : decode cX9_compare 51 = .ok (.getfield 28, 3) := by decide +kernel
theorem dX9_compare_54 : decode cX9_compare 54 = .ok (.sipush 204, 3) := by decide +kernel
theorem dX9_compare_57 : decode cX9_compare 57 = .ok (.iload_n 3, 1) := by decide +kernel
theorem dX9_compare_58 : decode cX9_compare 58 = .ok (.iastore, 1) := by decide +kernel
theorem dX9_compare_59 : decode cX9_compare 59 = .ok (.iload 4, 2) := by decide +kernel
theorem dX9_compare_61 : decode cX9_compare 61 = .ok (.ireturn, 1) := by decide +kernel
theorem dX9_stopped_0 : decode cX9_stopped 0 = .ok (.aload_n 0, 1) := by decide +kernel
theorem dX9_stopped_1 : decode cX9_stopped 1 = .ok (.getfield 94, 3) := by decide +kernel
theorem dX9_stopped_4 : decode cX9_stopped 4 = .ok (.ireturn, 1) := by decide +kernel
theorem dX9_orders_0 : decode cX9_orders 0 = .ok (.aload_n 0, 1) := by decide +kernel
theorem dX9_orders_1 : decode cX9_orders 1 = .ok (.iconst (-1), 1) := by decide +kernel
theorem dX9_orders_2 : decode cX9_orders 2 = .ok (.putfield 94, 3) := by decide +kernel
theorem dX9_orders_5 : decode cX9_orders 5 = .ok (.aload_n 0, 1) := by decide +kernel
theorem dX9_orders_6 : decode cX9_orders 6 = .ok (.iconst 1, 1) := by decide +kernel
theorem dX9_orders_7 : decode cX9_orders 7 = .ok (.invokevirtual 256, 3) := by decide +kernel
theorem dX9_orders_10 : decode cX9_orders 10 = .ok (.ifCond .ne 10, 3) := by decide +kernel
theorem dX9_orders_13 : decode cX9_orders 13 = .ok (.aload_n 0, 1) := by decide +kernel
theorem dX9_orders_14 : decode cX9_orders 14 = .ok (.bipush (-6), 2) := by decide +kernel
theorem dX9_orders_16 : decode cX9_orders 16 = .ok (.invokevirtual 103, 3) := by decide +kernel
theorem dX9_orders_19 : decode cX9_orders 19 = .ok (.ireturn, 1) := by decide +kernel
theorem dX9_orders_20 : decode cX9_orders 20 = .ok (.aload_n 0, 1) := by decide +kernel
theorem dX9_orders_21 : decode cX9_orders 21 = .ok (.iconst 1, 1) := by decide +kernel
theorem dX9_orders_22 : decode cX9_orders 22 = .ok (.invokevirtual 365, 3) := by decide +kernel
theorem dX9_orders_25 : decode cX9_orders 25 = .ok (.iconst 0, 1) := by decide +kernel
theorem dX9_orders_26 : decode cX9_orders 26 = .ok (.istore_n 1, 1) := by decide +kernel
theorem dX9_orders_27 : decode cX9_orders 27 = .ok (.iload_n 1, 1) := by decide +kernel
theorem dX9_orders_28 : decode cX9_orders 28 = .ok (.sipush 3024, 3) := by decide +kernel
theorem dX9_orders_31 : decode cX9_orders 31 = .ok (.if_icmp .ge 21, 3) := by decide +kernel
theorem dX9_orders_34 : decode cX9_orders 34 = .ok (.aload_n 0, 1) := by decide +kernel
theorem dX9_orders_35 : decode cX9_orders 35 = .ok (.getfield 87, 3) := by decide +kernel
theorem dX9_orders_38 : decode cX9_orders 38 = .ok (.iload_n 1, 1) := by decide +kernel
theorem dX9_orders_39 : decode cX9_orders 39 = .ok (.aload_n 0, 1) := by decide +kernel
theorem dX9_orders_40 : decode cX9_orders 40 = .ok (.getfield 84, 3) := by decide +kernel
theorem dX9_orders_43 : decode cX9_orders 43 = .ok (.iload_n 1, 1) := by decide +kernel
theorem dX9_orders_44 : decode cX9_orders 44 = .ok (.iaload, 1) := by decide +kernel
theorem dX9_orders_45 : decode cX9_orders 45 = .ok (.iastore, 1) := by decide +kernel
theorem dX9_orders_46 : decode cX9_orders 46 = .ok (.iinc 1 1, 3) := by decide +kernel
theorem dX9_orders_49 : decode cX9_orders 49 = .ok (.goto (-22), 3) := by decide +kernel
theorem dX9_orders_52 : decode cX9_orders 52 = .ok (.aload_n 0, 1) := by decide +kernel
theorem dX9_orders_53 : decode cX9_orders 53 = .ok (.getfield 11, 3) := by decide +kernel
theorem dX9_orders_56 : decode cX9_orders 56 = .ok (.istore_n 1, 1) := by decide +kernel
theorem dX9_orders_57 : decode cX9_orders 57 = .ok (.aload_n 0, 1) := by decide +kernel
theorem dX9_orders_58 : decode cX9_orders 58 = .ok (.bipush 6, 2) := by decide +kernel
theorem dX9_orders_60 : decode cX9_orders 60 = .ok (.invokevirtual 260, 3) := by decide +kernel
theorem dX9_orders_63 : decode cX9_orders 63 = .ok (.aload_n 0, 1) := by decide +kernel
theorem dX9_orders_64 : decode cX9_orders 64 = .ok (.iconst 0, 1) := by decide +kernel
theorem dX9_orders_65 : decode cX9_orders 65 = .ok (.putfield 305, 3) := by decide +kernel
theorem dX9_orders_68 : decode cX9_orders 68 = .ok (.aload_n 0, 1) := by decide +kernel
theorem dX9_orders_69 : decode cX9_orders 69 = .ok (.iconst (-1), 1) := by decide +kernel
theorem dX9_orders_70 : decode cX9_orders 70 = .ok (.putfield 308, 3) := by decide +kernel
theorem dX9_orders_73 : decode cX9_orders 73 = .ok (.aload_n 0, 1) := by decide +kernel
theorem dX9_orders_74 : decode cX9_orders 74 = .ok (.sipush 2400, 3) := by decide +kernel
theorem dX9_orders_77 : decode cX9_orders 77 = .ok (.putfield 440, 3) := by decide +kernel
theorem dX9_orders_80 : decode cX9_orders 80 = .ok (.aload_n 0, 1) := by decide +kernel
theorem dX9_orders_81 : decode cX9_orders 81 = .ok (.getfield 440, 3) := by decide +kernel
theorem dX9_orders_84 : decode cX9_orders 84 = .ok (.aload_n 0, 1) := by decide +kernel
theorem dX9_orders_85 : decode cX9_orders 85 = .ok (.getfield 28, 3) := by decide +kernel
theorem dX9_orders_88 : decode cX9_orders 88 = .ok (.sipush 211, 3) := by decide +kernel
theorem dX9_orders_91 : decode cX9_orders 91 = .ok (.iaload, 1) := by decide +kernel
theorem dX9_orders_92 : decode cX9_orders 92 = .ok (.iadd, 1) := by decide +kernel
theorem dX9_orders_93 : decode cX9_orders 93 = .ok (.istore_n 2, 1) := by decide +kernel
theorem dX9_orders_94 : decode cX9_orders 94 = .ok (.iconst 0, 1) := by decide +kernel
theorem dX9_orders_95 : decode cX9_orders 95 = .ok (.istore_n 3, 1) := by decide +kernel
theorem dX9_orders_96 : decode cX9_orders 96 = .ok (.aload_n 0, 1) := by decide +kernel
theorem dX9_orders_97 : decode cX9_orders 97 = .ok (.getfield 440, 3) := by decide +kernel
theorem dX9_orders_100 : decode cX9_orders 100 = .ok (.iload_n 2, 1) := by decide +kernel
theorem dX9_orders_101 : decode cX9_orders 101 = .ok (.if_icmp .ge 73, 3) := by decide +kernel
theorem dX9_orders_104 : decode cX9_orders 104 = .ok (.aload_n 0, 1) := by decide +kernel
theorem dX9_orders_105 : decode cX9_orders 105 = .ok (.iload_n 2, 1) := by decide +kernel
theorem dX9_orders_106 : decode cX9_orders 106 = .ok (.invokevirtual 443, 3) := by decide +kernel
theorem dX9_orders_109 : decode cX9_orders 109 = .ok (.ifCond .eq 6, 3) := by decide +kernel
theorem dX9_orders_112 : decode cX9_orders 112 = .ok (.goto 56, 3) := by decide +kernel
theorem dX9_orders_115 : decode cX9_orders 115 = .ok (.aload_n 0, 1) := by decide +kernel
theorem dX9_orders_116 : decode cX9_orders 116 = .ok (.iconst 1, 1) := by decide +kernel
theorem dX9_orders_117 : decode cX9_orders 117 = .ok (.invokevirtual 446, 3) := by decide +kernel
theorem dX9_orders_120 : decode cX9_orders 120 = .ok (.iconst 0, 1) := by decide +kernel
theorem dX9_orders_121 : decode cX9_orders 121 = .ok (.istore 4, 2) := by decide +kernel
theorem dX9_orders_123 : decode cX9_orders 123 = .ok (.iload 4, 2) := by decide +kernel
theorem dX9_orders_125 : decode cX9_orders 125 = .ok (.sipush 3024, 3) := by decide +kernel
theorem dX9_orders_128 : decode cX9_orders 128 = .ok (.if_icmp .ge 23, 3) := by decide +kernel
theorem dX9_orders_131 : decode cX9_orders 131 = .ok (.aload_n 0, 1) := by decide +kernel
theorem dX9_orders_132 : decode cX9_orders 132 = .ok (.getfield 84, 3) := by decide +kernel
theorem dX9_orders_135 : decode cX9_orders 135 = .ok (.iload 4, 2) := by decide +kernel
theorem dX9_orders_137 : decode cX9_orders 137 = .ok (.aload_n 0, 1) := by decide +kernel
theorem dX9_orders_138 : decode cX9_orders 138 = .ok (.getfield 87, 3) := by decide +kernel
theorem dX9_orders_141 : decode cX9_orders 141 = .ok (.iload 4, 2) := by decide +kernel
theorem dX9_orders_143 : decode cX9_orders 143 = .ok (.iaload, 1) := by decide +kernel
theorem dX9_orders_144 : decode cX9_orders 144 = .ok (.iastore, 1) := by decide +kernel
theorem dX9_orders_145 : decode cX9_orders 145 = .ok (.iinc 4 1, 3) := by decide +kernel
theorem dX9_orders_148 : decode cX9_orders 148 = .ok (.goto (-25), 3) := by decide +kernel
theorem dX9_orders_151 : decode cX9_orders 151 = .ok (.aload_n 0, 1) := by decide +kernel
theorem dX9_orders_152 : decode cX9_orders 152 = .ok (.iload_n 1, 1) := by decide +kernel
theorem dX9_orders_153 : decode cX9_orders 153 = .ok (.putfield 11, 3) := by decide +kernel
theorem dX9_orders_156 : decode cX9_orders 156 = .ok (.aload_n 0, 1) := by decide +kernel
theorem dX9_orders_157 : decode cX9_orders 157 = .ok (.iload_n 3, 1) := by decide +kernel
theorem dX9_orders_158 : decode cX9_orders 158 = .ok (.putfield 94, 3) := by decide +kernel
theorem dX9_orders_161 : decode cX9_orders 161 = .ok (.aload_n 0, 1) := by decide +kernel
theorem dX9_orders_162 : decode cX9_orders 162 = .ok (.bipush (-3), 2) := by decide +kernel
theorem dX9_orders_164 : decode cX9_orders 164 = .ok (.invokevirtual 103, 3) := by decide +kernel
theorem dX9_orders_167 : decode cX9_orders 167 = .ok (.ireturn, 1) := by decide +kernel
theorem dX9_orders_168 : decode cX9_orders 168 = .ok (.iinc 3 1, 3) := by decide +kernel
theorem dX9_orders_171 : decode cX9_orders 171 = .ok (.goto (-75), 3) := by decide +kernel
theorem dX9_orders_174 : decode cX9_orders 174 = .ok (.aload_n 0, 1) := by decide +kernel
theorem dX9_orders_175 : decode cX9_orders 175 = .ok (.aload_n 0, 1) := by decide +kernel
theorem dX9_orders_176 : decode cX9_orders 176 = .ok (.getfield 305, 3) := by decide +kernel
theorem dX9_orders_179 : decode cX9_orders 179 = .ok (.invokevirtual 14, 3) := by decide +kernel
theorem dX9_orders_182 : decode cX9_orders 182 = .ok (.ireturn, 1) := by decide +kernel
theorem dX9_goesAlong_0 : decode cX9_goesAlong 0 = .ok (.aload_n 0, 1) := by decide +kernel
theorem dX9_goesAlong_1 : decode cX9_goesAlong 1 = .ok (.iconst 1, 1) := by decide +kernel
theorem dX9_goesAlong_2 : decode cX9_goesAlong 2 = .ok (.putfield 299, 3) := by decide +kernel
theorem dX9_goesAlong_5 : decode cX9_goesAlong 5 = .ok (.aload_n 0, 1) := by decide +kernel
theorem dX9_goesAlong_6 : decode cX9_goesAlong 6 = .ok (.iload_n 1, 1) := by decide +kernel
theorem dX9_goesAlong_7 : decode cX9_goesAlong 7 = .ok (.putfield 266, 3) := by decide +kernel
theorem dX9_goesAlong_10 : decode cX9_goesAlong 10 = .ok (.aload_n 0, 1) := by decide +kernel
theorem dX9_goesAlong_11 : decode cX9_goesAlong 11 = .ok (.aload_n 0, 1) := by decide +kernel
theorem dX9_goesAlong_12 : decode cX9_goesAlong 12 = .ok (.getfield 440, 3) := by decide +kernel
theorem dX9_goesAlong_15 : decode cX9_goesAlong 15 = .ok (.putfield 269, 3) := by decide +kernel
theorem dX9_goesAlong_18 : decode cX9_goesAlong 18 = .ok (.aload_n 0, 1) := by decide +kernel
theorem dX9_goesAlong_19 : decode cX9_goesAlong 19 = .ok (.aload_n 0, 1) := by decide +kernel
theorem dX9_goesAlong_20 : decode cX9_goesAlong 20 = .ok (.aload_n 0, 1) := by decide +kernel
theorem dX9_goesAlong_21 : decode cX9_goesAlong 21 = .ok (.getfield 269, 3) := by decide +kernel
theorem dX9_goesAlong_24 : decode cX9_goesAlong 24 = .ok (.invokevirtual 272, 3) := by decide +kernel
theorem dX9_goesAlong_27 : decode cX9_goesAlong 27 = .ok (.putfield 449, 3) := by decide +kernel
theorem dX9_goesAlong_30 : decode cX9_goesAlong 30 = .ok (.aload_n 0, 1) := by decide +kernel
theorem dX9_goesAlong_31 : decode cX9_goesAlong 31 = .ok (.dup, 1) := by decide +kernel
theorem dX9_goesAlong_32 : decode cX9_goesAlong 32 = .ok (.getfield 269, 3) := by decide +kernel
theorem dX9_goesAlong_35 : decode cX9_goesAlong 35 = .ok (.iconst 1, 1) := by decide +kernel
theorem dX9_goesAlong_36 : decode cX9_goesAlong 36 = .ok (.iadd, 1) := by decide +kernel
theorem dX9_goesAlong_37 : decode cX9_goesAlong 37 = .ok (.putfield 269, 3) := by decide +kernel
theorem dX9_goesAlong_40 : decode cX9_goesAlong 40 = .ok (.aload_n 0, 1) := by decide +kernel
theorem dX9_goesAlong_41 : decode cX9_goesAlong 41 = .ok (.iconst 0, 1) := by decide +kernel
theorem dX9_goesAlong_42 : decode cX9_goesAlong 42 = .ok (.putfield 279, 3) := by decide +kernel
theorem dX9_goesAlong_45 : decode cX9_goesAlong 45 = .ok (.aload_n 0, 1) := by decide +kernel
theorem dX9_goesAlong_46 : decode cX9_goesAlong 46 = .ok (.getfield 97, 3) := by decide +kernel
theorem dX9_goesAlong_49 : decode cX9_goesAlong 49 = .ok (.iconst 0, 1) := by decide +kernel
theorem dX9_goesAlong_50 : decode cX9_goesAlong 50 = .ok (.aload_n 0, 1) := by decide +kernel
theorem dX9_goesAlong_51 : decode cX9_goesAlong 51 = .ok (.getfield 449, 3) := by decide +kernel
theorem dX9_goesAlong_54 : decode cX9_goesAlong 54 = .ok (.bipush 21, 2) := by decide +kernel
theorem dX9_goesAlong_56 : decode cX9_goesAlong 56 = .ok (.if_icmp .ne 7, 3) := by decide +kernel
theorem dX9_goesAlong_59 : decode cX9_goesAlong 59 = .ok (.lconst 0, 1) := by decide +kernel
theorem dX9_goesAlong_60 : decode cX9_goesAlong 60 = .ok (.goto 8, 3) := by decide +kernel
theorem dX9_goesAlong_63 : decode cX9_goesAlong 63 = .ok (.aload_n 0, 1) := by decide +kernel
theorem dX9_goesAlong_64 : decode cX9_goesAlong 64 = .ok (.iload_n 2, 1) := by decide +kernel
theorem dX9_goesAlong_65 : decode cX9_goesAlong 65 = .ok (.invokevirtual 296, 3) := by decide +kernel
theorem dX9_goesAlong_68 : decode cX9_goesAlong 68 = .ok (.lastore, 1) := by decide +kernel
theorem dX9_goesAlong_69 : decode cX9_goesAlong 69 = .ok (.aload_n 0, 1) := by decide +kernel
theorem dX9_goesAlong_70 : decode cX9_goesAlong 70 = .ok (.aload_n 0, 1) := by decide +kernel
theorem dX9_goesAlong_71 : decode cX9_goesAlong 71 = .ok (.getfield 279, 3) := by decide +kernel
theorem dX9_goesAlong_74 : decode cX9_goesAlong 74 = .ok (.ifCond .ne 7, 3) := by decide +kernel
theorem dX9_goesAlong_77 : decode cX9_goesAlong 77 = .ok (.iconst 1, 1) := by decide +kernel
theorem dX9_goesAlong_78 : decode cX9_goesAlong 78 = .ok (.goto 4, 3) := by decide +kernel
theorem dX9_goesAlong_81 : decode cX9_goesAlong 81 = .ok (.iconst 0, 1) := by decide +kernel
theorem dX9_goesAlong_82 : decode cX9_goesAlong 82 = .ok (.putfield 452, 3) := by decide +kernel
theorem dX9_goesAlong_85 : decode cX9_goesAlong 85 = .ok (.aload_n 0, 1) := by decide +kernel
theorem dX9_goesAlong_86 : decode cX9_goesAlong 86 = .ok (.iconst 1, 1) := by decide +kernel
theorem dX9_goesAlong_87 : decode cX9_goesAlong 87 = .ok (.putfield 455, 3) := by decide +kernel
theorem dX9_goesAlong_90 : decode cX9_goesAlong 90 = .ok (.aload_n 0, 1) := by decide +kernel
theorem dX9_goesAlong_91 : decode cX9_goesAlong 91 = .ok (.bipush 22, 2) := by decide +kernel
theorem dX9_goesAlong_93 : decode cX9_goesAlong 93 = .ok (.invokevirtual 293, 3) := by decide +kernel
theorem dX9_goesAlong_96 : decode cX9_goesAlong 96 = .ok (.ifCond .eq 30, 3) := by decide +kernel
theorem dX9_goesAlong_99 : decode cX9_goesAlong 99 = .ok (.aload_n 0, 1) := by decide +kernel
theorem dX9_goesAlong_100 : decode cX9_goesAlong 100 = .ok (.aload_n 0, 1) := by decide +kernel
theorem dX9_goesAlong_101 : decode cX9_goesAlong 101 = .ok (.getfield 28, 3) := by decide +kernel
theorem dX9_goesAlong_104 : decode cX9_goesAlong 104 = .ok (.sipush 3012, 3) := by decide +kernel
theorem dX9_goesAlong_107 : decode cX9_goesAlong 107 = .ok (.aload_n 0, 1) := by decide +kernel
theorem dX9_goesAlong_108 : decode cX9_goesAlong 108 = .ok (.getfield 269, 3) := by decide +kernel
theorem dX9_goesAlong_111 : decode cX9_goesAlong 111 = .ok (.iadd, 1) := by decide +kernel
theorem dX9_goesAlong_112 : decode cX9_goesAlong 112 = .ok (.iaload, 1) := by decide +kernel
theorem dX9_goesAlong_113 : decode cX9_goesAlong 113 = .ok (.putfield 455, 3) := by decide +kernel
theorem dX9_goesAlong_116 : decode cX9_goesAlong 116 = .ok (.aload_n 0, 1) := by decide +kernel
theorem dX9_goesAlong_117 : decode cX9_goesAlong 117 = .ok (.dup, 1) := by decide +kernel
theorem dX9_goesAlong_118 : decode cX9_goesAlong 118 = .ok (.getfield 269, 3) := by decide +kernel
theorem dX9_goesAlong_121 : decode cX9_goesAlong 121 = .ok (.iconst 1, 1) := by decide +kernel
theorem dX9_goesAlong_122 : decode cX9_goesAlong 122 = .ok (.iadd, 1) := by decide +kernel
theorem dX9_goesAlong_123 : decode cX9_goesAlong 123 = .ok (.putfield 269, 3) := by decide +kernel
theorem dX9_goesAlong_126 : decode cX9_goesAlong 126 = .ok (.aload_n 0, 1) := by decide +kernel
theorem dX9_goesAlong_127 : decode cX9_goesAlong 127 = .ok (.iconst 0, 1) := by decide +kernel
theorem dX9_goesAlong_128 : decode cX9_goesAlong 128 = .ok (.putfield 279, 3) := by decide +kernel
theorem dX9_goesAlong_131 : decode cX9_goesAlong 131 = .ok (.aload_n 0, 1) := by decide +kernel
theorem dX9_goesAlong_132 : decode cX9_goesAlong 132 = .ok (.aload_n 0, 1) := by decide +kernel
theorem dX9_goesAlong_133 : decode cX9_goesAlong 133 = .ok (.iconst 3, 1) := by decide +kernel
theorem dX9_goesAlong_134 : decode cX9_goesAlong 134 = .ok (.invokevirtual 293, 3) := by decide +kernel
theorem dX9_goesAlong_137 : decode cX9_goesAlong 137 = .ok (.ifCond .eq 11, 3) := by decide +kernel
theorem dX9_goesAlong_140 : decode cX9_goesAlong 140 = .ok (.aload_n 0, 1) := by decide +kernel
theorem dX9_goesAlong_141 : decode cX9_goesAlong 141 = .ok (.iload_n 2, 1) := by decide +kernel
theorem dX9_goesAlong_142 : decode cX9_goesAlong 142 = .ok (.invokevirtual 323, 3) := by decide +kernel
theorem dX9_goesAlong_145 : decode cX9_goesAlong 145 = .ok (.ifCond .eq 7, 3) := by decide +kernel
theorem dX9_goesAlong_148 : decode cX9_goesAlong 148 = .ok (.iconst 1, 1) := by decide +kernel
theorem dX9_goesAlong_149 : decode cX9_goesAlong 149 = .ok (.goto 4, 3) := by decide +kernel
theorem dX9_goesAlong_152 : decode cX9_goesAlong 152 = .ok (.iconst 0, 1) := by decide +kernel
theorem dX9_goesAlong_153 : decode cX9_goesAlong 153 = .ok (.putfield 458, 3) := by decide +kernel
theorem dX9_goesAlong_156 : decode cX9_goesAlong 156 = .ok (.aload_n 0, 1) := by decide +kernel
theorem dX9_goesAlong_157 : decode cX9_goesAlong 157 = .ok (.aload_n 0, 1) := by decide +kernel
theorem dX9_goesAlong_158 : decode cX9_goesAlong 158 = .ok (.getfield 458, 3) := by decide +kernel
theorem dX9_goesAlong_161 : decode cX9_goesAlong 161 = .ok (.ifCond .eq 14, 3) := by decide +kernel
theorem dX9_goesAlong_164 : decode cX9_goesAlong 164 = .ok (.aload_n 0, 1) := by decide +kernel
theorem dX9_goesAlong_165 : decode cX9_goesAlong 165 = .ok (.getfield 279, 3) := by decide +kernel
theorem dX9_goesAlong_168 : decode cX9_goesAlong 168 = .ok (.ifCond .ne 7, 3) := by decide +kernel
theorem dX9_goesAlong_171 : decode cX9_goesAlong 171 = .ok (.iconst 1, 1) := by decide +kernel
theorem dX9_goesAlong_172 : decode cX9_goesAlong 172 = .ok (.goto 4, 3) := by decide +kernel
theorem dX9_goesAlong_175 : decode cX9_goesAlong 175 = .ok (.iconst 0, 1) := by decide +kernel
theorem dX9_goesAlong_176 : decode cX9_goesAlong 176 = .ok (.putfield 458, 3) := by decide +kernel
theorem dX9_goesAlong_179 : decode cX9_goesAlong 179 = .ok (.aload_n 0, 1) := by decide +kernel
theorem dX9_goesAlong_180 : decode cX9_goesAlong 180 = .ok (.dup, 1) := by decide +kernel
theorem dX9_goesAlong_181 : decode cX9_goesAlong 181 = .ok (.getfield 269, 3) := by decide +kernel
theorem dX9_goesAlong_184 : decode cX9_goesAlong 184 = .ok (.iconst 1, 1) := by decide +kernel
theorem dX9_goesAlong_185 : decode cX9_goesAlong 185 = .ok (.iadd, 1) := by decide +kernel
theorem dX9_goesAlong_186 : decode cX9_goesAlong 186 = .ok (.putfield 269, 3) := by decide +kernel
theorem dX9_goesAlong_189 : decode cX9_goesAlong 189 = .ok (.return_, 1) := by decide +kernel
theorem dX9_small_0 : decode cX9_small 0 = .ok (.lload_n 0, 1) := by decide +kernel
theorem dX9_small_1 : decode cX9_small 1 = .ok (.lconst 0, 1) := by decide +kernel
theorem dX9_small_2 : decode cX9_small 2 = .ok (.lcmp, 1) := by decide +kernel
theorem dX9_small_3 : decode cX9_small 3 = .ok (.ifCond .lt 11, 3) := by decide +kernel
theorem dX9_small_6 : decode cX9_small 6 = .ok (.lload_n 0, 1) := by decide +kernel
theorem dX9_small_7 : decode cX9_small 7 = .ok (.ldc2_w 461, 3) := by decide +kernel
theorem dX9_small_10 : decode cX9_small 10 = .ok (.lcmp, 1) := by decide +kernel
theorem dX9_small_11 : decode cX9_small 11 = .ok (.ifCond .le 7, 3) := by decide +kernel
theorem dX9_small_14 : decode cX9_small 14 = .ok (.iconst (-1), 1) := by decide +kernel
theorem dX9_small_15 : decode cX9_small 15 = .ok (.goto 5, 3) := by decide +kernel
theorem dX9_small_18 : decode cX9_small 18 = .ok (.lload_n 0, 1) := by decide +kernel
theorem dX9_small_19 : decode cX9_small 19 = .ok (.l2i, 1) := by decide +kernel
theorem dX9_small_20 : decode cX9_small 20 = .ok (.ireturn, 1) := by decide +kernel
theorem dX9_obeys_0 : decode cX9_obeys 0 = .ok (.aload_n 0, 1) := by decide +kernel
theorem dX9_obeys_1 : decode cX9_obeys 1 = .ok (.getfield 97, 3) := by decide +kernel
theorem dX9_obeys_4 : decode cX9_obeys 4 = .ok (.iconst 0, 1) := by decide +kernel
theorem dX9_obeys_5 : decode cX9_obeys 5 = .ok (.laload, 1) := by decide +kernel
theorem dX9_obeys_6 : decode cX9_obeys 6 = .ok (.invokestatic 463, 3) := by decide +kernel
theorem dX9_obeys_9 : decode cX9_obeys 9 = .ok (.istore_n 1, 1) := by decide +kernel
theorem dX9_obeys_10 : decode cX9_obeys 10 = .ok (.aload_n 0, 1) := by decide +kernel
theorem dX9_obeys_11 : decode cX9_obeys 11 = .ok (.getfield 449, 3) := by decide +kernel
theorem dX9_obeys_14 : decode cX9_obeys 14 = .ok (.lookupswitch 66 #[(10, 60), (18, 42), (19, 48), (20, 54)], 42) := by decide +kernel
theorem dX9_obeys_56 : decode cX9_obeys 56 = .ok (.aload_n 0, 1) := by decide +kernel
theorem dX9_obeys_57 : decode cX9_obeys 57 = .ok (.iload_n 1, 1) := by decide +kernel
theorem dX9_obeys_58 : decode cX9_obeys 58 = .ok (.invokevirtual 383, 3) := by decide +kernel
theorem dX9_obeys_61 : decode cX9_obeys 61 = .ok (.ireturn, 1) := by decide +kernel
theorem dX9_obeys_62 : decode cX9_obeys 62 = .ok (.aload_n 0, 1) := by decide +kernel
theorem dX9_obeys_63 : decode cX9_obeys 63 = .ok (.iload_n 1, 1) := by decide +kernel
theorem dX9_obeys_64 : decode cX9_obeys 64 = .ok (.invokevirtual 389, 3) := by decide +kernel
theorem dX9_obeys_67 : decode cX9_obeys 67 = .ok (.ireturn, 1) := by decide +kernel
theorem dX9_obeys_68 : decode cX9_obeys 68 = .ok (.aload_n 0, 1) := by decide +kernel
theorem dX9_obeys_69 : decode cX9_obeys 69 = .ok (.iload_n 1, 1) := by decide +kernel
theorem dX9_obeys_70 : decode cX9_obeys 70 = .ok (.invokevirtual 392, 3) := by decide +kernel
theorem dX9_obeys_73 : decode cX9_obeys 73 = .ok (.ireturn, 1) := by decide +kernel
theorem dX9_obeys_74 : decode cX9_obeys 74 = .ok (.aload_n 0, 1) := by decide +kernel
theorem dX9_obeys_75 : decode cX9_obeys 75 = .ok (.iload_n 1, 1) := by decide +kernel
theorem dX9_obeys_76 : decode cX9_obeys 76 = .ok (.invokevirtual 395, 3) := by decide +kernel
theorem dX9_obeys_79 : decode cX9_obeys 79 = .ok (.ireturn, 1) := by decide +kernel
theorem dX9_obeys_80 : decode cX9_obeys 80 = .ok (.aload_n 0, 1) := by decide +kernel
theorem dX9_obeys_81 : decode cX9_obeys 81 = .ok (.invokevirtual 398, 3) := by decide +kernel
theorem dX9_obeys_84 : decode cX9_obeys 84 = .ok (.istore_n 2, 1) := by decide +kernel
theorem dX9_obeys_85 : decode cX9_obeys 85 = .ok (.aload_n 0, 1) := by decide +kernel
theorem dX9_obeys_86 : decode cX9_obeys 86 = .ok (.iload_n 2, 1) := by decide +kernel
theorem dX9_obeys_87 : decode cX9_obeys 87 = .ok (.ifCond .ge 10, 3) := by decide +kernel
theorem dX9_obeys_90 : decode cX9_obeys 90 = .ok (.aload_n 0, 1) := by decide +kernel
theorem dX9_obeys_91 : decode cX9_obeys 91 = .ok (.getfield 308, 3) := by decide +kernel
theorem dX9_obeys_94 : decode cX9_obeys 94 = .ok (.goto 4, 3) := by decide +kernel
theorem dX9_obeys_97 : decode cX9_obeys 97 = .ok (.iload_n 2, 1) := by decide +kernel
theorem dX9_obeys_98 : decode cX9_obeys 98 = .ok (.putfield 308, 3) := by decide +kernel
theorem dX9_obeys_101 : decode cX9_obeys 101 = .ok (.iload_n 2, 1) := by decide +kernel
theorem dX9_obeys_102 : decode cX9_obeys 102 = .ok (.ireturn, 1) := by decide +kernel
theorem dX9_runs_0 : decode cX9_runs 0 = .ok (.aload_n 0, 1) := by decide +kernel
theorem dX9_runs_1 : decode cX9_runs 1 = .ok (.iload_n 1, 1) := by decide +kernel
theorem dX9_runs_2 : decode cX9_runs 2 = .ok (.iconst 0, 1) := by decide +kernel
theorem dX9_runs_3 : decode cX9_runs 3 = .ok (.invokevirtual 467, 3) := by decide +kernel
theorem dX9_runs_6 : decode cX9_runs 6 = .ok (.aload_n 0, 1) := by decide +kernel
theorem dX9_runs_7 : decode cX9_runs 7 = .ok (.getfield 455, 3) := by decide +kernel
theorem dX9_runs_10 : decode cX9_runs 10 = .ok (.istore_n 2, 1) := by decide +kernel
theorem dX9_runs_11 : decode cX9_runs 11 = .ok (.aload_n 0, 1) := by decide +kernel
theorem dX9_runs_12 : decode cX9_runs 12 = .ok (.getfield 269, 3) := by decide +kernel
theorem dX9_runs_15 : decode cX9_runs 15 = .ok (.istore_n 3, 1) := by decide +kernel
theorem dX9_runs_16 : decode cX9_runs 16 = .ok (.iconst 0, 1) := by decide +kernel
theorem dX9_runs_17 : decode cX9_runs 17 = .ok (.istore 4, 2) := by decide +kernel
theorem dX9_runs_19 : decode cX9_runs 19 = .ok (.iload 4, 2) := by decide +kernel
theorem dX9_runs_21 : decode cX9_runs 21 = .ok (.iload_n 2, 1) := by decide +kernel
theorem dX9_runs_22 : decode cX9_runs 22 = .ok (.if_icmp .ge 51, 3) := by decide +kernel
theorem dX9_runs_25 : decode cX9_runs 25 = .ok (.aload_n 0, 1) := by decide +kernel
theorem dX9_runs_26 : decode cX9_runs 26 = .ok (.iload_n 1, 1) := by decide +kernel
theorem dX9_runs_27 : decode cX9_runs 27 = .ok (.iconst 1, 1) := by decide +kernel
theorem dX9_runs_28 : decode cX9_runs 28 = .ok (.invokevirtual 467, 3) := by decide +kernel
theorem dX9_runs_31 : decode cX9_runs 31 = .ok (.aload_n 0, 1) := by decide +kernel
theorem dX9_runs_32 : decode cX9_runs 32 = .ok (.getfield 458, 3) := by decide +kernel
theorem dX9_runs_35 : decode cX9_runs 35 = .ok (.ifCond .ne 6, 3) := by decide +kernel
theorem dX9_runs_38 : decode cX9_runs 38 = .ok (.goto 29, 3) := by decide +kernel
theorem dX9_runs_41 : decode cX9_runs 41 = .ok (.aload_n 0, 1) := by decide +kernel
theorem dX9_runs_42 : decode cX9_runs 42 = .ok (.getfield 452, 3) := by decide +kernel
theorem dX9_runs_45 : decode cX9_runs 45 = .ok (.ifCond .eq 10, 3) := by decide +kernel
theorem dX9_runs_48 : decode cX9_runs 48 = .ok (.aload_n 0, 1) := by decide +kernel
theorem dX9_runs_49 : decode cX9_runs 49 = .ok (.invokevirtual 471, 3) := by decide +kernel
theorem dX9_runs_52 : decode cX9_runs 52 = .ok (.ifCond .ge 5, 3) := by decide +kernel
theorem dX9_runs_55 : decode cX9_runs 55 = .ok (.iconst 0, 1) := by decide +kernel
theorem dX9_runs_56 : decode cX9_runs 56 = .ok (.ireturn, 1) := by decide +kernel
theorem dX9_runs_57 : decode cX9_runs 57 = .ok (.aload_n 0, 1) := by decide +kernel
theorem dX9_runs_58 : decode cX9_runs 58 = .ok (.dup, 1) := by decide +kernel
theorem dX9_runs_59 : decode cX9_runs 59 = .ok (.getfield 305, 3) := by decide +kernel
theorem dX9_runs_62 : decode cX9_runs 62 = .ok (.iconst 1, 1) := by decide +kernel
theorem dX9_runs_63 : decode cX9_runs 63 = .ok (.iadd, 1) := by decide +kernel
theorem dX9_runs_64 : decode cX9_runs 64 = .ok (.putfield 305, 3) := by decide +kernel
theorem dX9_runs_67 : decode cX9_runs 67 = .ok (.iinc 4 1, 3) := by decide +kernel
theorem dX9_runs_70 : decode cX9_runs 70 = .ok (.goto (-51), 3) := by decide +kernel
theorem dX9_runs_73 : decode cX9_runs 73 = .ok (.aload_n 0, 1) := by decide +kernel
theorem dX9_runs_74 : decode cX9_runs 74 = .ok (.iload_n 3, 1) := by decide +kernel
theorem dX9_runs_75 : decode cX9_runs 75 = .ok (.putfield 440, 3) := by decide +kernel
theorem dX9_runs_78 : decode cX9_runs 78 = .ok (.iconst 1, 1) := by decide +kernel
theorem dX9_runs_79 : decode cX9_runs 79 = .ok (.ireturn, 1) := by decide +kernel
theorem dX9_draws_0 : decode cX9_draws 0 = .ok (.aload_n 0, 1) := by decide +kernel
theorem dX9_draws_1 : decode cX9_draws 1 = .ok (.ldc2_w 474, 3) := by decide +kernel
theorem dX9_draws_4 : decode cX9_draws 4 = .ok (.aload_n 0, 1) := by decide +kernel
theorem dX9_draws_5 : decode cX9_draws 5 = .ok (.getfield 476, 3) := by decide +kernel
theorem dX9_draws_8 : decode cX9_draws 8 = .ok (.i2l, 1) := by decide +kernel
theorem dX9_draws_9 : decode cX9_draws 9 = .ok (.lmul, 1) := by decide +kernel
theorem dX9_draws_10 : decode cX9_draws 10 = .ok (.ldc2_w 479, 3) := by decide +kernel
theorem dX9_draws_13 : decode cX9_draws 13 = .ok (.ladd, 1) := by decide +kernel
theorem dX9_draws_14 : decode cX9_draws 14 = .ok (.ldc2_w 481, 3) := by decide +kernel
theorem dX9_draws_17 : decode cX9_draws 17 = .ok (.lrem, 1) := by decide +kernel
theorem dX9_draws_18 : decode cX9_draws 18 = .ok (.l2i, 1) := by decide +kernel
theorem dX9_draws_19 : decode cX9_draws 19 = .ok (.putfield 476, 3) := by decide +kernel
theorem dX9_draws_22 : decode cX9_draws 22 = .ok (.aload_n 0, 1) := by decide +kernel
theorem dX9_draws_23 : decode cX9_draws 23 = .ok (.getfield 476, 3) := by decide +kernel
theorem dX9_draws_26 : decode cX9_draws 26 = .ok (.iload_n 1, 1) := by decide +kernel
theorem dX9_draws_27 : decode cX9_draws 27 = .ok (.irem, 1) := by decide +kernel
theorem dX9_draws_28 : decode cX9_draws 28 = .ok (.ireturn, 1) := by decide +kernel
theorem dX9_drawnAct_0 : decode cX9_drawnAct 0 = .ok (.aload_n 0, 1) := by decide +kernel
theorem dX9_drawnAct_1 : decode cX9_drawnAct 1 = .ok (.bipush 40, 2) := by decide +kernel
theorem dX9_drawnAct_3 : decode cX9_drawnAct 3 = .ok (.invokevirtual 483, 3) := by decide +kernel
theorem dX9_drawnAct_6 : decode cX9_drawnAct 6 = .ok (.istore_n 1, 1) := by decide +kernel
theorem dX9_drawnAct_7 : decode cX9_drawnAct 7 = .ok (.aload_n 0, 1) := by decide +kernel
theorem dX9_drawnAct_8 : decode cX9_drawnAct 8 = .ok (.bipush 8, 2) := by decide +kernel
theorem dX9_drawnAct_10 : decode cX9_drawnAct 10 = .ok (.invokevirtual 483, 3) := by decide +kernel
theorem dX9_drawnAct_13 : decode cX9_drawnAct 13 = .ok (.istore_n 2, 1) := by decide +kernel
theorem dX9_drawnAct_14 : decode cX9_drawnAct 14 = .ok (.iload_n 2, 1) := by decide +kernel
theorem dX9_drawnAct_15 : decode cX9_drawnAct 15 = .ok (.tableswitch 42 5 7 #[25, 34, 34], 25) := by decide +kernel
theorem dX9_drawnAct_40 : decode cX9_drawnAct 40 = .ok (.aload_n 0, 1) := by decide +kernel
theorem dX9_drawnAct_41 : decode cX9_drawnAct 41 = .ok (.iload_n 1, 1) := by decide +kernel
theorem dX9_drawnAct_42 : decode cX9_drawnAct 42 = .ok (.invokevirtual 371, 3) := by decide +kernel
theorem dX9_drawnAct_45 : decode cX9_drawnAct 45 = .ok (.pop, 1) := by decide +kernel
theorem dX9_drawnAct_46 : decode cX9_drawnAct 46 = .ok (.goto 17, 3) := by decide +kernel
theorem dX9_drawnAct_49 : decode cX9_drawnAct 49 = .ok (.aload_n 0, 1) := by decide +kernel
theorem dX9_drawnAct_50 : decode cX9_drawnAct 50 = .ok (.invokevirtual 380, 3) := by decide +kernel
theorem dX9_drawnAct_53 : decode cX9_drawnAct 53 = .ok (.pop, 1) := by decide +kernel
theorem dX9_drawnAct_54 : decode cX9_drawnAct 54 = .ok (.goto 9, 3) := by decide +kernel
theorem dX9_drawnAct_57 : decode cX9_drawnAct 57 = .ok (.aload_n 0, 1) := by decide +kernel
theorem dX9_drawnAct_58 : decode cX9_drawnAct 58 = .ok (.iload_n 1, 1) := by decide +kernel
theorem dX9_drawnAct_59 : decode cX9_drawnAct 59 = .ok (.invokevirtual 163, 3) := by decide +kernel
theorem dX9_drawnAct_62 : decode cX9_drawnAct 62 = .ok (.pop, 1) := by decide +kernel
theorem dX9_drawnAct_63 : decode cX9_drawnAct 63 = .ok (.return_, 1) := by decide +kernel
theorem dX9_years_0 : decode cX9_years 0 = .ok (.iload_n 1, 1) := by decide +kernel
theorem dX9_years_1 : decode cX9_years 1 = .ok (.iconst 0, 1) := by decide +kernel
theorem dX9_years_2 : decode cX9_years 2 = .ok (.ldc 178, 2) := by decide +kernel
theorem dX9_years_4 : decode cX9_years 4 = .ok (.invokestatic 18, 3) := by decide +kernel
theorem dX9_years_7 : decode cX9_years 7 = .ok (.ifCond .eq 13, 3) := by decide +kernel
theorem dX9_years_10 : decode cX9_years 10 = .ok (.iload_n 2, 1) := by decide +kernel
theorem dX9_years_11 : decode cX9_years 11 = .ok (.iconst 1, 1) := by decide +kernel
theorem dX9_years_12 : decode cX9_years 12 = .ok (.bipush 60, 2) := by decide +kernel
theorem dX9_years_14 : decode cX9_years 14 = .ok (.invokestatic 18, 3) := by decide +kernel
theorem dX9_years_17 : decode cX9_years 17 = .ok (.ifCond .ne 9, 3) := by decide +kernel
theorem dX9_years_20 : decode cX9_years 20 = .ok (.aload_n 0, 1) := by decide +kernel
theorem dX9_years_21 : decode cX9_years 21 = .ok (.iconst (-1), 1) := by decide +kernel
theorem dX9_years_22 : decode cX9_years 22 = .ok (.invokevirtual 103, 3) := by decide +kernel
theorem dX9_years_25 : decode cX9_years 25 = .ok (.ireturn, 1) := by decide +kernel
theorem dX9_years_26 : decode cX9_years 26 = .ok (.aload_n 0, 1) := by decide +kernel
theorem dX9_years_27 : decode cX9_years 27 = .ok (.iload_n 1, 1) := by decide +kernel
theorem dX9_years_28 : decode cX9_years 28 = .ok (.putfield 476, 3) := by decide +kernel
theorem dX9_years_31 : decode cX9_years 31 = .ok (.aload_n 0, 1) := by decide +kernel
theorem dX9_years_32 : decode cX9_years 32 = .ok (.iconst 1, 1) := by decide +kernel
theorem dX9_years_33 : decode cX9_years 33 = .ok (.putfield 486, 3) := by decide +kernel
theorem dX9_years_36 : decode cX9_years 36 = .ok (.aload_n 0, 1) := by decide +kernel
theorem dX9_years_37 : decode cX9_years 37 = .ok (.iconst 0, 1) := by decide +kernel
theorem dX9_years_38 : decode cX9_years 38 = .ok (.invokevirtual 365, 3) := by decide +kernel
theorem dX9_years_41 : decode cX9_years 41 = .ok (.iconst 0, 1) := by decide +kernel
theorem dX9_years_42 : decode cX9_years 42 = .ok (.istore_n 3, 1) := by decide +kernel
theorem dX9_years_43 : decode cX9_years 43 = .ok (.iload_n 3, 1) := by decide +kernel
theorem dX9_years_44 : decode cX9_years 44 = .ok (.iload_n 2, 1) := by decide +kernel
theorem dX9_years_45 : decode cX9_years 45 = .ok (.if_icmp .ge 13, 3) := by decide +kernel
theorem dX9_years_48 : decode cX9_years 48 = .ok (.aload_n 0, 1) := by decide +kernel
theorem dX9_years_49 : decode cX9_years 49 = .ok (.invokevirtual 489, 3) := by decide +kernel
theorem dX9_years_52 : decode cX9_years 52 = .ok (.iinc 3 1, 3) := by decide +kernel
theorem dX9_years_55 : decode cX9_years 55 = .ok (.goto (-12), 3) := by decide +kernel
theorem dX9_years_58 : decode cX9_years 58 = .ok (.aload_n 0, 1) := by decide +kernel
theorem dX9_years_59 : decode cX9_years 59 = .ok (.getfield 28, 3) := by decide +kernel
theorem dX9_years_62 : decode cX9_years 62 = .ok (.iconst 0, 1) := by decide +kernel
theorem dX9_years_63 : decode cX9_years 63 = .ok (.iaload, 1) := by decide +kernel
theorem dX9_years_64 : decode cX9_years 64 = .ok (.istore_n 3, 1) := by decide +kernel
theorem dX9_years_65 : decode cX9_years 65 = .ok (.iconst 0, 1) := by decide +kernel
theorem dX9_years_66 : decode cX9_years 66 = .ok (.istore 4, 2) := by decide +kernel
theorem dX9_years_68 : decode cX9_years 68 = .ok (.iload 4, 2) := by decide +kernel
theorem dX9_years_70 : decode cX9_years 70 = .ok (.bipush 40, 2) := by decide +kernel
theorem dX9_years_72 : decode cX9_years 72 = .ok (.if_icmp .ge 23, 3) := by decide +kernel
theorem dX9_years_75 : decode cX9_years 75 = .ok (.aload_n 0, 1) := by decide +kernel
theorem dX9_years_76 : decode cX9_years 76 = .ok (.getfield 100, 3) := by decide +kernel
theorem dX9_years_79 : decode cX9_years 79 = .ok (.iload 4, 2) := by decide +kernel
theorem dX9_years_81 : decode cX9_years 81 = .ok (.aload_n 0, 1) := by decide +kernel
theorem dX9_years_82 : decode cX9_years 82 = .ok (.iload 4, 2) := by decide +kernel
theorem dX9_years_84 : decode cX9_years 84 = .ok (.iconst 1, 1) := by decide +kernel
theorem dX9_years_85 : decode cX9_years 85 = .ok (.invokevirtual 311, 3) := by decide +kernel
theorem dX9_years_88 : decode cX9_years 88 = .ok (.iastore, 1) := by decide +kernel
theorem dX9_years_89 : decode cX9_years 89 = .ok (.iinc 4 1, 3) := by decide +kernel
theorem dX9_years_92 : decode cX9_years 92 = .ok (.goto (-24), 3) := by decide +kernel
theorem dX9_years_95 : decode cX9_years 95 = .ok (.aload_n 0, 1) := by decide +kernel
theorem dX9_years_96 : decode cX9_years 96 = .ok (.iconst 0, 1) := by decide +kernel
theorem dX9_years_97 : decode cX9_years 97 = .ok (.invokevirtual 446, 3) := by decide +kernel
theorem dX9_years_100 : decode cX9_years 100 = .ok (.aload_n 0, 1) := by decide +kernel
theorem dX9_years_101 : decode cX9_years 101 = .ok (.iload_n 3, 1) := by decide +kernel
theorem dX9_years_102 : decode cX9_years 102 = .ok (.invokevirtual 14, 3) := by decide +kernel
theorem dX9_years_105 : decode cX9_years 105 = .ok (.ireturn, 1) := by decide +kernel
theorem dX9_drawn_0 : decode cX9_drawn 0 = .ok (.aload_n 0, 1) := by decide +kernel
theorem dX9_drawn_1 : decode cX9_drawn 1 = .ok (.getfield 486, 3) := by decide +kernel
theorem dX9_drawn_4 : decode cX9_drawn 4 = .ok (.ifCond .eq 22, 3) := by decide +kernel
theorem dX9_drawn_7 : decode cX9_drawn 7 = .ok (.iload_n 1, 1) := by decide +kernel
theorem dX9_drawn_8 : decode cX9_drawn 8 = .ok (.iconst 0, 1) := by decide +kernel
theorem dX9_drawn_9 : decode cX9_drawn 9 = .ok (.bipush 39, 2) := by decide +kernel
theorem dX9_drawn_11 : decode cX9_drawn 11 = .ok (.invokestatic 18, 3) := by decide +kernel
theorem dX9_drawn_14 : decode cX9_drawn 14 = .ok (.ifCond .eq 12, 3) := by decide +kernel
theorem dX9_drawn_17 : decode cX9_drawn 17 = .ok (.aload_n 0, 1) := by decide +kernel
theorem dX9_drawn_18 : decode cX9_drawn 18 = .ok (.getfield 100, 3) := by decide +kernel
theorem dX9_drawn_21 : decode cX9_drawn 21 = .ok (.iload_n 1, 1) := by decide +kernel
theorem dX9_drawn_22 : decode cX9_drawn 22 = .ok (.iaload, 1) := by decide +kernel
theorem dX9_drawn_23 : decode cX9_drawn 23 = .ok (.goto 4, 3) := by decide +kernel
theorem dX9_drawn_26 : decode cX9_drawn 26 = .ok (.iconst (-1), 1) := by decide +kernel
theorem dX9_drawn_27 : decode cX9_drawn 27 = .ok (.ireturn, 1) := by decide +kernel
theorem dX9_count_0 : decode cX9_count 0 = .ok (.iload_n 1, 1) := by decide +kernel
theorem dX9_count_1 : decode cX9_count 1 = .ok (.tableswitch 161 0 15 #[79, 86, 94, 102, 111, 120, 125, 130, 130, 130, 130, 130, 139, 148, 148, 148], 79) := by decide +kernel
theorem dX9_count_80 : decode cX9_count 80 = .ok (.aload_n 0, 1) := by decide +kernel
theorem dX9_count_81 : decode cX9_count 81 = .ok (.getfield 28, 3) := by decide +kernel
theorem dX9_count_84 : decode cX9_count 84 = .ok (.iconst 0, 1) := by decide +kernel
theorem dX9_count_85 : decode cX9_count 85 = .ok (.iaload, 1) := by decide +kernel
theorem dX9_count_86 : decode cX9_count 86 = .ok (.ireturn, 1) := by decide +kernel
theorem dX9_count_87 : decode cX9_count 87 = .ok (.aload_n 0, 1) := by decide +kernel
theorem dX9_count_88 : decode cX9_count 88 = .ok (.getfield 28, 3) := by decide +kernel
theorem dX9_count_91 : decode cX9_count 91 = .ok (.bipush 31, 2) := by decide +kernel
theorem dX9_count_93 : decode cX9_count 93 = .ok (.iaload, 1) := by decide +kernel
theorem dX9_count_94 : decode cX9_count 94 = .ok (.ireturn, 1) := by decide +kernel
theorem dX9_count_95 : decode cX9_count 95 = .ok (.aload_n 0, 1) := by decide +kernel
theorem dX9_count_96 : decode cX9_count 96 = .ok (.getfield 28, 3) := by decide +kernel
theorem dX9_count_99 : decode cX9_count 99 = .ok (.bipush 32, 2) := by decide +kernel
theorem dX9_count_101 : decode cX9_count 101 = .ok (.iaload, 1) := by decide +kernel
theorem dX9_count_102 : decode cX9_count 102 = .ok (.ireturn, 1) := by decide +kernel
theorem dX9_count_103 : decode cX9_count 103 = .ok (.aload_n 0, 1) := by decide +kernel
theorem dX9_count_104 : decode cX9_count 104 = .ok (.getfield 28, 3) := by decide +kernel
theorem dX9_count_107 : decode cX9_count 107 = .ok (.sipush 202, 3) := by decide +kernel
theorem dX9_count_110 : decode cX9_count 110 = .ok (.iaload, 1) := by decide +kernel
theorem dX9_count_111 : decode cX9_count 111 = .ok (.ireturn, 1) := by decide +kernel
theorem dX9_count_112 : decode cX9_count 112 = .ok (.aload_n 0, 1) := by decide +kernel
theorem dX9_count_113 : decode cX9_count 113 = .ok (.getfield 28, 3) := by decide +kernel
theorem dX9_count_116 : decode cX9_count 116 = .ok (.sipush 203, 3) := by decide +kernel
theorem dX9_count_119 : decode cX9_count 119 = .ok (.iaload, 1) := by decide +kernel
theorem dX9_count_120 : decode cX9_count 120 = .ok (.ireturn, 1) := by decide +kernel
theorem dX9_count_121 : decode cX9_count 121 = .ok (.aload_n 0, 1) := by decide +kernel
theorem dX9_count_122 : decode cX9_count 122 = .ok (.getfield 11, 3) := by decide +kernel
theorem dX9_count_125 : decode cX9_count 125 = .ok (.ireturn, 1) := by decide +kernel
theorem dX9_count_126 : decode cX9_count 126 = .ok (.aload_n 0, 1) := by decide +kernel
theorem dX9_count_127 : decode cX9_count 127 = .ok (.getfield 157, 3) := by decide +kernel
theorem dX9_count_130 : decode cX9_count 130 = .ok (.ireturn, 1) := by decide +kernel
theorem dX9_count_131 : decode cX9_count 131 = .ok (.aload_n 0, 1) := by decide +kernel
theorem dX9_count_132 : decode cX9_count 132 = .ok (.iload_n 1, 1) := by decide +kernel
theorem dX9_count_133 : decode cX9_count 133 = .ok (.bipush 7, 2) := by decide +kernel
theorem dX9_count_135 : decode cX9_count 135 = .ok (.isub, 1) := by decide +kernel
theorem dX9_count_136 : decode cX9_count 136 = .ok (.invokevirtual 492, 3) := by decide +kernel
theorem dX9_count_139 : decode cX9_count 139 = .ok (.ireturn, 1) := by decide +kernel
theorem dX9_count_140 : decode cX9_count 140 = .ok (.aload_n 0, 1) := by decide +kernel
theorem dX9_count_141 : decode cX9_count 141 = .ok (.getfield 28, 3) := by decide +kernel
theorem dX9_count_144 : decode cX9_count 144 = .ok (.sipush 204, 3) := by decide +kernel
theorem dX9_count_147 : decode cX9_count 147 = .ok (.iaload, 1) := by decide +kernel
theorem dX9_count_148 : decode cX9_count 148 = .ok (.ireturn, 1) := by decide +kernel
theorem dX9_count_149 : decode cX9_count 149 = .ok (.aload_n 0, 1) := by decide +kernel
theorem dX9_count_150 : decode cX9_count 150 = .ok (.getfield 28, 3) := by decide +kernel
theorem dX9_count_153 : decode cX9_count 153 = .ok (.iload_n 1, 1) := by decide +kernel
theorem dX9_count_154 : decode cX9_count 154 = .ok (.bipush 13, 2) := by decide +kernel
theorem dX9_count_156 : decode cX9_count 156 = .ok (.isub, 1) := by decide +kernel
theorem dX9_count_157 : decode cX9_count 157 = .ok (.invokestatic 154, 3) := by decide +kernel
theorem dX9_count_160 : decode cX9_count 160 = .ok (.iaload, 1) := by decide +kernel
theorem dX9_count_161 : decode cX9_count 161 = .ok (.ireturn, 1) := by decide +kernel
theorem dX9_count_162 : decode cX9_count 162 = .ok (.iconst (-1), 1) := by decide +kernel
theorem dX9_count_163 : decode cX9_count 163 = .ok (.ireturn, 1) := by decide +kernel
theorem dX9_refusals_0 : decode cX9_refusals 0 = .ok (.iload_n 1, 1) := by decide +kernel
theorem dX9_refusals_1 : decode cX9_refusals 1 = .ok (.iconst 3, 1) := by decide +kernel
theorem dX9_refusals_2 : decode cX9_refusals 2 = .ok (.if_icmp .ge 12, 3) := by decide +kernel
theorem dX9_refusals_5 : decode cX9_refusals 5 = .ok (.aload_n 0, 1) := by decide +kernel
theorem dX9_refusals_6 : decode cX9_refusals 6 = .ok (.getfield 7, 3) := by decide +kernel
theorem dX9_refusals_9 : decode cX9_refusals 9 = .ok (.iload_n 1, 1) := by decide +kernel
theorem dX9_refusals_10 : decode cX9_refusals 10 = .ok (.iconst 1, 1) := by decide +kernel
theorem dX9_refusals_11 : decode cX9_refusals 11 = .ok (.iadd, 1) := by decide +kernel
theorem dX9_refusals_12 : decode cX9_refusals 12 = .ok (.iaload, 1) := by decide +kernel
theorem dX9_refusals_13 : decode cX9_refusals 13 = .ok (.ireturn, 1) := by decide +kernel
theorem dX9_refusals_14 : decode cX9_refusals 14 = .ok (.aload_n 0, 1) := by decide +kernel
theorem dX9_refusals_15 : decode cX9_refusals 15 = .ok (.getfield 7, 3) := by decide +kernel
theorem dX9_refusals_18 : decode cX9_refusals 18 = .ok (.iload_n 1, 1) := by decide +kernel
theorem dX9_refusals_19 : decode cX9_refusals 19 = .ok (.iconst 2, 1) := by decide +kernel
theorem dX9_refusals_20 : decode cX9_refusals 20 = .ok (.iadd, 1) := by decide +kernel
theorem dX9_refusals_21 : decode cX9_refusals 21 = .ok (.iaload, 1) := by decide +kernel
theorem dX9_refusals_22 : decode cX9_refusals 22 = .ok (.ireturn, 1) := by decide +kernel
theorem dX9_status_0 : decode cX9_status 0 = .ok (.aload_n 0, 1) := by decide +kernel
theorem dX9_status_1 : decode cX9_status 1 = .ok (.getfield 3, 3) := by decide +kernel
theorem dX9_status_4 : decode cX9_status 4 = .ok (.ireturn, 1) := by decide +kernel
