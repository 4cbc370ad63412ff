theorem dX8_init_0 : decode cX8_init 0 = .ok (.aload_n 0, 1) := by decide +kernel
theorem dX8_init_1 : decode cX8_init 1 = .ok (.invokespecial 5, 3) := by decide +kernel
theorem dX8_init_4 : decode cX8_init 4 = .ok (.aload_n 0, 1) := by decide +kernel
theorem dX8_init_5 : decode cX8_init 5 = .ok (.new 11, 3) := by decide +kernel
theorem dX8_init_8 : decode cX8_init 8 = .ok (.dup, 1) := by decide +kernel
theorem dX8_init_9 : decode cX8_init 9 = .ok (.invokespecial 13, 3) := by decide +kernel
theorem dX8_init_12 : decode cX8_init 12 = .ok (.putfield 14, 3) := by decide +kernel
theorem dX8_init_15 : decode cX8_init 15 = .ok (.aload_n 0, 1) := by decide +kernel
theorem dX8_init_16 : decode cX8_init 16 = .ok (.iconst 2, 1) := by decide +kernel
theorem dX8_init_17 : decode cX8_init 17 = .ok (.anewarray 11, 3) := by decide +kernel
theorem dX8_init_20 : decode cX8_init 20 = .ok (.putfield 18, 3) := by decide +kernel
theorem dX8_init_23 : decode cX8_init 23 = .ok (.aload_n 0, 1) := by decide +kernel
theorem dX8_init_24 : decode cX8_init 24 = .ok (.new 22, 3) := by decide +kernel
theorem dX8_init_27 : decode cX8_init 27 = .ok (.dup, 1) := by decide +kernel
theorem dX8_init_28 : decode cX8_init 28 = .ok (.invokespecial 24, 3) := by decide +kernel
theorem dX8_init_31 : decode cX8_init 31 = .ok (.putfield 25, 3) := by decide +kernel
theorem dX8_init_34 : decode cX8_init 34 = .ok (.aload_n 0, 1) := by decide +kernel
theorem dX8_init_35 : decode cX8_init 35 = .ok (.new 22, 3) := by decide +kernel
theorem dX8_init_38 : decode cX8_init 38 = .ok (.dup, 1) := by decide +kernel
theorem dX8_init_39 : decode cX8_init 39 = .ok (.invokespecial 24, 3) := by decide +kernel
theorem dX8_init_42 : decode cX8_init 42 = .ok (.putfield 29, 3) := by decide +kernel
theorem dX8_init_45 : decode cX8_init 45 = .ok (.aload_n 0, 1) := by decide +kernel
theorem dX8_init_46 : decode cX8_init 46 = .ok (.new 32, 3) := by decide +kernel
theorem dX8_init_49 : decode cX8_init 49 = .ok (.dup, 1) := by decide +kernel
theorem dX8_init_50 : decode cX8_init 50 = .ok (.invokespecial 34, 3) := by decide +kernel
theorem dX8_init_53 : decode cX8_init 53 = .ok (.putfield 35, 3) := by decide +kernel
theorem dX8_init_56 : decode cX8_init 56 = .ok (.aload_n 0, 1) := by decide +kernel
theorem dX8_init_57 : decode cX8_init 57 = .ok (.new 32, 3) := by decide +kernel
theorem dX8_init_60 : decode cX8_init 60 = .ok (.dup, 1) := by decide +kernel
theorem dX8_init_61 : decode cX8_init 61 = .ok (.invokespecial 34, 3) := by decide +kernel
theorem dX8_init_64 : decode cX8_init 64 = .ok (.putfield 39, 3) := by decide +kernel
theorem dX8_init_67 : decode cX8_init 67 = .ok (.aload_n 0, 1) := by decide +kernel
theorem dX8_init_68 : decode cX8_init 68 = .ok (.new 42, 3) := by decide +kernel
theorem dX8_init_71 : decode cX8_init 71 = .ok (.dup, 1) := by decide +kernel
theorem dX8_init_72 : decode cX8_init 72 = .ok (.invokespecial 44, 3) := by decide +kernel
theorem dX8_init_75 : decode cX8_init 75 = .ok (.putfield 45, 3) := by decide +kernel
theorem dX8_init_78 : decode cX8_init 78 = .ok (.aload_n 0, 1) := by decide +kernel
theorem dX8_init_79 : decode cX8_init 79 = .ok (.new 49, 3) := by decide +kernel
theorem dX8_init_82 : decode cX8_init 82 = .ok (.dup, 1) := by decide +kernel
theorem dX8_init_83 : decode cX8_init 83 = .ok (.aload_n 0, 1) := by decide +kernel
theorem dX8_init_84 : decode cX8_init 84 = .ok (.getfield 45, 3) := by decide +kernel
theorem dX8_init_87 : decode cX8_init 87 = .ok (.invokespecial 51, 3) := by decide +kernel
theorem dX8_init_90 : decode cX8_init 90 = .ok (.putfield 54, 3) := by decide +kernel
theorem dX8_init_93 : decode cX8_init 93 = .ok (.aload_n 0, 1) := by decide +kernel
theorem dX8_init_94 : decode cX8_init 94 = .ok (.new 58, 3) := by decide +kernel
theorem dX8_init_97 : decode cX8_init 97 = .ok (.dup, 1) := by decide +kernel
theorem dX8_init_98 : decode cX8_init 98 = .ok (.invokespecial 60, 3) := by decide +kernel
theorem dX8_init_101 : decode cX8_init 101 = .ok (.putfield 61, 3) := by decide +kernel
theorem dX8_init_104 : decode cX8_init 104 = .ok (.aload_n 0, 1) := by decide +kernel
theorem dX8_init_105 : decode cX8_init 105 = .ok (.new 65, 3) := by decide +kernel
theorem dX8_init_108 : decode cX8_init 108 = .ok (.dup, 1) := by decide +kernel
theorem dX8_init_109 : decode cX8_init 109 = .ok (.iconst 0, 1) := by decide +kernel
theorem dX8_init_110 : decode cX8_init 110 = .ok (.iconst 0, 1) := by decide +kernel
theorem dX8_init_111 : decode cX8_init 111 = .ok (.invokespecial 67, 3) := by decide +kernel
theorem dX8_init_114 : decode cX8_init 114 = .ok (.putfield 70, 3) := by decide +kernel
theorem dX8_init_117 : decode cX8_init 117 = .ok (.aload_n 0, 1) := by decide +kernel
theorem dX8_init_118 : decode cX8_init 118 = .ok (.bipush 40, 2) := by decide +kernel
theorem dX8_init_120 : decode cX8_init 120 = .ok (.newarray .int, 2) := by decide +kernel
theorem dX8_init_122 : decode cX8_init 122 = .ok (.putfield 74, 3) := by decide +kernel
theorem dX8_init_125 : decode cX8_init 125 = .ok (.aload_n 0, 1) := by decide +kernel
theorem dX8_init_126 : decode cX8_init 126 = .ok (.iconst 5, 1) := by decide +kernel
theorem dX8_init_127 : decode cX8_init 127 = .ok (.newarray .int, 2) := by decide +kernel
theorem dX8_init_129 : decode cX8_init 129 = .ok (.putfield 78, 3) := by decide +kernel
theorem dX8_init_132 : decode cX8_init 132 = .ok (.aload_n 0, 1) := by decide +kernel
theorem dX8_init_133 : decode cX8_init 133 = .ok (.bipush 30, 2) := by decide +kernel
theorem dX8_init_135 : decode cX8_init 135 = .ok (.newarray .int, 2) := by decide +kernel
theorem dX8_init_137 : decode cX8_init 137 = .ok (.putfield 81, 3) := by decide +kernel
theorem dX8_init_140 : decode cX8_init 140 = .ok (.aload_n 0, 1) := by decide +kernel
theorem dX8_init_141 : decode cX8_init 141 = .ok (.bipush 20, 2) := by decide +kernel
theorem dX8_init_143 : decode cX8_init 143 = .ok (.newarray .long, 2) := by decide +kernel
theorem dX8_init_145 : decode cX8_init 145 = .ok (.putfield 84, 3) := by decide +kernel
theorem dX8_init_148 : decode cX8_init 148 = .ok (.aload_n 0, 1) := by decide +kernel
theorem dX8_init_149 : decode cX8_init 149 = .ok (.iconst (-1), 1) := by decide +kernel
theorem dX8_init_150 : decode cX8_init 150 = .ok (.putfield 88, 3) := by decide +kernel
theorem dX8_init_153 : decode cX8_init 153 = .ok (.iconst 0, 1) := by decide +kernel
theorem dX8_init_154 : decode cX8_init 154 = .ok (.istore_n 1, 1) := by decide +kernel
theorem dX8_init_155 : decode cX8_init 155 = .ok (.iload_n 1, 1) := by decide +kernel
theorem dX8_init_156 : decode cX8_init 156 = .ok (.iconst 2, 1) := by decide +kernel
theorem dX8_init_157 : decode cX8_init 157 = .ok (.if_icmp .ge 22, 3) := by decide +kernel
theorem dX8_init_160 : decode cX8_init 160 = .ok (.aload_n 0, 1) := by decide +kernel
theorem dX8_init_161 : decode cX8_init 161 = .ok (.getfield 18, 3) := by decide +kernel
theorem dX8_init_164 : decode cX8_init 164 = .ok (.iload_n 1, 1) := by decide +kernel
theorem dX8_init_165 : decode cX8_init 165 = .ok (.new 11, 3) := by decide +kernel
theorem dX8_init_168 : decode cX8_init 168 = .ok (.dup, 1) := by decide +kernel
theorem dX8_init_169 : decode cX8_init 169 = .ok (.invokespecial 13, 3) := by decide +kernel
theorem dX8_init_172 : decode cX8_init 172 = .ok (.aastore, 1) := by decide +kernel
theorem dX8_init_173 : decode cX8_init 173 = .ok (.iinc 1 1, 3) := by decide +kernel
theorem dX8_init_176 : decode cX8_init 176 = .ok (.goto (-21), 3) := by decide +kernel
theorem dX8_init_179 : decode cX8_init 179 = .ok (.aload_n 0, 1) := by decide +kernel
theorem dX8_init_180 : decode cX8_init 180 = .ok (.getfield 74, 3) := by decide +kernel
theorem dX8_init_183 : decode cX8_init 183 = .ok (.iconst (-1), 1) := by decide +kernel
theorem dX8_init_184 : decode cX8_init 184 = .ok (.invokestatic 92, 3) := by decide +kernel
theorem dX8_init_187 : decode cX8_init 187 = .ok (.return_, 1) := by decide +kernel
theorem dX8_key_0 : decode cX8_key 0 = .ok (.iload_n 1, 1) := by decide +kernel
theorem dX8_key_1 : decode cX8_key 1 = .ok (.invokestatic 98, 3) := by decide +kernel
theorem dX8_key_4 : decode cX8_key 4 = .ok (.ifCond .ne 5, 3) := by decide +kernel
theorem dX8_key_7 : decode cX8_key 7 = .ok (.iconst (-1), 1) := by decide +kernel
theorem dX8_key_8 : decode cX8_key 8 = .ok (.ireturn, 1) := by decide +kernel
theorem dX8_key_9 : decode cX8_key 9 = .ok (.aload_n 0, 1) := by decide +kernel
theorem dX8_key_10 : decode cX8_key 10 = .ok (.getfield 14, 3) := by decide +kernel
theorem dX8_key_13 : decode cX8_key 13 = .ok (.getfield 102, 3) := by decide +kernel
theorem dX8_key_16 : decode cX8_key 16 = .ok (.astore_n 3, 1) := by decide +kernel
theorem dX8_key_17 : decode cX8_key 17 = .ok (.iload_n 2, 1) := by decide +kernel
theorem dX8_key_18 : decode cX8_key 18 = .ok (.tableswitch 86 0 4 #[34, 48, 70, 70, 70], 34) := by decide +kernel
theorem dX8_key_52 : decode cX8_key 52 = .ok (.aload_n 3, 1) := by decide +kernel
theorem dX8_key_53 : decode cX8_key 53 = .ok (.iload_n 1, 1) := by decide +kernel
theorem dX8_key_54 : decode cX8_key 54 = .ok (.invokevirtual 105, 3) := by decide +kernel
theorem dX8_key_57 : decode cX8_key 57 = .ok (.ifCond .eq 7, 3) := by decide +kernel
theorem dX8_key_60 : decode cX8_key 60 = .ok (.iconst 1, 1) := by decide +kernel
theorem dX8_key_61 : decode cX8_key 61 = .ok (.goto 4, 3) := by decide +kernel
theorem dX8_key_64 : decode cX8_key 64 = .ok (.iconst 0, 1) := by decide +kernel
theorem dX8_key_65 : decode cX8_key 65 = .ok (.ireturn, 1) := by decide +kernel
theorem dX8_key_66 : decode cX8_key 66 = .ok (.aload_n 0, 1) := by decide +kernel
theorem dX8_key_67 : decode cX8_key 67 = .ok (.getfield 45, 3) := by decide +kernel
theorem dX8_key_70 : decode cX8_key 70 = .ok (.aload_n 0, 1) := by decide +kernel
theorem dX8_key_71 : decode cX8_key 71 = .ok (.invokevirtual 108, 3) := by decide +kernel
theorem dX8_key_74 : decode cX8_key 74 = .ok (.aload_n 3, 1) := by decide +kernel
theorem dX8_key_75 : decode cX8_key 75 = .ok (.iload_n 1, 1) := by decide +kernel
theorem dX8_key_76 : decode cX8_key 76 = .ok (.invokevirtual 112, 3) := by decide +kernel
theorem dX8_key_79 : decode cX8_key 79 = .ok (.ifCond .eq 7, 3) := by decide +kernel
theorem dX8_key_82 : decode cX8_key 82 = .ok (.iconst 1, 1) := by decide +kernel
theorem dX8_key_83 : decode cX8_key 83 = .ok (.goto 4, 3) := by decide +kernel
theorem dX8_key_86 : decode cX8_key 86 = .ok (.iconst 0, 1) := by decide +kernel
theorem dX8_key_87 : decode cX8_key 87 = .ok (.ireturn, 1) := by decide +kernel
theorem dX8_key_88 : decode cX8_key 88 = .ok (.iload_n 1, 1) := by decide +kernel
theorem dX8_key_89 : decode cX8_key 89 = .ok (.iload_n 2, 1) := by decide +kernel
theorem dX8_key_90 : decode cX8_key 90 = .ok (.iconst 2, 1) := by decide +kernel
theorem dX8_key_91 : decode cX8_key 91 = .ok (.isub, 1) := by decide +kernel
theorem dX8_key_92 : decode cX8_key 92 = .ok (.aload_n 3, 1) := by decide +kernel
theorem dX8_key_93 : decode cX8_key 93 = .ok (.getfield 116, 3) := by decide +kernel
theorem dX8_key_96 : decode cX8_key 96 = .ok (.aload_n 3, 1) := by decide +kernel
theorem dX8_key_97 : decode cX8_key 97 = .ok (.getfield 119, 3) := by decide +kernel
theorem dX8_key_100 : decode cX8_key 100 = .ok (.invokestatic 122, 3) := by decide +kernel
theorem dX8_key_103 : decode cX8_key 103 = .ok (.ireturn, 1) := by decide +kernel
theorem dX8_key_104 : decode cX8_key 104 = .ok (.iconst (-1), 1) := by decide +kernel
theorem dX8_key_105 : decode cX8_key 105 = .ok (.ireturn, 1) := by decide +kernel
theorem dX8_vertex_0 : decode cX8_vertex 0 = .ok (.aload_n 0, 1) := by decide +kernel
theorem dX8_vertex_1 : decode cX8_vertex 1 = .ok (.getfield 14, 3) := by decide +kernel
theorem dX8_vertex_4 : decode cX8_vertex 4 = .ok (.getfield 102, 3) := by decide +kernel
theorem dX8_vertex_7 : decode cX8_vertex 7 = .ok (.astore_n 3, 1) := by decide +kernel
theorem dX8_vertex_8 : decode cX8_vertex 8 = .ok (.aload_n 3, 1) := by decide +kernel
theorem dX8_vertex_9 : decode cX8_vertex 9 = .ok (.iload_n 1, 1) := by decide +kernel
theorem dX8_vertex_10 : decode cX8_vertex 10 = .ok (.invokevirtual 126, 3) := by decide +kernel
theorem dX8_vertex_13 : decode cX8_vertex 13 = .ok (.ifCond .eq 12, 3) := by decide +kernel
theorem dX8_vertex_16 : decode cX8_vertex 16 = .ok (.iload_n 2, 1) := by decide +kernel
theorem dX8_vertex_17 : decode cX8_vertex 17 = .ok (.ifCond .lt 8, 3) := by decide +kernel
theorem dX8_vertex_20 : decode cX8_vertex 20 = .ok (.iload_n 2, 1) := by decide +kernel
theorem dX8_vertex_21 : decode cX8_vertex 21 = .ok (.iconst 1, 1) := by decide +kernel
theorem dX8_vertex_22 : decode cX8_vertex 22 = .ok (.if_icmp .le 5, 3) := by decide +kernel
theorem dX8_vertex_25 : decode cX8_vertex 25 = .ok (.iconst (-1), 1) := by decide +kernel
theorem dX8_vertex_26 : decode cX8_vertex 26 = .ok (.ireturn, 1) := by decide +kernel
theorem dX8_vertex_27 : decode cX8_vertex 27 = .ok (.aload_n 3, 1) := by decide +kernel
theorem dX8_vertex_28 : decode cX8_vertex 28 = .ok (.iload_n 1, 1) := by decide +kernel
theorem dX8_vertex_29 : decode cX8_vertex 29 = .ok (.invokevirtual 129, 3) := by decide +kernel
theorem dX8_vertex_32 : decode cX8_vertex 32 = .ok (.istore 4, 2) := by decide +kernel
theorem dX8_vertex_34 : decode cX8_vertex 34 = .ok (.iload_n 2, 1) := by decide +kernel
theorem dX8_vertex_35 : decode cX8_vertex 35 = .ok (.ifCond .ne 8, 3) := by decide +kernel
theorem dX8_vertex_38 : decode cX8_vertex 38 = .ok (.iload 4, 2) := by decide +kernel
theorem dX8_vertex_40 : decode cX8_vertex 40 = .ok (.goto 22, 3) := by decide +kernel
theorem dX8_vertex_43 : decode cX8_vertex 43 = .ok (.aload_n 0, 1) := by decide +kernel
theorem dX8_vertex_44 : decode cX8_vertex 44 = .ok (.getfield 45, 3) := by decide +kernel
theorem dX8_vertex_47 : decode cX8_vertex 47 = .ok (.aload_n 0, 1) := by decide +kernel
theorem dX8_vertex_48 : decode cX8_vertex 48 = .ok (.invokevirtual 108, 3) := by decide +kernel
theorem dX8_vertex_51 : decode cX8_vertex 51 = .ok (.aload_n 3, 1) := by decide +kernel
theorem dX8_vertex_52 : decode cX8_vertex 52 = .ok (.aload_n 3, 1) := by decide +kernel
theorem dX8_vertex_53 : decode cX8_vertex 53 = .ok (.getfield 116, 3) := by decide +kernel
theorem dX8_vertex_56 : decode cX8_vertex 56 = .ok (.iload_n 1, 1) := by decide +kernel
theorem dX8_vertex_57 : decode cX8_vertex 57 = .ok (.iload 4, 2) := by decide +kernel
theorem dX8_vertex_59 : decode cX8_vertex 59 = .ok (.invokevirtual 133, 3) := by decide +kernel
theorem dX8_vertex_62 : decode cX8_vertex 62 = .ok (.ireturn, 1) := by decide +kernel
theorem dX8_there_0 : decode cX8_there 0 = .ok (.aload_n 0, 1) := by decide +kernel
theorem dX8_there_1 : decode cX8_there 1 = .ok (.getfield 14, 3) := by decide +kernel
theorem dX8_there_4 : decode cX8_there 4 = .ok (.getfield 102, 3) := by decide +kernel
theorem dX8_there_7 : decode cX8_there 7 = .ok (.astore_n 2, 1) := by decide +kernel
theorem dX8_there_8 : decode cX8_there 8 = .ok (.iload_n 1, 1) := by decide +kernel
theorem dX8_there_9 : decode cX8_there 9 = .ok (.ifCond .lt 20, 3) := by decide +kernel
theorem dX8_there_12 : decode cX8_there 12 = .ok (.iload_n 1, 1) := by decide +kernel
theorem dX8_there_13 : decode cX8_there 13 = .ok (.aload_n 2, 1) := by decide +kernel
theorem dX8_there_14 : decode cX8_there 14 = .ok (.getfield 137, 3) := by decide +kernel
theorem dX8_there_17 : decode cX8_there 17 = .ok (.if_icmp .ge 12, 3) := by decide +kernel
theorem dX8_there_20 : decode cX8_there 20 = .ok (.aload_n 2, 1) := by decide +kernel
theorem dX8_there_21 : decode cX8_there 21 = .ok (.getfield 140, 3) := by decide +kernel
theorem dX8_there_24 : decode cX8_there 24 = .ok (.iload_n 1, 1) := by decide +kernel
theorem dX8_there_25 : decode cX8_there 25 = .ok (.iaload, 1) := by decide +kernel
theorem dX8_there_26 : decode cX8_there 26 = .ok (.goto 4, 3) := by decide +kernel
theorem dX8_there_29 : decode cX8_there 29 = .ok (.iconst (-1), 1) := by decide +kernel
theorem dX8_there_30 : decode cX8_there 30 = .ok (.ireturn, 1) := by decide +kernel
theorem dX8_ceiling_0 : decode cX8_ceiling 0 = .ok (.aload_n 0, 1) := by decide +kernel
theorem dX8_ceiling_1 : decode cX8_ceiling 1 = .ok (.getfield 14, 3) := by decide +kernel
theorem dX8_ceiling_4 : decode cX8_ceiling 4 = .ok (.getfield 102, 3) := by decide +kernel
theorem dX8_ceiling_7 : decode cX8_ceiling 7 = .ok (.astore_n 2, 1) := by decide +kernel
theorem dX8_ceiling_8 : decode cX8_ceiling 8 = .ok (.aload_n 2, 1) := by decide +kernel
theorem dX8_ceiling_9 : decode cX8_ceiling 9 = .ok (.iload_n 1, 1) := by decide +kernel
theorem dX8_ceiling_10 : decode cX8_ceiling 10 = .ok (.invokevirtual 143, 3) := by decide +kernel
theorem dX8_ceiling_13 : decode cX8_ceiling 13 = .ok (.istore_n 3, 1) := by decide +kernel
theorem dX8_ceiling_14 : decode cX8_ceiling 14 = .ok (.iload_n 3, 1) := by decide +kernel
theorem dX8_ceiling_15 : decode cX8_ceiling 15 = .ok (.aload_n 2, 1) := by decide +kernel
theorem dX8_ceiling_16 : decode cX8_ceiling 16 = .ok (.getfield 137, 3) := by decide +kernel
theorem dX8_ceiling_19 : decode cX8_ceiling 19 = .ok (.if_icmp .ge 12, 3) := by decide +kernel
theorem dX8_ceiling_22 : decode cX8_ceiling 22 = .ok (.aload_n 2, 1) := by decide +kernel
theorem dX8_ceiling_23 : decode cX8_ceiling 23 = .ok (.getfield 140, 3) := by decide +kernel
theorem dX8_ceiling_26 : decode cX8_ceiling 26 = .ok (.iload_n 3, 1) := by decide +kernel
theorem dX8_ceiling_27 : decode cX8_ceiling 27 = .ok (.iaload, 1) := by decide +kernel
theorem dX8_ceiling_28 : decode cX8_ceiling 28 = .ok (.goto 4, 3) := by decide +kernel
theorem dX8_ceiling_31 : decode cX8_ceiling 31 = .ok (.iconst (-1), 1) := by decide +kernel
theorem dX8_ceiling_32 : decode cX8_ceiling 32 = .ok (.ireturn, 1) := by decide +kernel
theorem dX8_terms_0 : decode cX8_terms 0 = .ok (.iload_n 1, 1) := by decide +kernel
theorem dX8_terms_1 : decode cX8_terms 1 = .ok (.ifCond .ne 9, 3) := by decide +kernel
theorem dX8_terms_4 : decode cX8_terms 4 = .ok (.sipush 999, 3) := by decide +kernel
theorem dX8_terms_7 : decode cX8_terms 7 = .ok (.goto 24, 3) := by decide +kernel
theorem dX8_terms_10 : decode cX8_terms 10 = .ok (.iload_n 1, 1) := by decide +kernel
theorem dX8_terms_11 : decode cX8_terms 11 = .ok (.iconst 1, 1) := by decide +kernel
theorem dX8_terms_12 : decode cX8_terms 12 = .ok (.if_icmp .ne 8, 3) := by decide +kernel
theorem dX8_terms_15 : decode cX8_terms 15 = .ok (.bipush 10, 2) := by decide +kernel
theorem dX8_terms_17 : decode cX8_terms 17 = .ok (.goto 14, 3) := by decide +kernel
theorem dX8_terms_20 : decode cX8_terms 20 = .ok (.iload_n 1, 1) := by decide +kernel
theorem dX8_terms_21 : decode cX8_terms 21 = .ok (.iconst 2, 1) := by decide +kernel
theorem dX8_terms_22 : decode cX8_terms 22 = .ok (.if_icmp .ne 8, 3) := by decide +kernel
theorem dX8_terms_25 : decode cX8_terms 25 = .ok (.bipush 9, 2) := by decide +kernel
theorem dX8_terms_27 : decode cX8_terms 27 = .ok (.goto 4, 3) := by decide +kernel
theorem dX8_terms_30 : decode cX8_terms 30 = .ok (.iconst (-1), 1) := by decide +kernel
theorem dX8_terms_31 : decode cX8_terms 31 = .ok (.istore_n 3, 1) := by decide +kernel
theorem dX8_terms_32 : decode cX8_terms 32 = .ok (.iload_n 2, 1) := by decide +kernel
theorem dX8_terms_33 : decode cX8_terms 33 = .ok (.ifCond .lt 8, 3) := by decide +kernel
theorem dX8_terms_36 : decode cX8_terms 36 = .ok (.iload_n 2, 1) := by decide +kernel
theorem dX8_terms_37 : decode cX8_terms 37 = .ok (.iload_n 3, 1) := by decide +kernel
theorem dX8_terms_38 : decode cX8_terms 38 = .ok (.if_icmp .le 9, 3) := by decide +kernel
theorem dX8_terms_41 : decode cX8_terms 41 = .ok (.aload_n 0, 1) := by decide +kernel
theorem dX8_terms_42 : decode cX8_terms 42 = .ok (.iconst (-1), 1) := by decide +kernel
theorem dX8_terms_43 : decode cX8_terms 43 = .ok (.invokevirtual 146, 3) := by decide +kernel
theorem dX8_terms_46 : decode cX8_terms 46 = .ok (.ireturn, 1) := by decide +kernel
theorem dX8_terms_47 : decode cX8_terms 47 = .ok (.aload_n 0, 1) := by decide +kernel
theorem dX8_terms_48 : decode cX8_terms 48 = .ok (.getfield 14, 3) := by decide +kernel
theorem dX8_terms_51 : decode cX8_terms 51 = .ok (.getfield 102, 3) := by decide +kernel
theorem dX8_terms_54 : decode cX8_terms 54 = .ok (.getfield 149, 3) := by decide +kernel
theorem dX8_terms_57 : decode cX8_terms 57 = .ok (.iload_n 1, 1) := by decide +kernel
theorem dX8_terms_58 : decode cX8_terms 58 = .ok (.iaload, 1) := by decide +kernel
theorem dX8_terms_59 : decode cX8_terms 59 = .ok (.istore 4, 2) := by decide +kernel
theorem dX8_terms_61 : decode cX8_terms 61 = .ok (.aload_n 0, 1) := by decide +kernel
theorem dX8_terms_62 : decode cX8_terms 62 = .ok (.getfield 14, 3) := by decide +kernel
theorem dX8_terms_65 : decode cX8_terms 65 = .ok (.getfield 102, 3) := by decide +kernel
theorem dX8_terms_68 : decode cX8_terms 68 = .ok (.getfield 149, 3) := by decide +kernel
theorem dX8_terms_71 : decode cX8_terms 71 = .ok (.iload_n 1, 1) := by decide +kernel
theorem dX8_terms_72 : decode cX8_terms 72 = .ok (.iload_n 2, 1) := by decide +kernel
theorem dX8_terms_73 : decode cX8_terms 73 = .ok (.iastore, 1) := by decide +kernel
theorem dX8_terms_74 : decode cX8_terms 74 = .ok (.aload_n 0, 1) := by decide +kernel
theorem dX8_terms_75 : decode cX8_terms 75 = .ok (.getfield 25, 3) := by decide +kernel
theorem dX8_terms_78 : decode cX8_terms 78 = .ok (.invokevirtual 152, 3) := by decide +kernel
theorem dX8_terms_81 : decode cX8_terms 81 = .ok (.aload_n 0, 1) := by decide +kernel
theorem dX8_terms_82 : decode cX8_terms 82 = .ok (.iload 4, 2) := by decide +kernel
theorem dX8_terms_84 : decode cX8_terms 84 = .ok (.invokevirtual 155, 3) := by decide +kernel
theorem dX8_terms_87 : decode cX8_terms 87 = .ok (.ireturn, 1) := by decide +kernel
theorem dX8_feed_0 : decode cX8_feed 0 = .ok (.aload_n 0, 1) := by decide +kernel
theorem dX8_feed_1 : decode cX8_feed 1 = .ok (.getfield 61, 3) := by decide +kernel
theorem dX8_feed_4 : decode cX8_feed 4 = .ok (.getfield 158, 3) := by decide +kernel
theorem dX8_feed_7 : decode cX8_feed 7 = .ok (.bipush 20, 2) := by decide +kernel
theorem dX8_feed_9 : decode cX8_feed 9 = .ok (.iadd, 1) := by decide +kernel
theorem dX8_feed_10 : decode cX8_feed 10 = .ok (.sipush 400, 3) := by decide +kernel
theorem dX8_feed_13 : decode cX8_feed 13 = .ok (.if_icmp .le 5, 3) := by decide +kernel
theorem dX8_feed_16 : decode cX8_feed 16 = .ok (.iconst (-1), 1) := by decide +kernel
theorem dX8_feed_17 : decode cX8_feed 17 = .ok (.ireturn, 1) := by decide +kernel
theorem dX8_feed_18 : decode cX8_feed 18 = .ok (.aload_n 0, 1) := by decide +kernel
theorem dX8_feed_19 : decode cX8_feed 19 = .ok (.getfield 61, 3) := by decide +kernel
theorem dX8_feed_22 : decode cX8_feed 22 = .ok (.iload_n 1, 1) := by decide +kernel
theorem dX8_feed_23 : decode cX8_feed 23 = .ok (.invokevirtual 161, 3) := by decide +kernel
theorem dX8_feed_26 : decode cX8_feed 26 = .ok (.aload_n 0, 1) := by decide +kernel
theorem dX8_feed_27 : decode cX8_feed 27 = .ok (.getfield 61, 3) := by decide +kernel
theorem dX8_feed_30 : decode cX8_feed 30 = .ok (.iload_n 2, 1) := by decide +kernel
theorem dX8_feed_31 : decode cX8_feed 31 = .ok (.invokevirtual 161, 3) := by decide +kernel
theorem dX8_feed_34 : decode cX8_feed 34 = .ok (.aload_n 0, 1) := by decide +kernel
theorem dX8_feed_35 : decode cX8_feed 35 = .ok (.getfield 61, 3) := by decide +kernel
theorem dX8_feed_38 : decode cX8_feed 38 = .ok (.iload_n 3, 1) := by decide +kernel
theorem dX8_feed_39 : decode cX8_feed 39 = .ok (.invokevirtual 161, 3) := by decide +kernel
theorem dX8_feed_42 : decode cX8_feed 42 = .ok (.aload_n 0, 1) := by decide +kernel
theorem dX8_feed_43 : decode cX8_feed 43 = .ok (.getfield 61, 3) := by decide +kernel
theorem dX8_feed_46 : decode cX8_feed 46 = .ok (.iload 4, 2) := by decide +kernel
theorem dX8_feed_48 : decode cX8_feed 48 = .ok (.invokevirtual 161, 3) := by decide +kernel
theorem dX8_feed_51 : decode cX8_feed 51 = .ok (.aload_n 0, 1) := by decide +kernel
theorem dX8_feed_52 : decode cX8_feed 52 = .ok (.getfield 61, 3) := by decide +kernel
theorem dX8_feed_55 : decode cX8_feed 55 = .ok (.iload 5, 2) := by decide +kernel
theorem dX8_feed_57 : decode cX8_feed 57 = .ok (.invokevirtual 161, 3) := by decide +kernel
theorem dX8_feed_60 : decode cX8_feed 60 = .ok (.aload_n 0, 1) := by decide +kernel
theorem dX8_feed_61 : decode cX8_feed 61 = .ok (.getfield 61, 3) := by decide +kernel
theorem dX8_feed_64 : decode cX8_feed 64 = .ok (.getfield 158, 3) := by decide +kernel
theorem dX8_feed_67 : decode cX8_feed 67 = .ok (.ireturn, 1) := by decide +kernel
theorem dX8_end_0 : decode cX8_end 0 = .ok (.iload_n 1, 1) := by decide +kernel
theorem dX8_end_1 : decode cX8_end 1 = .ok (.ifCond .lt 14, 3) := by decide +kernel
theorem dX8_end_4 : decode cX8_end 4 = .ok (.iload_n 1, 1) := by decide +kernel
theorem dX8_end_5 : decode cX8_end 5 = .ok (.aload_n 0, 1) := by decide +kernel
theorem dX8_end_6 : decode cX8_end 6 = .ok (.getfield 61, 3) := by decide +kernel
theorem dX8_end_9 : decode cX8_end 9 = .ok (.getfield 158, 3) := by decide +kernel
theorem dX8_end_12 : decode cX8_end 12 = .ok (.if_icmp .le 5, 3) := by decide +kernel
theorem dX8_end_15 : decode cX8_end 15 = .ok (.iconst (-1), 1) := by decide +kernel
theorem dX8_end_16 : decode cX8_end 16 = .ok (.ireturn, 1) := by decide +kernel
theorem dX8_end_17 : decode cX8_end 17 = .ok (.aload_n 0, 1) := by decide +kernel
theorem dX8_end_18 : decode cX8_end 18 = .ok (.getfield 61, 3) := by decide +kernel
theorem dX8_end_21 : decode cX8_end 21 = .ok (.iload_n 1, 1) := by decide +kernel
theorem dX8_end_22 : decode cX8_end 22 = .ok (.putfield 158, 3) := by decide +kernel
theorem dX8_end_25 : decode cX8_end 25 = .ok (.iload_n 1, 1) := by decide +kernel
theorem dX8_end_26 : decode cX8_end 26 = .ok (.ireturn, 1) := by decide +kernel
theorem dX8_row_0 : decode cX8_row 0 = .ok (.aload_n 0, 1) := by decide +kernel
theorem dX8_row_1 : decode cX8_row 1 = .ok (.getfield 61, 3) := by decide +kernel
theorem dX8_row_4 : decode cX8_row 4 = .ok (.getfield 158, 3) := by decide +kernel
theorem dX8_row_7 : decode cX8_row 7 = .ok (.istore_n 1, 1) := by decide +kernel
theorem dX8_row_8 : decode cX8_row 8 = .ok (.iload_n 1, 1) := by decide +kernel
theorem dX8_row_9 : decode cX8_row 9 = .ok (.ifCond .ne 10, 3) := by decide +kernel
theorem dX8_row_12 : decode cX8_row 12 = .ok (.aload_n 0, 1) := by decide +kernel
theorem dX8_row_13 : decode cX8_row 13 = .ok (.bipush (-6), 2) := by decide +kernel
theorem dX8_row_15 : decode cX8_row 15 = .ok (.invokevirtual 146, 3) := by decide +kernel
theorem dX8_row_18 : decode cX8_row 18 = .ok (.ireturn, 1) := by decide +kernel
theorem dX8_row_19 : decode cX8_row 19 = .ok (.iconst 0, 1) := by decide +kernel
theorem dX8_row_20 : decode cX8_row 20 = .ok (.istore_n 2, 1) := by decide +kernel
theorem dX8_row_21 : decode cX8_row 21 = .ok (.aload_n 0, 1) := by decide +kernel
theorem dX8_row_22 : decode cX8_row 22 = .ok (.iconst 0, 1) := by decide +kernel
theorem dX8_row_23 : decode cX8_row 23 = .ok (.putfield 165, 3) := by decide +kernel
theorem dX8_row_26 : decode cX8_row 26 = .ok (.iconst 0, 1) := by decide +kernel
theorem dX8_row_27 : decode cX8_row 27 = .ok (.istore_n 3, 1) := by decide +kernel
theorem dX8_row_28 : decode cX8_row 28 = .ok (.iload_n 3, 1) := by decide +kernel
theorem dX8_row_29 : decode cX8_row 29 = .ok (.iload_n 1, 1) := by decide +kernel
theorem dX8_row_30 : decode cX8_row 30 = .ok (.if_icmp .ge 81, 3) := by decide +kernel
theorem dX8_row_33 : decode cX8_row 33 = .ok (.iload_n 3, 1) := by decide +kernel
theorem dX8_row_34 : decode cX8_row 34 = .ok (.iconst 1, 1) := by decide +kernel
theorem dX8_row_35 : decode cX8_row 35 = .ok (.iadd, 1) := by decide +kernel
theorem dX8_row_36 : decode cX8_row 36 = .ok (.iload_n 1, 1) := by decide +kernel
theorem dX8_row_37 : decode cX8_row 37 = .ok (.if_icmp .ge 7, 3) := by decide +kernel
theorem dX8_row_40 : decode cX8_row 40 = .ok (.iconst 1, 1) := by decide +kernel
theorem dX8_row_41 : decode cX8_row 41 = .ok (.goto 4, 3) := by decide +kernel
theorem dX8_row_44 : decode cX8_row 44 = .ok (.iconst 0, 1) := by decide +kernel
theorem dX8_row_45 : decode cX8_row 45 = .ok (.istore 4, 2) := by decide +kernel
theorem dX8_row_47 : decode cX8_row 47 = .ok (.iload 4, 2) := by decide +kernel
theorem dX8_row_49 : decode cX8_row 49 = .ok (.ifCond .eq 46, 3) := by decide +kernel
theorem dX8_row_52 : decode cX8_row 52 = .ok (.aload_n 0, 1) := by decide +kernel
theorem dX8_row_53 : decode cX8_row 53 = .ok (.aload_n 0, 1) := by decide +kernel
theorem dX8_row_54 : decode cX8_row 54 = .ok (.getfield 14, 3) := by decide +kernel
theorem dX8_row_57 : decode cX8_row 57 = .ok (.getfield 102, 3) := by decide +kernel
theorem dX8_row_60 : decode cX8_row 60 = .ok (.aload_n 0, 1) := by decide +kernel
theorem dX8_row_61 : decode cX8_row 61 = .ok (.getfield 61, 3) := by decide +kernel
theorem dX8_row_64 : decode cX8_row 64 = .ok (.getfield 168, 3) := by decide +kernel
theorem dX8_row_67 : decode cX8_row 67 = .ok (.iload_n 3, 1) := by decide +kernel
theorem dX8_row_68 : decode cX8_row 68 = .ok (.iaload, 1) := by decide +kernel
theorem dX8_row_69 : decode cX8_row 69 = .ok (.iconst 4, 1) := by decide +kernel
theorem dX8_row_70 : decode cX8_row 70 = .ok (.imul, 1) := by decide +kernel
theorem dX8_row_71 : decode cX8_row 71 = .ok (.aload_n 0, 1) := by decide +kernel
theorem dX8_row_72 : decode cX8_row 72 = .ok (.getfield 61, 3) := by decide +kernel
theorem dX8_row_75 : decode cX8_row 75 = .ok (.getfield 168, 3) := by decide +kernel
theorem dX8_row_78 : decode cX8_row 78 = .ok (.iload_n 3, 1) := by decide +kernel
theorem dX8_row_79 : decode cX8_row 79 = .ok (.iconst 1, 1) := by decide +kernel
theorem dX8_row_80 : decode cX8_row 80 = .ok (.iadd, 1) := by decide +kernel
theorem dX8_row_81 : decode cX8_row 81 = .ok (.iaload, 1) := by decide +kernel
theorem dX8_row_82 : decode cX8_row 82 = .ok (.iadd, 1) := by decide +kernel
theorem dX8_row_83 : decode cX8_row 83 = .ok (.invokevirtual 171, 3) := by decide +kernel
theorem dX8_row_86 : decode cX8_row 86 = .ok (.ifCond .lt 9, 3) := by decide +kernel
theorem dX8_row_89 : decode cX8_row 89 = .ok (.iinc 2 1, 3) := by decide +kernel
theorem dX8_row_92 : decode cX8_row 92 = .ok (.goto 13, 3) := by decide +kernel
theorem dX8_row_95 : decode cX8_row 95 = .ok (.aload_n 0, 1) := by decide +kernel
theorem dX8_row_96 : decode cX8_row 96 = .ok (.dup, 1) := by decide +kernel
theorem dX8_row_97 : decode cX8_row 97 = .ok (.getfield 165, 3) := by decide +kernel
theorem dX8_row_100 : decode cX8_row 100 = .ok (.iconst 1, 1) := by decide +kernel
theorem dX8_row_101 : decode cX8_row 101 = .ok (.iadd, 1) := by decide +kernel
theorem dX8_row_102 : decode cX8_row 102 = .ok (.putfield 165, 3) := by decide +kernel
theorem dX8_row_105 : decode cX8_row 105 = .ok (.iinc 3 2, 3) := by decide +kernel
theorem dX8_row_108 : decode cX8_row 108 = .ok (.goto (-80), 3) := by decide +kernel
theorem dX8_row_111 : decode cX8_row 111 = .ok (.aload_n 0, 1) := by decide +kernel
theorem dX8_row_112 : decode cX8_row 112 = .ok (.getfield 61, 3) := by decide +kernel
theorem dX8_row_115 : decode cX8_row 115 = .ok (.iconst 0, 1) := by decide +kernel
theorem dX8_row_116 : decode cX8_row 116 = .ok (.putfield 158, 3) := by decide +kernel
theorem dX8_row_119 : decode cX8_row 119 = .ok (.aload_n 0, 1) := by decide +kernel
theorem dX8_row_120 : decode cX8_row 120 = .ok (.getfield 25, 3) := by decide +kernel
theorem dX8_row_123 : decode cX8_row 123 = .ok (.invokevirtual 152, 3) := by decide +kernel
theorem dX8_row_126 : decode cX8_row 126 = .ok (.aload_n 0, 1) := by decide +kernel
theorem dX8_row_127 : decode cX8_row 127 = .ok (.iload_n 2, 1) := by decide +kernel
theorem dX8_row_128 : decode cX8_row 128 = .ok (.invokevirtual 155, 3) := by decide +kernel
theorem dX8_row_131 : decode cX8_row 131 = .ok (.ireturn, 1) := by decide +kernel
theorem dX8_blanks_0 : decode cX8_blanks 0 = .ok (.aload_n 0, 1) := by decide +kernel
theorem dX8_blanks_1 : decode cX8_blanks 1 = .ok (.getfield 165, 3) := by decide +kernel
theorem dX8_blanks_4 : decode cX8_blanks 4 = .ok (.ireturn, 1) := by decide +kernel
theorem dX8_law_0 : decode cX8_law 0 = .ok (.aload_n 0, 1) := by decide +kernel
theorem dX8_law_1 : decode cX8_law 1 = .ok (.getfield 14, 3) := by decide +kernel
theorem dX8_law_4 : decode cX8_law 4 = .ok (.getfield 175, 3) := by decide +kernel
theorem dX8_law_7 : decode cX8_law 7 = .ok (.bipush 6, 2) := by decide +kernel
theorem dX8_law_9 : decode cX8_law 9 = .ok (.if_icmp .lt 18, 3) := by decide +kernel
theorem dX8_law_12 : decode cX8_law 12 = .ok (.aload_n 0, 1) := by decide +kernel
theorem dX8_law_13 : decode cX8_law 13 = .ok (.getfield 61, 3) := by decide +kernel
theorem dX8_law_16 : decode cX8_law 16 = .ok (.iconst 0, 1) := by decide +kernel
theorem dX8_law_17 : decode cX8_law 17 = .ok (.putfield 158, 3) := by decide +kernel
theorem dX8_law_20 : decode cX8_law 20 = .ok (.aload_n 0, 1) := by decide +kernel
theorem dX8_law_21 : decode cX8_law 21 = .ok (.bipush (-5), 2) := by decide +kernel
theorem dX8_law_23 : decode cX8_law 23 = .ok (.invokevirtual 146, 3) := by decide +kernel
theorem dX8_law_26 : decode cX8_law 26 = .ok (.ireturn, 1) := by decide +kernel
theorem dX8_law_27 : decode cX8_law 27 = .ok (.aload_n 0, 1) := by decide +kernel
theorem dX8_law_28 : decode cX8_law 28 = .ok (.getfield 61, 3) := by decide +kernel
theorem dX8_law_31 : decode cX8_law 31 = .ok (.iconst 0, 1) := by decide +kernel
theorem dX8_law_32 : decode cX8_law 32 = .ok (.invokevirtual 178, 3) := by decide +kernel
theorem dX8_law_35 : decode cX8_law 35 = .ok (.ifCond .ne 10, 3) := by decide +kernel
theorem dX8_law_38 : decode cX8_law 38 = .ok (.aload_n 0, 1) := by decide +kernel
theorem dX8_law_39 : decode cX8_law 39 = .ok (.bipush (-6), 2) := by decide +kernel
theorem dX8_law_41 : decode cX8_law 41 = .ok (.invokevirtual 146, 3) := by decide +kernel
theorem dX8_law_44 : decode cX8_law 44 = .ok (.ireturn, 1) := by decide +kernel
theorem dX8_law_45 : decode cX8_law 45 = .ok (.aload_n 0, 1) := by decide +kernel
theorem dX8_law_46 : decode cX8_law 46 = .ok (.getfield 14, 3) := by decide +kernel
theorem dX8_law_49 : decode cX8_law 49 = .ok (.getfield 182, 3) := by decide +kernel
theorem dX8_law_52 : decode cX8_law 52 = .ok (.aload_n 0, 1) := by decide +kernel
theorem dX8_law_53 : decode cX8_law 53 = .ok (.getfield 14, 3) := by decide +kernel
theorem dX8_law_56 : decode cX8_law 56 = .ok (.getfield 175, 3) := by decide +kernel
theorem dX8_law_59 : decode cX8_law 59 = .ok (.aload_n 0, 1) := by decide +kernel
theorem dX8_law_60 : decode cX8_law 60 = .ok (.getfield 61, 3) := by decide +kernel
theorem dX8_law_63 : decode cX8_law 63 = .ok (.getfield 186, 3) := by decide +kernel
theorem dX8_law_66 : decode cX8_law 66 = .ok (.invokevirtual 189, 3) := by decide +kernel
theorem dX8_law_69 : decode cX8_law 69 = .ok (.aastore, 1) := by decide +kernel
theorem dX8_law_70 : decode cX8_law 70 = .ok (.aload_n 0, 1) := by decide +kernel
theorem dX8_law_71 : decode cX8_law 71 = .ok (.getfield 14, 3) := by decide +kernel
theorem dX8_law_74 : decode cX8_law 74 = .ok (.dup, 1) := by decide +kernel
theorem dX8_law_75 : decode cX8_law 75 = .ok (.getfield 175, 3) := by decide +kernel
theorem dX8_law_78 : decode cX8_law 78 = .ok (.iconst 1, 1) := by decide +kernel
theorem dX8_law_79 : decode cX8_law 79 = .ok (.iadd, 1) := by decide +kernel
theorem dX8_law_80 : decode cX8_law 80 = .ok (.putfield 175, 3) := by decide +kernel
theorem dX8_law_83 : decode cX8_law 83 = .ok (.aload_n 0, 1) := by decide +kernel
theorem dX8_law_84 : decode cX8_law 84 = .ok (.aload_n 0, 1) := by decide +kernel
theorem dX8_law_85 : decode cX8_law 85 = .ok (.getfield 14, 3) := by decide +kernel
theorem dX8_law_88 : decode cX8_law 88 = .ok (.getfield 175, 3) := by decide +kernel
theorem dX8_law_91 : decode cX8_law 91 = .ok (.iconst 1, 1) := by decide +kernel
theorem dX8_law_92 : decode cX8_law 92 = .ok (.isub, 1) := by decide +kernel
theorem dX8_law_93 : decode cX8_law 93 = .ok (.invokevirtual 155, 3) := by decide +kernel
theorem dX8_law_96 : decode cX8_law 96 = .ok (.ireturn, 1) := by decide +kernel
theorem dX8_orders_0 : decode cX8_orders 0 = .ok (.aload_n 0, 1) := by decide +kernel
theorem dX8_orders_1 : decode cX8_orders 1 = .ok (.iconst (-1), 1) := by decide +kernel
theorem dX8_orders_2 : decode cX8_orders 2 = .ok (.putfield 88, 3) := by decide +kernel
theorem dX8_orders_5 : decode cX8_orders 5 = .ok (.aload_n 0, 1) := by decide +kernel
theorem dX8_orders_6 : decode cX8_orders 6 = .ok (.getfield 61, 3) := by decide +kernel
theorem dX8_orders_9 : decode cX8_orders 9 = .ok (.iconst 1, 1) := by decide +kernel
theorem dX8_orders_10 : decode cX8_orders 10 = .ok (.invokevirtual 178, 3) := by decide +kernel
theorem dX8_orders_13 : decode cX8_orders 13 = .ok (.ifCond .ne 10, 3) := by decide +kernel
theorem dX8_orders_16 : decode cX8_orders 16 = .ok (.aload_n 0, 1) := by decide +kernel
theorem dX8_orders_17 : decode cX8_orders 17 = .ok (.bipush (-6), 2) := by decide +kernel
theorem dX8_orders_19 : decode cX8_orders 19 = .ok (.invokevirtual 146, 3) := by decide +kernel
theorem dX8_orders_22 : decode cX8_orders 22 = .ok (.ireturn, 1) := by decide +kernel
theorem dX8_orders_23 : decode cX8_orders 23 = .ok (.aload_n 0, 1) := by decide +kernel
theorem dX8_orders_24 : decode cX8_orders 24 = .ok (.getfield 61, 3) := by decide +kernel
theorem dX8_orders_27 : decode cX8_orders 27 = .ok (.getfield 186, 3) := by decide +kernel
theorem dX8_orders_30 : decode cX8_orders 30 = .ok (.astore_n 1, 1) := by decide +kernel
theorem dX8_orders_31 : decode cX8_orders 31 = .ok (.aload_n 0, 1) := by decide +kernel
theorem dX8_orders_32 : decode cX8_orders 32 = .ok (.getfield 35, 3) := by decide +kernel
theorem dX8_orders_35 : decode cX8_orders 35 = .ok (.aload_n 0, 1) := by decide +kernel
theorem dX8_orders_36 : decode cX8_orders 36 = .ok (.getfield 14, 3) := by decide +kernel
theorem dX8_orders_39 : decode cX8_orders 39 = .ok (.getfield 102, 3) := by decide +kernel
theorem dX8_orders_42 : decode cX8_orders 42 = .ok (.invokevirtual 192, 3) := by decide +kernel
theorem dX8_orders_45 : decode cX8_orders 45 = .ok (.aload_n 0, 1) := by decide +kernel
theorem dX8_orders_46 : decode cX8_orders 46 = .ok (.getfield 29, 3) := by decide +kernel
theorem dX8_orders_49 : decode cX8_orders 49 = .ok (.invokevirtual 152, 3) := by decide +kernel
theorem dX8_orders_52 : decode cX8_orders 52 = .ok (.iconst 0, 1) := by decide +kernel
theorem dX8_orders_53 : decode cX8_orders 53 = .ok (.istore_n 2, 1) := by decide +kernel
theorem dX8_orders_54 : decode cX8_orders 54 = .ok (.iconst (-1), 1) := by decide +kernel
theorem dX8_orders_55 : decode cX8_orders 55 = .ok (.istore_n 3, 1) := by decide +kernel
theorem dX8_orders_56 : decode cX8_orders 56 = .ok (.iconst 0, 1) := by decide +kernel
theorem dX8_orders_57 : decode cX8_orders 57 = .ok (.istore 4, 2) := by decide +kernel
theorem dX8_orders_59 : decode cX8_orders 59 = .ok (.iload 4, 2) := by decide +kernel
theorem dX8_orders_61 : decode cX8_orders 61 = .ok (.aload_n 1, 1) := by decide +kernel
theorem dX8_orders_62 : decode cX8_orders 62 = .ok (.getfield 196, 3) := by decide +kernel
theorem dX8_orders_65 : decode cX8_orders 65 = .ok (.if_icmp .ge 100, 3) := by decide +kernel
theorem dX8_orders_68 : decode cX8_orders 68 = .ok (.iconst 0, 1) := by decide +kernel
theorem dX8_orders_69 : decode cX8_orders 69 = .ok (.istore 5, 2) := by decide +kernel
theorem dX8_orders_71 : decode cX8_orders 71 = .ok (.iload 5, 2) := by decide +kernel
theorem dX8_orders_73 : decode cX8_orders 73 = .ok (.aload_n 1, 1) := by decide +kernel
theorem dX8_orders_74 : decode cX8_orders 74 = .ok (.getfield 197, 3) := by decide +kernel
theorem dX8_orders_77 : decode cX8_orders 77 = .ok (.iload 4, 2) := by decide +kernel
theorem dX8_orders_79 : decode cX8_orders 79 = .ok (.iaload, 1) := by decide +kernel
theorem dX8_orders_80 : decode cX8_orders 80 = .ok (.if_icmp .ge 79, 3) := by decide +kernel
theorem dX8_orders_83 : decode cX8_orders 83 = .ok (.aload_n 0, 1) := by decide +kernel
theorem dX8_orders_84 : decode cX8_orders 84 = .ok (.aload_n 1, 1) := by decide +kernel
theorem dX8_orders_85 : decode cX8_orders 85 = .ok (.iload 4, 2) := by decide +kernel
theorem dX8_orders_87 : decode cX8_orders 87 = .ok (.iload_n 2, 1) := by decide +kernel
theorem dX8_orders_88 : decode cX8_orders 88 = .ok (.iload_n 3, 1) := by decide +kernel
theorem dX8_orders_89 : decode cX8_orders 89 = .ok (.invokevirtual 200, 3) := by decide +kernel
theorem dX8_orders_92 : decode cX8_orders 92 = .ok (.istore 6, 2) := by decide +kernel
theorem dX8_orders_94 : decode cX8_orders 94 = .ok (.iload 6, 2) := by decide +kernel
theorem dX8_orders_96 : decode cX8_orders 96 = .ok (.ldc 204, 2) := by decide +kernel
theorem dX8_orders_98 : decode cX8_orders 98 = .ok (.if_icmp .ne 6, 3) := by decide +kernel
theorem dX8_orders_101 : decode cX8_orders 101 = .ok (.goto 52, 3) := by decide +kernel
theorem dX8_orders_104 : decode cX8_orders 104 = .ok (.iload 6, 2) := by decide +kernel
theorem dX8_orders_106 : decode cX8_orders 106 = .ok (.ifCond .ge 30, 3) := by decide +kernel
theorem dX8_orders_109 : decode cX8_orders 109 = .ok (.aload_n 0, 1) := by decide +kernel
theorem dX8_orders_110 : decode cX8_orders 110 = .ok (.getfield 14, 3) := by decide +kernel
theorem dX8_orders_113 : decode cX8_orders 113 = .ok (.getfield 102, 3) := by decide +kernel
theorem dX8_orders_116 : decode cX8_orders 116 = .ok (.aload_n 0, 1) := by decide +kernel
theorem dX8_orders_117 : decode cX8_orders 117 = .ok (.getfield 35, 3) := by decide +kernel
theorem dX8_orders_120 : decode cX8_orders 120 = .ok (.invokevirtual 192, 3) := by decide +kernel
theorem dX8_orders_123 : decode cX8_orders 123 = .ok (.aload_n 0, 1) := by decide +kernel
theorem dX8_orders_124 : decode cX8_orders 124 = .ok (.iload 4, 2) := by decide +kernel
theorem dX8_orders_126 : decode cX8_orders 126 = .ok (.putfield 88, 3) := by decide +kernel
theorem dX8_orders_129 : decode cX8_orders 129 = .ok (.aload_n 0, 1) := by decide +kernel
theorem dX8_orders_130 : decode cX8_orders 130 = .ok (.bipush (-3), 2) := by decide +kernel
theorem dX8_orders_132 : decode cX8_orders 132 = .ok (.invokevirtual 146, 3) := by decide +kernel
theorem dX8_orders_135 : decode cX8_orders 135 = .ok (.ireturn, 1) := by decide +kernel
theorem dX8_orders_136 : decode cX8_orders 136 = .ok (.iinc 2 1, 3) := by decide +kernel
theorem dX8_orders_139 : decode cX8_orders 139 = .ok (.aload_n 1, 1) := by decide +kernel
theorem dX8_orders_140 : decode cX8_orders 140 = .ok (.getfield 205, 3) := by decide +kernel
theorem dX8_orders_143 : decode cX8_orders 143 = .ok (.iload 4, 2) := by decide +kernel
theorem dX8_orders_145 : decode cX8_orders 145 = .ok (.iaload, 1) := by decide +kernel
theorem dX8_orders_146 : decode cX8_orders 146 = .ok (.iconst 4, 1) := by decide +kernel
theorem dX8_orders_147 : decode cX8_orders 147 = .ok (.if_icmp .ne 6, 3) := by decide +kernel
theorem dX8_orders_150 : decode cX8_orders 150 = .ok (.iload 6, 2) := by decide +kernel
theorem dX8_orders_152 : decode cX8_orders 152 = .ok (.istore_n 3, 1) := by decide +kernel
theorem dX8_orders_153 : decode cX8_orders 153 = .ok (.iinc 5 1, 3) := by decide +kernel
theorem dX8_orders_156 : decode cX8_orders 156 = .ok (.goto (-85), 3) := by decide +kernel
theorem dX8_orders_159 : decode cX8_orders 159 = .ok (.iinc 4 1, 3) := by decide +kernel
theorem dX8_orders_162 : decode cX8_orders 162 = .ok (.goto (-103), 3) := by decide +kernel
theorem dX8_orders_165 : decode cX8_orders 165 = .ok (.aload_n 0, 1) := by decide +kernel
theorem dX8_orders_166 : decode cX8_orders 166 = .ok (.getfield 25, 3) := by decide +kernel
theorem dX8_orders_169 : decode cX8_orders 169 = .ok (.aload_n 0, 1) := by decide +kernel
theorem dX8_orders_170 : decode cX8_orders 170 = .ok (.getfield 29, 3) := by decide +kernel
theorem dX8_orders_173 : decode cX8_orders 173 = .ok (.invokevirtual 208, 3) := by decide +kernel
theorem dX8_orders_176 : decode cX8_orders 176 = .ok (.aload_n 0, 1) := by decide +kernel
theorem dX8_orders_177 : decode cX8_orders 177 = .ok (.iload_n 2, 1) := by decide +kernel
theorem dX8_orders_178 : decode cX8_orders 178 = .ok (.invokevirtual 155, 3) := by decide +kernel
theorem dX8_orders_181 : decode cX8_orders 181 = .ok (.ireturn, 1) := by decide +kernel
theorem dX8_fault_0 : decode cX8_fault 0 = .ok (.aload_n 0, 1) := by decide +kernel
theorem dX8_fault_1 : decode cX8_fault 1 = .ok (.getfield 61, 3) := by decide +kernel
theorem dX8_fault_4 : decode cX8_fault 4 = .ok (.getfield 212, 3) := by decide +kernel
theorem dX8_fault_7 : decode cX8_fault 7 = .ok (.ireturn, 1) := by decide +kernel
theorem dX8_stopped_0 : decode cX8_stopped 0 = .ok (.aload_n 0, 1) := by decide +kernel
theorem dX8_stopped_1 : decode cX8_stopped 1 = .ok (.getfield 88, 3) := by decide +kernel
theorem dX8_stopped_4 : decode cX8_stopped 4 = .ok (.ireturn, 1) := by decide +kernel
theorem dX8_force_0 : decode cX8_force 0 = .ok (.iload_n 1, 1) := by decide +kernel
theorem dX8_force_1 : decode cX8_force 1 = .ok (.iconst (-1), 1) := by decide +kernel
theorem dX8_force_2 : decode cX8_force 2 = .ok (.if_icmp .lt 14, 3) := by decide +kernel
theorem dX8_force_5 : decode cX8_force 5 = .ok (.iload_n 1, 1) := by decide +kernel
theorem dX8_force_6 : decode cX8_force 6 = .ok (.aload_n 0, 1) := by decide +kernel
theorem dX8_force_7 : decode cX8_force 7 = .ok (.getfield 14, 3) := by decide +kernel
theorem dX8_force_10 : decode cX8_force 10 = .ok (.getfield 175, 3) := by decide +kernel
theorem dX8_force_13 : decode cX8_force 13 = .ok (.if_icmp .lt 10, 3) := by decide +kernel
theorem dX8_force_16 : decode cX8_force 16 = .ok (.aload_n 0, 1) := by decide +kernel
theorem dX8_force_17 : decode cX8_force 17 = .ok (.bipush (-2), 2) := by decide +kernel
theorem dX8_force_19 : decode cX8_force 19 = .ok (.invokevirtual 146, 3) := by decide +kernel
theorem dX8_force_22 : decode cX8_force 22 = .ok (.ireturn, 1) := by decide +kernel
theorem dX8_force_23 : decode cX8_force 23 = .ok (.aload_n 0, 1) := by decide +kernel
theorem dX8_force_24 : decode cX8_force 24 = .ok (.getfield 14, 3) := by decide +kernel
theorem dX8_force_27 : decode cX8_force 27 = .ok (.getfield 215, 3) := by decide +kernel
theorem dX8_force_30 : decode cX8_force 30 = .ok (.istore_n 2, 1) := by decide +kernel
theorem dX8_force_31 : decode cX8_force 31 = .ok (.aload_n 0, 1) := by decide +kernel
theorem dX8_force_32 : decode cX8_force 32 = .ok (.getfield 14, 3) := by decide +kernel
theorem dX8_force_35 : decode cX8_force 35 = .ok (.iload_n 1, 1) := by decide +kernel
theorem dX8_force_36 : decode cX8_force 36 = .ok (.putfield 215, 3) := by decide +kernel
theorem dX8_force_39 : decode cX8_force 39 = .ok (.aload_n 0, 1) := by decide +kernel
theorem dX8_force_40 : decode cX8_force 40 = .ok (.iload_n 2, 1) := by decide +kernel
theorem dX8_force_41 : decode cX8_force 41 = .ok (.invokevirtual 155, 3) := by decide +kernel
theorem dX8_force_44 : decode cX8_force 44 = .ok (.ireturn, 1) := by decide +kernel
theorem dX8_add_0 : decode cX8_add 0 = .ok (.aload_n 0, 1) := by decide +kernel
theorem dX8_add_1 : decode cX8_add 1 = .ok (.iconst 0, 1) := by decide +kernel
theorem dX8_add_2 : decode cX8_add 2 = .ok (.iload_n 1, 1) := by decide +kernel
theorem dX8_add_3 : decode cX8_add 3 = .ok (.invokevirtual 218, 3) := by decide +kernel
theorem dX8_add_6 : decode cX8_add 6 = .ok (.ireturn, 1) := by decide +kernel
theorem dX8_take_0 : decode cX8_take 0 = .ok (.aload_n 0, 1) := by decide +kernel
theorem dX8_take_1 : decode cX8_take 1 = .ok (.iconst 1, 1) := by decide +kernel
theorem dX8_take_2 : decode cX8_take 2 = .ok (.iload_n 1, 1) := by decide +kernel
theorem dX8_take_3 : decode cX8_take 3 = .ok (.invokevirtual 218, 3) := by decide +kernel
theorem dX8_take_6 : decode cX8_take 6 = .ok (.ireturn, 1) := by decide +kernel
theorem dX8_side_0 : decode cX8_side 0 = .ok (.aload_n 0, 1) := by decide +kernel
theorem dX8_side_1 : decode cX8_side 1 = .ok (.iconst 2, 1) := by decide +kernel
theorem dX8_side_2 : decode cX8_side 2 = .ok (.iload_n 1, 1) := by decide +kernel
theorem dX8_side_3 : decode cX8_side 3 = .ok (.invokevirtual 218, 3) := by decide +kernel
theorem dX8_side_6 : decode cX8_side 6 = .ok (.ireturn, 1) := by decide +kernel
theorem dX8_seed_0 : decode cX8_seed 0 = .ok (.aload_n 0, 1) := by decide +kernel
theorem dX8_seed_1 : decode cX8_seed 1 = .ok (.iconst 3, 1) := by decide +kernel
theorem dX8_seed_2 : decode cX8_seed 2 = .ok (.iload_n 1, 1) := by decide +kernel
theorem dX8_seed_3 : decode cX8_seed 3 = .ok (.invokevirtual 218, 3) := by decide +kernel
theorem dX8_seed_6 : decode cX8_seed 6 = .ok (.ireturn, 1) := by decide +kernel
theorem dX8_build_0 : decode cX8_build 0 = .ok (.aload_n 0, 1) := by decide +kernel
theorem dX8_build_1 : decode cX8_build 1 = .ok (.iconst 4, 1) := by decide +kernel
theorem dX8_build_2 : decode cX8_build 2 = .ok (.iconst 0, 1) := by decide +kernel
theorem dX8_build_3 : decode cX8_build 3 = .ok (.invokevirtual 218, 3) := by decide +kernel
theorem dX8_build_6 : decode cX8_build 6 = .ok (.ireturn, 1) := by decide +kernel
theorem dX8_undo_0 : decode cX8_undo 0 = .ok (.aload_n 0, 1) := by decide +kernel
theorem dX8_undo_1 : decode cX8_undo 1 = .ok (.getfield 25, 3) := by decide +kernel
theorem dX8_undo_4 : decode cX8_undo 4 = .ok (.aload_n 0, 1) := by decide +kernel
theorem dX8_undo_5 : decode cX8_undo 5 = .ok (.getfield 14, 3) := by decide +kernel
theorem dX8_undo_8 : decode cX8_undo 8 = .ok (.getfield 102, 3) := by decide +kernel
theorem dX8_undo_11 : decode cX8_undo 11 = .ok (.invokevirtual 222, 3) := by decide +kernel
theorem dX8_undo_14 : decode cX8_undo 14 = .ok (.istore_n 1, 1) := by decide +kernel
theorem dX8_undo_15 : decode cX8_undo 15 = .ok (.iload_n 1, 1) := by decide +kernel
theorem dX8_undo_16 : decode cX8_undo 16 = .ok (.ifCond .ge 11, 3) := by decide +kernel
theorem dX8_undo_19 : decode cX8_undo 19 = .ok (.aload_n 0, 1) := by decide +kernel
theorem dX8_undo_20 : decode cX8_undo 20 = .ok (.iload_n 1, 1) := by decide +kernel
theorem dX8_undo_21 : decode cX8_undo 21 = .ok (.invokevirtual 146, 3) := by decide +kernel
theorem dX8_undo_24 : decode cX8_undo 24 = .ok (.goto 8, 3) := by decide +kernel
theorem dX8_undo_27 : decode cX8_undo 27 = .ok (.aload_n 0, 1) := by decide +kernel
theorem dX8_undo_28 : decode cX8_undo 28 = .ok (.iload_n 1, 1) := by decide +kernel
theorem dX8_undo_29 : decode cX8_undo 29 = .ok (.invokevirtual 155, 3) := by decide +kernel
theorem dX8_undo_32 : decode cX8_undo 32 = .ok (.ireturn, 1) := by decide +kernel
theorem dX8_core_0 : decode cX8_core 0 = .ok (.iload_n 1, 1) := by decide +kernel
theorem dX8_core_1 : decode cX8_core 1 = .ok (.invokestatic 226, 3) := by decide +kernel
theorem dX8_core_4 : decode cX8_core 4 = .ok (.ifCond .eq 31, 3) := by decide +kernel
theorem dX8_core_7 : decode cX8_core 7 = .ok (.aload_n 0, 1) := by decide +kernel
theorem dX8_core_8 : decode cX8_core 8 = .ok (.getfield 54, 3) := by decide +kernel
theorem dX8_core_11 : decode cX8_core 11 = .ok (.aload_n 0, 1) := by decide +kernel
theorem dX8_core_12 : decode cX8_core 12 = .ok (.getfield 14, 3) := by decide +kernel
theorem dX8_core_15 : decode cX8_core 15 = .ok (.getfield 102, 3) := by decide +kernel
theorem dX8_core_18 : decode cX8_core 18 = .ok (.iload_n 1, 1) := by decide +kernel
theorem dX8_core_19 : decode cX8_core 19 = .ok (.aload_n 0, 1) := by decide +kernel
theorem dX8_core_20 : decode cX8_core 20 = .ok (.getfield 14, 3) := by decide +kernel
theorem dX8_core_23 : decode cX8_core 23 = .ok (.getfield 102, 3) := by decide +kernel
theorem dX8_core_26 : decode cX8_core 26 = .ok (.getfield 119, 3) := by decide +kernel
theorem dX8_core_29 : decode cX8_core 29 = .ok (.invokevirtual 229, 3) := by decide +kernel
theorem dX8_core_32 : decode cX8_core 32 = .ok (.goto 4, 3) := by decide +kernel
theorem dX8_core_35 : decode cX8_core 35 = .ok (.iconst (-1), 1) := by decide +kernel
theorem dX8_core_36 : decode cX8_core 36 = .ok (.ireturn, 1) := by decide +kernel
theorem dX8_peeled_0 : decode cX8_peeled 0 = .ok (.aload_n 0, 1) := by decide +kernel
theorem dX8_peeled_1 : decode cX8_peeled 1 = .ok (.getfield 14, 3) := by decide +kernel
theorem dX8_peeled_4 : decode cX8_peeled 4 = .ok (.getfield 102, 3) := by decide +kernel
theorem dX8_peeled_7 : decode cX8_peeled 7 = .ok (.astore_n 3, 1) := by decide +kernel
theorem dX8_peeled_8 : decode cX8_peeled 8 = .ok (.iload_n 1, 1) := by decide +kernel
theorem dX8_peeled_9 : decode cX8_peeled 9 = .ok (.ifCond .lt 20, 3) := by decide +kernel
theorem dX8_peeled_12 : decode cX8_peeled 12 = .ok (.iload_n 1, 1) := by decide +kernel
theorem dX8_peeled_13 : decode cX8_peeled 13 = .ok (.aload_n 3, 1) := by decide +kernel
theorem dX8_peeled_14 : decode cX8_peeled 14 = .ok (.getfield 137, 3) := by decide +kernel
theorem dX8_peeled_17 : decode cX8_peeled 17 = .ok (.if_icmp .ge 12, 3) := by decide +kernel
theorem dX8_peeled_20 : decode cX8_peeled 20 = .ok (.iload_n 2, 1) := by decide +kernel
theorem dX8_peeled_21 : decode cX8_peeled 21 = .ok (.ifCond .lt 8, 3) := by decide +kernel
theorem dX8_peeled_24 : decode cX8_peeled 24 = .ok (.iload_n 2, 1) := by decide +kernel
theorem dX8_peeled_25 : decode cX8_peeled 25 = .ok (.iconst 1, 1) := by decide +kernel
theorem dX8_peeled_26 : decode cX8_peeled 26 = .ok (.if_icmp .le 5, 3) := by decide +kernel
theorem dX8_peeled_29 : decode cX8_peeled 29 = .ok (.iconst (-1), 1) := by decide +kernel
theorem dX8_peeled_30 : decode cX8_peeled 30 = .ok (.ireturn, 1) := by decide +kernel
theorem dX8_peeled_31 : decode cX8_peeled 31 = .ok (.aload_n 0, 1) := by decide +kernel
theorem dX8_peeled_32 : decode cX8_peeled 32 = .ok (.getfield 54, 3) := by decide +kernel
theorem dX8_peeled_35 : decode cX8_peeled 35 = .ok (.aload_n 3, 1) := by decide +kernel
theorem dX8_peeled_36 : decode cX8_peeled 36 = .ok (.aload_n 3, 1) := by decide +kernel
theorem dX8_peeled_37 : decode cX8_peeled 37 = .ok (.getfield 116, 3) := by decide +kernel
theorem dX8_peeled_40 : decode cX8_peeled 40 = .ok (.aload_n 0, 1) := by decide +kernel
theorem dX8_peeled_41 : decode cX8_peeled 41 = .ok (.invokevirtual 108, 3) := by decide +kernel
theorem dX8_peeled_44 : decode cX8_peeled 44 = .ok (.invokevirtual 233, 3) := by decide +kernel
theorem dX8_peeled_47 : decode cX8_peeled 47 = .ok (.iload_n 1, 1) := by decide +kernel
theorem dX8_peeled_48 : decode cX8_peeled 48 = .ok (.aload_n 0, 1) := by decide +kernel
theorem dX8_peeled_49 : decode cX8_peeled 49 = .ok (.getfield 54, 3) := by decide +kernel
theorem dX8_peeled_52 : decode cX8_peeled 52 = .ok (.getfield 237, 3) := by decide +kernel
theorem dX8_peeled_55 : decode cX8_peeled 55 = .ok (.if_icmp .lt 5, 3) := by decide +kernel
theorem dX8_peeled_58 : decode cX8_peeled 58 = .ok (.iconst (-1), 1) := by decide +kernel
theorem dX8_peeled_59 : decode cX8_peeled 59 = .ok (.ireturn, 1) := by decide +kernel
theorem dX8_peeled_60 : decode cX8_peeled 60 = .ok (.iload_n 2, 1) := by decide +kernel
theorem dX8_peeled_61 : decode cX8_peeled 61 = .ok (.ifCond .ne 20, 3) := by decide +kernel
theorem dX8_peeled_64 : decode cX8_peeled 64 = .ok (.aload_n 3, 1) := by decide +kernel
theorem dX8_peeled_65 : decode cX8_peeled 65 = .ok (.getfield 140, 3) := by decide +kernel
theorem dX8_peeled_68 : decode cX8_peeled 68 = .ok (.aload_n 0, 1) := by decide +kernel
theorem dX8_peeled_69 : decode cX8_peeled 69 = .ok (.getfield 54, 3) := by decide +kernel
theorem dX8_peeled_72 : decode cX8_peeled 72 = .ok (.getfield 240, 3) := by decide +kernel
theorem dX8_peeled_75 : decode cX8_peeled 75 = .ok (.iload_n 1, 1) := by decide +kernel
theorem dX8_peeled_76 : decode cX8_peeled 76 = .ok (.iaload, 1) := by decide +kernel
theorem dX8_peeled_77 : decode cX8_peeled 77 = .ok (.iaload, 1) := by decide +kernel
theorem dX8_peeled_78 : decode cX8_peeled 78 = .ok (.goto 12, 3) := by decide +kernel
theorem dX8_peeled_81 : decode cX8_peeled 81 = .ok (.aload_n 0, 1) := by decide +kernel
theorem dX8_peeled_82 : decode cX8_peeled 82 = .ok (.getfield 54, 3) := by decide +kernel
theorem dX8_peeled_85 : decode cX8_peeled 85 = .ok (.getfield 243, 3) := by decide +kernel
theorem dX8_peeled_88 : decode cX8_peeled 88 = .ok (.iload_n 1, 1) := by decide +kernel
theorem dX8_peeled_89 : decode cX8_peeled 89 = .ok (.iaload, 1) := by decide +kernel
theorem dX8_peeled_90 : decode cX8_peeled 90 = .ok (.ireturn, 1) := by decide +kernel
theorem dX8_good_0 : decode cX8_good 0 = .ok (.iload_n 1, 1) := by decide +kernel
theorem dX8_good_1 : decode cX8_good 1 = .ok (.iconst (-1), 1) := by decide +kernel
theorem dX8_good_2 : decode cX8_good 2 = .ok (.if_icmp .ge 5, 3) := by decide +kernel
theorem dX8_good_5 : decode cX8_good 5 = .ok (.iconst (-1), 1) := by decide +kernel
theorem dX8_good_6 : decode cX8_good 6 = .ok (.ireturn, 1) := by decide +kernel
theorem dX8_good_7 : decode cX8_good 7 = .ok (.iconst 0, 1) := by decide +kernel
theorem dX8_good_8 : decode cX8_good 8 = .ok (.istore_n 2, 1) := by decide +kernel
theorem dX8_good_9 : decode cX8_good 9 = .ok (.iconst 0, 1) := by decide +kernel
theorem dX8_good_10 : decode cX8_good 10 = .ok (.istore_n 3, 1) := by decide +kernel
theorem dX8_good_11 : decode cX8_good 11 = .ok (.iload_n 3, 1) := by decide +kernel
theorem dX8_good_12 : decode cX8_good 12 = .ok (.sipush 256, 3) := by decide +kernel
theorem dX8_good_15 : decode cX8_good 15 = .ok (.if_icmp .ge 50, 3) := by decide +kernel
theorem dX8_good_18 : decode cX8_good 18 = .ok (.aload_n 0, 1) := by decide +kernel
theorem dX8_good_19 : decode cX8_good 19 = .ok (.getfield 54, 3) := by decide +kernel
theorem dX8_good_22 : decode cX8_good 22 = .ok (.aload_n 0, 1) := by decide +kernel
theorem dX8_good_23 : decode cX8_good 23 = .ok (.getfield 14, 3) := by decide +kernel
theorem dX8_good_26 : decode cX8_good 26 = .ok (.getfield 102, 3) := by decide +kernel
theorem dX8_good_29 : decode cX8_good 29 = .ok (.iload_n 3, 1) := by decide +kernel
theorem dX8_good_30 : decode cX8_good 30 = .ok (.aload_n 0, 1) := by decide +kernel
theorem dX8_good_31 : decode cX8_good 31 = .ok (.getfield 14, 3) := by decide +kernel
theorem dX8_good_34 : decode cX8_good 34 = .ok (.getfield 102, 3) := by decide +kernel
theorem dX8_good_37 : decode cX8_good 37 = .ok (.getfield 119, 3) := by decide +kernel
theorem dX8_good_40 : decode cX8_good 40 = .ok (.invokevirtual 246, 3) := by decide +kernel
theorem dX8_good_43 : decode cX8_good 43 = .ok (.ifCond .ne 6, 3) := by decide +kernel
theorem dX8_good_46 : decode cX8_good 46 = .ok (.goto 13, 3) := by decide +kernel
theorem dX8_good_49 : decode cX8_good 49 = .ok (.iload_n 2, 1) := by decide +kernel
theorem dX8_good_50 : decode cX8_good 50 = .ok (.iload_n 1, 1) := by decide +kernel
theorem dX8_good_51 : decode cX8_good 51 = .ok (.if_icmp .ne 5, 3) := by decide +kernel
theorem dX8_good_54 : decode cX8_good 54 = .ok (.iload_n 3, 1) := by decide +kernel
theorem dX8_good_55 : decode cX8_good 55 = .ok (.ireturn, 1) := by decide +kernel
theorem dX8_good_56 : decode cX8_good 56 = .ok (.iinc 2 1, 3) := by decide +kernel
theorem dX8_good_59 : decode cX8_good 59 = .ok (.iinc 3 1, 3) := by decide +kernel
theorem dX8_good_62 : decode cX8_good 62 = .ok (.goto (-51), 3) := by decide +kernel
theorem dX8_good_65 : decode cX8_good 65 = .ok (.iload_n 1, 1) := by decide +kernel
theorem dX8_good_66 : decode cX8_good 66 = .ok (.iconst (-1), 1) := by decide +kernel
theorem dX8_good_67 : decode cX8_good 67 = .ok (.if_icmp .ne 7, 3) := by decide +kernel
theorem dX8_good_70 : decode cX8_good 70 = .ok (.iload_n 2, 1) := by decide +kernel
theorem dX8_good_71 : decode cX8_good 71 = .ok (.goto 4, 3) := by decide +kernel
theorem dX8_good_74 : decode cX8_good 74 = .ok (.iconst (-1), 1) := by decide +kernel
theorem dX8_good_75 : decode cX8_good 75 = .ok (.ireturn, 1) := by decide +kernel
theorem dX8_leastSide_0 : decode cX8_leastSide 0 = .ok (.iconst 2, 1) := by decide +kernel
theorem dX8_leastSide_1 : decode cX8_leastSide 1 = .ok (.istore_n 1, 1) := by decide +kernel
theorem dX8_leastSide_2 : decode cX8_leastSide 2 = .ok (.iload_n 1, 1) := by decide +kernel
theorem dX8_leastSide_3 : decode cX8_leastSide 3 = .ok (.bipush 20, 2) := by decide +kernel
theorem dX8_leastSide_5 : decode cX8_leastSide 5 = .ok (.if_icmp .gt 44, 3) := by decide +kernel
theorem dX8_leastSide_8 : decode cX8_leastSide 8 = .ok (.iconst 0, 1) := by decide +kernel
theorem dX8_leastSide_9 : decode cX8_leastSide 9 = .ok (.istore_n 2, 1) := by decide +kernel
theorem dX8_leastSide_10 : decode cX8_leastSide 10 = .ok (.iload_n 2, 1) := by decide +kernel
theorem dX8_leastSide_11 : decode cX8_leastSide 11 = .ok (.bipush 16, 2) := by decide +kernel
theorem dX8_leastSide_13 : decode cX8_leastSide 13 = .ok (.if_icmp .ge 30, 3) := by decide +kernel
theorem dX8_leastSide_16 : decode cX8_leastSide 16 = .ok (.aload_n 0, 1) := by decide +kernel
theorem dX8_leastSide_17 : decode cX8_leastSide 17 = .ok (.getfield 54, 3) := by decide +kernel
theorem dX8_leastSide_20 : decode cX8_leastSide 20 = .ok (.aload_n 0, 1) := by decide +kernel
theorem dX8_leastSide_21 : decode cX8_leastSide 21 = .ok (.getfield 14, 3) := by decide +kernel
theorem dX8_leastSide_24 : decode cX8_leastSide 24 = .ok (.getfield 102, 3) := by decide +kernel
theorem dX8_leastSide_27 : decode cX8_leastSide 27 = .ok (.iload_n 2, 1) := by decide +kernel
theorem dX8_leastSide_28 : decode cX8_leastSide 28 = .ok (.iload_n 1, 1) := by decide +kernel
theorem dX8_leastSide_29 : decode cX8_leastSide 29 = .ok (.invokevirtual 246, 3) := by decide +kernel
theorem dX8_leastSide_32 : decode cX8_leastSide 32 = .ok (.ifCond .eq 5, 3) := by decide +kernel
theorem dX8_leastSide_35 : decode cX8_leastSide 35 = .ok (.iload_n 1, 1) := by decide +kernel
theorem dX8_leastSide_36 : decode cX8_leastSide 36 = .ok (.ireturn, 1) := by decide +kernel
theorem dX8_leastSide_37 : decode cX8_leastSide 37 = .ok (.iinc 2 1, 3) := by decide +kernel
theorem dX8_leastSide_40 : decode cX8_leastSide 40 = .ok (.goto (-30), 3) := by decide +kernel
theorem dX8_leastSide_43 : decode cX8_leastSide 43 = .ok (.iinc 1 1, 3) := by decide +kernel
theorem dX8_leastSide_46 : decode cX8_leastSide 46 = .ok (.goto (-44), 3) := by decide +kernel
theorem dX8_leastSide_49 : decode cX8_leastSide 49 = .ok (.iconst (-1), 1) := by decide +kernel
theorem dX8_leastSide_50 : decode cX8_leastSide 50 = .ok (.ireturn, 1) := by decide +kernel
theorem dX8_found_0 : decode cX8_found 0 = .ok (.aload_n 0, 1) := by decide +kernel
theorem dX8_found_1 : decode cX8_found 1 = .ok (.getfield 14, 3) := by decide +kernel
theorem dX8_found_4 : decode cX8_found 4 = .ok (.getfield 102, 3) := by decide +kernel
theorem dX8_found_7 : decode cX8_found 7 = .ok (.getfield 250, 3) := by decide +kernel
theorem dX8_found_10 : decode cX8_found 10 = .ok (.astore_n 3, 1) := by decide +kernel
theorem dX8_found_11 : decode cX8_found 11 = .ok (.aload_n 3, 1) := by decide +kernel
theorem dX8_found_12 : decode cX8_found 12 = .ok (.getfield 254, 3) := by decide +kernel
theorem dX8_found_15 : decode cX8_found 15 = .ok (.ifCond .eq 10, 3) := by decide +kernel
theorem dX8_found_18 : decode cX8_found 18 = .ok (.iload_n 1, 1) := by decide +kernel
theorem dX8_found_19 : decode cX8_found 19 = .ok (.invokestatic 98, 3) := by decide +kernel
theorem dX8_found_22 : decode cX8_found 22 = .ok (.ifCond .ne 5, 3) := by decide +kernel
theorem dX8_found_25 : decode cX8_found 25 = .ok (.iconst (-1), 1) := by decide +kernel
theorem dX8_found_26 : decode cX8_found 26 = .ok (.ireturn, 1) := by decide +kernel
theorem dX8_found_27 : decode cX8_found 27 = .ok (.iload_n 2, 1) := by decide +kernel
theorem dX8_found_28 : decode cX8_found 28 = .ok (.tableswitch 46 0 2 #[28, 34, 40], 28) := by decide +kernel
theorem dX8_found_56 : decode cX8_found 56 = .ok (.aload_n 3, 1) := by decide +kernel
theorem dX8_found_57 : decode cX8_found 57 = .ok (.iload_n 1, 1) := by decide +kernel
theorem dX8_found_58 : decode cX8_found 58 = .ok (.invokevirtual 260, 3) := by decide +kernel
theorem dX8_found_61 : decode cX8_found 61 = .ok (.ireturn, 1) := by decide +kernel
theorem dX8_found_62 : decode cX8_found 62 = .ok (.aload_n 3, 1) := by decide +kernel
theorem dX8_found_63 : decode cX8_found 63 = .ok (.iload_n 1, 1) := by decide +kernel
theorem dX8_found_64 : decode cX8_found 64 = .ok (.invokevirtual 263, 3) := by decide +kernel
theorem dX8_found_67 : decode cX8_found 67 = .ok (.ireturn, 1) := by decide +kernel
theorem dX8_found_68 : decode cX8_found 68 = .ok (.aload_n 3, 1) := by decide +kernel
theorem dX8_found_69 : decode cX8_found 69 = .ok (.iload_n 1, 1) := by decide +kernel
theorem dX8_found_70 : decode cX8_found 70 = .ok (.invokevirtual 266, 3) := by decide +kernel
theorem dX8_found_73 : decode cX8_found 73 = .ok (.ireturn, 1) := by decide +kernel
theorem dX8_found_74 : decode cX8_found 74 = .ok (.iconst (-1), 1) := by decide +kernel
theorem dX8_found_75 : decode cX8_found 75 = .ok (.ireturn, 1) := by decide +kernel
theorem dX8_table_0 : decode cX8_table 0 = .ok (.aload_n 0, 1) := by decide +kernel
theorem dX8_table_1 : decode cX8_table 1 = .ok (.getfield 14, 3) := by decide +kernel
theorem dX8_table_4 : decode cX8_table 4 = .ok (.getfield 102, 3) := by decide +kernel
theorem dX8_table_7 : decode cX8_table 7 = .ok (.getfield 250, 3) := by decide +kernel
theorem dX8_table_10 : decode cX8_table 10 = .ok (.astore_n 2, 1) := by decide +kernel
theorem dX8_table_11 : decode cX8_table 11 = .ok (.aload_n 2, 1) := by decide +kernel
theorem dX8_table_12 : decode cX8_table 12 = .ok (.getfield 254, 3) := by decide +kernel
theorem dX8_table_15 : decode cX8_table 15 = .ok (.ifCond .eq 7, 3) := by decide +kernel
theorem dX8_table_18 : decode cX8_table 18 = .ok (.iload_n 1, 1) := by decide +kernel
theorem dX8_table_19 : decode cX8_table 19 = .ok (.ifCond .ge 5, 3) := by decide +kernel
theorem dX8_table_22 : decode cX8_table 22 = .ok (.iconst (-1), 1) := by decide +kernel
theorem dX8_table_23 : decode cX8_table 23 = .ok (.ireturn, 1) := by decide +kernel
theorem dX8_table_24 : decode cX8_table 24 = .ok (.iload_n 1, 1) := by decide +kernel
theorem dX8_table_25 : decode cX8_table 25 = .ok (.tableswitch 53 0 3 #[31, 36, 41, 46], 31) := by decide +kernel
theorem dX8_table_56 : decode cX8_table 56 = .ok (.aload_n 2, 1) := by decide +kernel
theorem dX8_table_57 : decode cX8_table 57 = .ok (.getfield 269, 3) := by decide +kernel
theorem dX8_table_60 : decode cX8_table 60 = .ok (.ireturn, 1) := by decide +kernel
theorem dX8_table_61 : decode cX8_table 61 = .ok (.aload_n 2, 1) := by decide +kernel
theorem dX8_table_62 : decode cX8_table 62 = .ok (.getfield 270, 3) := by decide +kernel
theorem dX8_table_65 : decode cX8_table 65 = .ok (.ireturn, 1) := by decide +kernel
theorem dX8_table_66 : decode cX8_table 66 = .ok (.aload_n 2, 1) := by decide +kernel
theorem dX8_table_67 : decode cX8_table 67 = .ok (.getfield 271, 3) := by decide +kernel
theorem dX8_table_70 : decode cX8_table 70 = .ok (.ireturn, 1) := by decide +kernel
theorem dX8_table_71 : decode cX8_table 71 = .ok (.aload_n 2, 1) := by decide +kernel
theorem dX8_table_72 : decode cX8_table 72 = .ok (.bipush 60, 2) := by decide +kernel
theorem dX8_table_74 : decode cX8_table 74 = .ok (.invokevirtual 272, 3) := by decide +kernel
theorem dX8_table_77 : decode cX8_table 77 = .ok (.ireturn, 1) := by decide +kernel
theorem dX8_table_78 : decode cX8_table 78 = .ok (.iload_n 1, 1) := by decide +kernel
theorem dX8_table_79 : decode cX8_table 79 = .ok (.bipush 64, 2) := by decide +kernel
theorem dX8_table_81 : decode cX8_table 81 = .ok (.if_icmp .ge 13, 3) := by decide +kernel
theorem dX8_table_84 : decode cX8_table 84 = .ok (.aload_n 2, 1) := by decide +kernel
theorem dX8_table_85 : decode cX8_table 85 = .ok (.iload_n 1, 1) := by decide +kernel
theorem dX8_table_86 : decode cX8_table 86 = .ok (.iconst 4, 1) := by decide +kernel
theorem dX8_table_87 : decode cX8_table 87 = .ok (.isub, 1) := by decide +kernel
theorem dX8_table_88 : decode cX8_table 88 = .ok (.invokevirtual 275, 3) := by decide +kernel
theorem dX8_table_91 : decode cX8_table 91 = .ok (.goto 13, 3) := by decide +kernel
theorem dX8_table_94 : decode cX8_table 94 = .ok (.aload_n 2, 1) := by decide +kernel
theorem dX8_table_95 : decode cX8_table 95 = .ok (.iload_n 1, 1) := by decide +kernel
theorem dX8_table_96 : decode cX8_table 96 = .ok (.iconst 4, 1) := by decide +kernel
theorem dX8_table_97 : decode cX8_table 97 = .ok (.isub, 1) := by decide +kernel
theorem dX8_table_98 : decode cX8_table 98 = .ok (.bipush 60, 2) := by decide +kernel
theorem dX8_table_100 : decode cX8_table 100 = .ok (.isub, 1) := by decide +kernel
theorem dX8_table_101 : decode cX8_table 101 = .ok (.invokevirtual 278, 3) := by decide +kernel
theorem dX8_table_104 : decode cX8_table 104 = .ok (.ireturn, 1) := by decide +kernel
theorem dX8_twin_0 : decode cX8_twin 0 = .ok (.aload_n 0, 1) := by decide +kernel
theorem dX8_twin_1 : decode cX8_twin 1 = .ok (.getfield 14, 3) := by decide +kernel
theorem dX8_twin_4 : decode cX8_twin 4 = .ok (.getfield 102, 3) := by decide +kernel
theorem dX8_twin_7 : decode cX8_twin 7 = .ok (.getfield 250, 3) := by decide +kernel
theorem dX8_twin_10 : decode cX8_twin 10 = .ok (.astore_n 2, 1) := by decide +kernel
theorem dX8_twin_11 : decode cX8_twin 11 = .ok (.aload_n 2, 1) := by decide +kernel
theorem dX8_twin_12 : decode cX8_twin 12 = .ok (.getfield 254, 3) := by decide +kernel
theorem dX8_twin_15 : decode cX8_twin 15 = .ok (.ifCond .eq 18, 3) := by decide +kernel
theorem dX8_twin_18 : decode cX8_twin 18 = .ok (.iload_n 1, 1) := by decide +kernel
theorem dX8_twin_19 : decode cX8_twin 19 = .ok (.invokestatic 98, 3) := by decide +kernel
theorem dX8_twin_22 : decode cX8_twin 22 = .ok (.ifCond .eq 11, 3) := by decide +kernel
theorem dX8_twin_25 : decode cX8_twin 25 = .ok (.aload_n 2, 1) := by decide +kernel
theorem dX8_twin_26 : decode cX8_twin 26 = .ok (.iload_n 1, 1) := by decide +kernel
theorem dX8_twin_27 : decode cX8_twin 27 = .ok (.invokevirtual 281, 3) := by decide +kernel
theorem dX8_twin_30 : decode cX8_twin 30 = .ok (.ifCond .eq 5, 3) := by decide +kernel
theorem dX8_twin_33 : decode cX8_twin 33 = .ok (.iconst (-1), 1) := by decide +kernel
theorem dX8_twin_34 : decode cX8_twin 34 = .ok (.ireturn, 1) := by decide +kernel
theorem dX8_twin_35 : decode cX8_twin 35 = .ok (.aload_n 2, 1) := by decide +kernel
theorem dX8_twin_36 : decode cX8_twin 36 = .ok (.iload_n 1, 1) := by decide +kernel
theorem dX8_twin_37 : decode cX8_twin 37 = .ok (.invokevirtual 263, 3) := by decide +kernel
theorem dX8_twin_40 : decode cX8_twin 40 = .ok (.istore_n 3, 1) := by decide +kernel
theorem dX8_twin_41 : decode cX8_twin 41 = .ok (.iconst 0, 1) := by decide +kernel
theorem dX8_twin_42 : decode cX8_twin 42 = .ok (.istore 4, 2) := by decide +kernel
theorem dX8_twin_44 : decode cX8_twin 44 = .ok (.iload 4, 2) := by decide +kernel
theorem dX8_twin_46 : decode cX8_twin 46 = .ok (.aload_n 2, 1) := by decide +kernel
theorem dX8_twin_47 : decode cX8_twin 47 = .ok (.getfield 271, 3) := by decide +kernel
theorem dX8_twin_50 : decode cX8_twin 50 = .ok (.if_icmp .ge 32, 3) := by decide +kernel
theorem dX8_twin_53 : decode cX8_twin 53 = .ok (.aload_n 2, 1) := by decide +kernel
theorem dX8_twin_54 : decode cX8_twin 54 = .ok (.aload_n 2, 1) := by decide +kernel
theorem dX8_twin_55 : decode cX8_twin 55 = .ok (.getfield 284, 3) := by decide +kernel
theorem dX8_twin_58 : decode cX8_twin 58 = .ok (.iload 4, 2) := by decide +kernel
theorem dX8_twin_60 : decode cX8_twin 60 = .ok (.iaload, 1) := by decide +kernel
theorem dX8_twin_61 : decode cX8_twin 61 = .ok (.invokevirtual 263, 3) := by decide +kernel
theorem dX8_twin_64 : decode cX8_twin 64 = .ok (.iload_n 3, 1) := by decide +kernel
theorem dX8_twin_65 : decode cX8_twin 65 = .ok (.if_icmp .ne 11, 3) := by decide +kernel
theorem dX8_twin_68 : decode cX8_twin 68 = .ok (.aload_n 2, 1) := by decide +kernel
theorem dX8_twin_69 : decode cX8_twin 69 = .ok (.getfield 284, 3) := by decide +kernel
theorem dX8_twin_72 : decode cX8_twin 72 = .ok (.iload 4, 2) := by decide +kernel
theorem dX8_twin_74 : decode cX8_twin 74 = .ok (.iaload, 1) := by decide +kernel
theorem dX8_twin_75 : decode cX8_twin 75 = .ok (.ireturn, 1) := by decide +kernel
theorem dX8_twin_76 : decode cX8_twin 76 = .ok (.iinc 4 1, 3) := by decide +kernel
theorem dX8_twin_79 : decode cX8_twin 79 = .ok (.goto (-35), 3) := by decide +kernel
theorem dX8_twin_82 : decode cX8_twin 82 = .ok (.iconst (-1), 1) := by decide +kernel
theorem dX8_twin_83 : decode cX8_twin 83 = .ok (.ireturn, 1) := by decide +kernel
theorem dX8_seen_0 : decode cX8_seen 0 = .ok (.iload_n 1, 1) := by decide +kernel
theorem dX8_seen_1 : decode cX8_seen 1 = .ok (.ifCond .lt 18, 3) := by decide +kernel
theorem dX8_seen_4 : decode cX8_seen 4 = .ok (.iload_n 1, 1) := by decide +kernel
theorem dX8_seen_5 : decode cX8_seen 5 = .ok (.bipush 60, 2) := by decide +kernel
theorem dX8_seen_7 : decode cX8_seen 7 = .ok (.if_icmp .ge 12, 3) := by decide +kernel
theorem dX8_seen_10 : decode cX8_seen 10 = .ok (.iload_n 2, 1) := by decide +kernel
theorem dX8_seen_11 : decode cX8_seen 11 = .ok (.ifCond .lt 8, 3) := by decide +kernel
theorem dX8_seen_14 : decode cX8_seen 14 = .ok (.iload_n 2, 1) := by decide +kernel
theorem dX8_seen_15 : decode cX8_seen 15 = .ok (.iconst 1, 1) := by decide +kernel
theorem dX8_seen_16 : decode cX8_seen 16 = .ok (.if_icmp .le 9, 3) := by decide +kernel
theorem dX8_seen_19 : decode cX8_seen 19 = .ok (.aload_n 0, 1) := by decide +kernel
theorem dX8_seen_20 : decode cX8_seen 20 = .ok (.iconst (-1), 1) := by decide +kernel
theorem dX8_seen_21 : decode cX8_seen 21 = .ok (.invokevirtual 146, 3) := by decide +kernel
theorem dX8_seen_24 : decode cX8_seen 24 = .ok (.ireturn, 1) := by decide +kernel
theorem dX8_seen_25 : decode cX8_seen 25 = .ok (.aload_n 0, 1) := by decide +kernel
theorem dX8_seen_26 : decode cX8_seen 26 = .ok (.getfield 14, 3) := by decide +kernel
theorem dX8_seen_29 : decode cX8_seen 29 = .ok (.getfield 285, 3) := by decide +kernel
theorem dX8_seen_32 : decode cX8_seen 32 = .ok (.bipush 6, 2) := by decide +kernel
theorem dX8_seen_34 : decode cX8_seen 34 = .ok (.if_icmp .lt 10, 3) := by decide +kernel
theorem dX8_seen_37 : decode cX8_seen 37 = .ok (.aload_n 0, 1) := by decide +kernel
theorem dX8_seen_38 : decode cX8_seen 38 = .ok (.bipush (-5), 2) := by decide +kernel
theorem dX8_seen_40 : decode cX8_seen 40 = .ok (.invokevirtual 146, 3) := by decide +kernel
theorem dX8_seen_43 : decode cX8_seen 43 = .ok (.ireturn, 1) := by decide +kernel
theorem dX8_seen_44 : decode cX8_seen 44 = .ok (.aload_n 0, 1) := by decide +kernel
theorem dX8_seen_45 : decode cX8_seen 45 = .ok (.getfield 14, 3) := by decide +kernel
theorem dX8_seen_48 : decode cX8_seen 48 = .ok (.getfield 288, 3) := by decide +kernel
theorem dX8_seen_51 : decode cX8_seen 51 = .ok (.aload_n 0, 1) := by decide +kernel
theorem dX8_seen_52 : decode cX8_seen 52 = .ok (.getfield 14, 3) := by decide +kernel
theorem dX8_seen_55 : decode cX8_seen 55 = .ok (.getfield 285, 3) := by decide +kernel
theorem dX8_seen_58 : decode cX8_seen 58 = .ok (.iload_n 1, 1) := by decide +kernel
theorem dX8_seen_59 : decode cX8_seen 59 = .ok (.iastore, 1) := by decide +kernel
theorem dX8_seen_60 : decode cX8_seen 60 = .ok (.aload_n 0, 1) := by decide +kernel
theorem dX8_seen_61 : decode cX8_seen 61 = .ok (.getfield 14, 3) := by decide +kernel
theorem dX8_seen_64 : decode cX8_seen 64 = .ok (.getfield 291, 3) := by decide +kernel
theorem dX8_seen_67 : decode cX8_seen 67 = .ok (.aload_n 0, 1) := by decide +kernel
theorem dX8_seen_68 : decode cX8_seen 68 = .ok (.getfield 14, 3) := by decide +kernel
theorem dX8_seen_71 : decode cX8_seen 71 = .ok (.getfield 285, 3) := by decide +kernel
theorem dX8_seen_74 : decode cX8_seen 74 = .ok (.iload_n 2, 1) := by decide +kernel
theorem dX8_seen_75 : decode cX8_seen 75 = .ok (.iastore, 1) := by decide +kernel
theorem dX8_seen_76 : decode cX8_seen 76 = .ok (.aload_n 0, 1) := by decide +kernel
theorem dX8_seen_77 : decode cX8_seen 77 = .ok (.getfield 14, 3) := by decide +kernel
theorem dX8_seen_80 : decode cX8_seen 80 = .ok (.dup, 1) := by decide +kernel
theorem dX8_seen_81 : decode cX8_seen 81 = .ok (.getfield 285, 3) := by decide +kernel
theorem dX8_seen_84 : decode cX8_seen 84 = .ok (.iconst 1, 1) := by decide +kernel
theorem dX8_seen_85 : decode cX8_seen 85 = .ok (.iadd, 1) := by decide +kernel
theorem dX8_seen_86 : decode cX8_seen 86 = .ok (.putfield 285, 3) := by decide +kernel
theorem dX8_seen_89 : decode cX8_seen 89 = .ok (.aload_n 0, 1) := by decide +kernel
theorem dX8_seen_90 : decode cX8_seen 90 = .ok (.aload_n 0, 1) := by decide +kernel
theorem dX8_seen_91 : decode cX8_seen 91 = .ok (.getfield 14, 3) := by decide +kernel
theorem dX8_seen_94 : decode cX8_seen 94 = .ok (.getfield 285, 3) := by decide +kernel
theorem dX8_seen_97 : decode cX8_seen 97 = .ok (.invokevirtual 155, 3) := by decide +kernel
theorem dX8_seen_100 : decode cX8_seen 100 = .ok (.ireturn, 1) := by decide +kernel
theorem dX8_forget_0 : decode cX8_forget 0 = .ok (.aload_n 0, 1) := by decide +kernel
theorem dX8_forget_1 : decode cX8_forget 1 = .ok (.getfield 14, 3) := by decide +kernel
theorem dX8_forget_4 : decode cX8_forget 4 = .ok (.getfield 285, 3) := by decide +kernel
theorem dX8_forget_7 : decode cX8_forget 7 = .ok (.istore_n 1, 1) := by decide +kernel
theorem dX8_forget_8 : decode cX8_forget 8 = .ok (.aload_n 0, 1) := by decide +kernel
theorem dX8_forget_9 : decode cX8_forget 9 = .ok (.getfield 14, 3) := by decide +kernel
theorem dX8_forget_12 : decode cX8_forget 12 = .ok (.iconst 0, 1) := by decide +kernel
theorem dX8_forget_13 : decode cX8_forget 13 = .ok (.putfield 285, 3) := by decide +kernel
theorem dX8_forget_16 : decode cX8_forget 16 = .ok (.iload_n 1, 1) := by decide +kernel
theorem dX8_forget_17 : decode cX8_forget 17 = .ok (.ireturn, 1) := by decide +kernel
theorem dX8_canBe_0 : decode cX8_canBe 0 = .ok (.aload_n 0, 1) := by decide +kernel
theorem dX8_canBe_1 : decode cX8_canBe 1 = .ok (.invokevirtual 294, 3) := by decide +kernel
theorem dX8_canBe_4 : decode cX8_canBe 4 = .ok (.istore_n 2, 1) := by decide +kernel
theorem dX8_canBe_5 : decode cX8_canBe 5 = .ok (.iload_n 1, 1) := by decide +kernel
theorem dX8_canBe_6 : decode cX8_canBe 6 = .ok (.iconst (-1), 1) := by decide +kernel
theorem dX8_canBe_7 : decode cX8_canBe 7 = .ok (.if_icmp .ne 5, 3) := by decide +kernel
theorem dX8_canBe_10 : decode cX8_canBe 10 = .ok (.iload_n 2, 1) := by decide +kernel
theorem dX8_canBe_11 : decode cX8_canBe 11 = .ok (.ireturn, 1) := by decide +kernel
theorem dX8_canBe_12 : decode cX8_canBe 12 = .ok (.iload_n 1, 1) := by decide +kernel
theorem dX8_canBe_13 : decode cX8_canBe 13 = .ok (.ifCond .lt 17, 3) := by decide +kernel
theorem dX8_canBe_16 : decode cX8_canBe 16 = .ok (.iload_n 1, 1) := by decide +kernel
theorem dX8_canBe_17 : decode cX8_canBe 17 = .ok (.iload_n 2, 1) := by decide +kernel
theorem dX8_canBe_18 : decode cX8_canBe 18 = .ok (.if_icmp .ge 12, 3) := by decide +kernel
theorem dX8_canBe_21 : decode cX8_canBe 21 = .ok (.aload_n 0, 1) := by decide +kernel
theorem dX8_canBe_22 : decode cX8_canBe 22 = .ok (.getfield 81, 3) := by decide +kernel
theorem dX8_canBe_25 : decode cX8_canBe 25 = .ok (.iload_n 1, 1) := by decide +kernel
theorem dX8_canBe_26 : decode cX8_canBe 26 = .ok (.iaload, 1) := by decide +kernel
theorem dX8_canBe_27 : decode cX8_canBe 27 = .ok (.goto 4, 3) := by decide +kernel
theorem dX8_canBe_30 : decode cX8_canBe 30 = .ok (.iconst (-1), 1) := by decide +kernel
theorem dX8_canBe_31 : decode cX8_canBe 31 = .ok (.ireturn, 1) := by decide +kernel
theorem dX8_ask_0 : decode cX8_ask 0 = .ok (.aload_n 0, 1) := by decide +kernel
theorem dX8_ask_1 : decode cX8_ask 1 = .ok (.invokevirtual 294, 3) := by decide +kernel
theorem dX8_ask_4 : decode cX8_ask 4 = .ok (.istore_n 2, 1) := by decide +kernel
theorem dX8_ask_5 : decode cX8_ask 5 = .ok (.iload_n 2, 1) := by decide +kernel
theorem dX8_ask_6 : decode cX8_ask 6 = .ok (.ifCond .eq 12, 3) := by decide +kernel
theorem dX8_ask_9 : decode cX8_ask 9 = .ok (.iload_n 1, 1) := by decide +kernel
theorem dX8_ask_10 : decode cX8_ask 10 = .ok (.ifCond .lt 8, 3) := by decide +kernel
theorem dX8_ask_13 : decode cX8_ask 13 = .ok (.iload_n 1, 1) := by decide +kernel
theorem dX8_ask_14 : decode cX8_ask 14 = .ok (.iconst 1, 1) := by decide +kernel
theorem dX8_ask_15 : decode cX8_ask 15 = .ok (.if_icmp .le 5, 3) := by decide +kernel
theorem dX8_ask_18 : decode cX8_ask 18 = .ok (.iconst (-1), 1) := by decide +kernel
theorem dX8_ask_19 : decode cX8_ask 19 = .ok (.ireturn, 1) := by decide +kernel
theorem dX8_ask_20 : decode cX8_ask 20 = .ok (.aload_n 0, 1) := by decide +kernel
theorem dX8_ask_21 : decode cX8_ask 21 = .ok (.getfield 14, 3) := by decide +kernel
theorem dX8_ask_24 : decode cX8_ask 24 = .ok (.getfield 102, 3) := by decide +kernel
theorem dX8_ask_27 : decode cX8_ask 27 = .ok (.astore_n 3, 1) := by decide +kernel
theorem dX8_ask_28 : decode cX8_ask 28 = .ok (.iconst 0, 1) := by decide +kernel
theorem dX8_ask_29 : decode cX8_ask 29 = .ok (.istore 4, 2) := by decide +kernel
theorem dX8_ask_31 : decode cX8_ask 31 = .ok (.bipush 31, 2) := by decide +kernel
theorem dX8_ask_33 : decode cX8_ask 33 = .ok (.istore 5, 2) := by decide +kernel
theorem dX8_ask_35 : decode cX8_ask 35 = .ok (.iconst 0, 1) := by decide +kernel
theorem dX8_ask_36 : decode cX8_ask 36 = .ok (.istore 6, 2) := by decide +kernel
theorem dX8_ask_38 : decode cX8_ask 38 = .ok (.iload 6, 2) := by decide +kernel
theorem dX8_ask_40 : decode cX8_ask 40 = .ok (.iconst 3, 1) := by decide +kernel
theorem dX8_ask_41 : decode cX8_ask 41 = .ok (.aload_n 3, 1) := by decide +kernel
theorem dX8_ask_42 : decode cX8_ask 42 = .ok (.getfield 119, 3) := by decide +kernel
theorem dX8_ask_45 : decode cX8_ask 45 = .ok (.imul, 1) := by decide +kernel
theorem dX8_ask_46 : decode cX8_ask 46 = .ok (.if_icmp .ge 72, 3) := by decide +kernel
theorem dX8_ask_49 : decode cX8_ask 49 = .ok (.iconst 0, 1) := by decide +kernel
theorem dX8_ask_50 : decode cX8_ask 50 = .ok (.istore 7, 2) := by decide +kernel
theorem dX8_ask_52 : decode cX8_ask 52 = .ok (.iconst 0, 1) := by decide +kernel
theorem dX8_ask_53 : decode cX8_ask 53 = .ok (.istore 8, 2) := by decide +kernel
theorem dX8_ask_55 : decode cX8_ask 55 = .ok (.iload 8, 2) := by decide +kernel
theorem dX8_ask_57 : decode cX8_ask 57 = .ok (.iload_n 2, 1) := by decide +kernel
theorem dX8_ask_58 : decode cX8_ask 58 = .ok (.if_icmp .ge 28, 3) := by decide +kernel
theorem dX8_ask_61 : decode cX8_ask 61 = .ok (.aload_n 3, 1) := by decide +kernel
theorem dX8_ask_62 : decode cX8_ask 62 = .ok (.aload_n 0, 1) := by decide +kernel
theorem dX8_ask_63 : decode cX8_ask 63 = .ok (.getfield 81, 3) := by decide +kernel
theorem dX8_ask_66 : decode cX8_ask 66 = .ok (.iload 8, 2) := by decide +kernel
theorem dX8_ask_68 : decode cX8_ask 68 = .ok (.iaload, 1) := by decide +kernel
theorem dX8_ask_69 : decode cX8_ask 69 = .ok (.iload 6, 2) := by decide +kernel
theorem dX8_ask_71 : decode cX8_ask 71 = .ok (.invokevirtual 298, 3) := by decide +kernel
theorem dX8_ask_74 : decode cX8_ask 74 = .ok (.ifCond .eq 6, 3) := by decide +kernel
theorem dX8_ask_77 : decode cX8_ask 77 = .ok (.iinc 7 1, 3) := by decide +kernel
theorem dX8_ask_80 : decode cX8_ask 80 = .ok (.iinc 8 1, 3) := by decide +kernel
theorem dX8_ask_83 : decode cX8_ask 83 = .ok (.goto (-28), 3) := by decide +kernel
theorem dX8_ask_86 : decode cX8_ask 86 = .ok (.iload 7, 2) := by decide +kernel
theorem dX8_ask_88 : decode cX8_ask 88 = .ok (.iload_n 2, 1) := by decide +kernel
theorem dX8_ask_89 : decode cX8_ask 89 = .ok (.iload 7, 2) := by decide +kernel
theorem dX8_ask_91 : decode cX8_ask 91 = .ok (.isub, 1) := by decide +kernel
theorem dX8_ask_92 : decode cX8_ask 92 = .ok (.invokestatic 302, 3) := by decide +kernel
theorem dX8_ask_95 : decode cX8_ask 95 = .ok (.istore 8, 2) := by decide +kernel
theorem dX8_ask_97 : decode cX8_ask 97 = .ok (.iload 8, 2) := by decide +kernel
theorem dX8_ask_99 : decode cX8_ask 99 = .ok (.iload 5, 2) := by decide +kernel
theorem dX8_ask_101 : decode cX8_ask 101 = .ok (.if_icmp .ge 11, 3) := by decide +kernel
theorem dX8_ask_104 : decode cX8_ask 104 = .ok (.iload 8, 2) := by decide +kernel
theorem dX8_ask_106 : decode cX8_ask 106 = .ok (.istore 5, 2) := by decide +kernel
theorem dX8_ask_108 : decode cX8_ask 108 = .ok (.iload 6, 2) := by decide +kernel
theorem dX8_ask_110 : decode cX8_ask 110 = .ok (.istore 4, 2) := by decide +kernel
theorem dX8_ask_112 : decode cX8_ask 112 = .ok (.iinc 6 1, 3) := by decide +kernel
theorem dX8_ask_115 : decode cX8_ask 115 = .ok (.goto (-77), 3) := by decide +kernel
theorem dX8_ask_118 : decode cX8_ask 118 = .ok (.iload_n 1, 1) := by decide +kernel
theorem dX8_ask_119 : decode cX8_ask 119 = .ok (.ifCond .ne 8, 3) := by decide +kernel
theorem dX8_ask_122 : decode cX8_ask 122 = .ok (.iload 4, 2) := by decide +kernel
theorem dX8_ask_124 : decode cX8_ask 124 = .ok (.goto 5, 3) := by decide +kernel
theorem dX8_ask_127 : decode cX8_ask 127 = .ok (.iload 5, 2) := by decide +kernel
theorem dX8_ask_129 : decode cX8_ask 129 = .ok (.ireturn, 1) := by decide +kernel
theorem dX8_few_0 : decode cX8_few 0 = .ok (.iload_n 1, 1) := by decide +kernel
theorem dX8_few_1 : decode cX8_few 1 = .ok (.iconst 1, 1) := by decide +kernel
theorem dX8_few_2 : decode cX8_few 2 = .ok (.if_icmp .lt 19, 3) := by decide +kernel
theorem dX8_few_5 : decode cX8_few 5 = .ok (.iload_n 1, 1) := by decide +kernel
theorem dX8_few_6 : decode cX8_few 6 = .ok (.bipush 20, 2) := by decide +kernel
theorem dX8_few_8 : decode cX8_few 8 = .ok (.if_icmp .gt 13, 3) := by decide +kernel
theorem dX8_few_11 : decode cX8_few 11 = .ok (.iload_n 2, 1) := by decide +kernel
theorem dX8_few_12 : decode cX8_few 12 = .ok (.ifCond .lt 9, 3) := by decide +kernel
theorem dX8_few_15 : decode cX8_few 15 = .ok (.iload_n 2, 1) := by decide +kernel
theorem dX8_few_16 : decode cX8_few 16 = .ok (.bipush 99, 2) := by decide +kernel
theorem dX8_few_18 : decode cX8_few 18 = .ok (.if_icmp .le 7, 3) := by decide +kernel
theorem dX8_few_21 : decode cX8_few 21 = .ok (.ldc2_w 307, 3) := by decide +kernel
theorem dX8_few_24 : decode cX8_few 24 = .ok (.lreturn, 1) := by decide +kernel
theorem dX8_few_25 : decode cX8_few 25 = .ok (.aload_n 0, 1) := by decide +kernel
theorem dX8_few_26 : decode cX8_few 26 = .ok (.getfield 14, 3) := by decide +kernel
theorem dX8_few_29 : decode cX8_few 29 = .ok (.getfield 102, 3) := by decide +kernel
theorem dX8_few_32 : decode cX8_few 32 = .ok (.getfield 149, 3) := by decide +kernel
theorem dX8_few_35 : decode cX8_few 35 = .ok (.iconst 1, 1) := by decide +kernel
theorem dX8_few_36 : decode cX8_few 36 = .ok (.iaload, 1) := by decide +kernel
theorem dX8_few_37 : decode cX8_few 37 = .ok (.i2l, 1) := by decide +kernel
theorem dX8_few_38 : decode cX8_few 38 = .ok (.lstore_n 3, 1) := by decide +kernel
theorem dX8_few_39 : decode cX8_few 39 = .ok (.aload_n 0, 1) := by decide +kernel
theorem dX8_few_40 : decode cX8_few 40 = .ok (.getfield 84, 3) := by decide +kernel
theorem dX8_few_43 : decode cX8_few 43 = .ok (.lconst 0, 1) := by decide +kernel
theorem dX8_few_44 : decode cX8_few 44 = .ok (.invokestatic 309, 3) := by decide +kernel
theorem dX8_few_47 : decode cX8_few 47 = .ok (.aload_n 0, 1) := by decide +kernel
theorem dX8_few_48 : decode cX8_few 48 = .ok (.getfield 84, 3) := by decide +kernel
theorem dX8_few_51 : decode cX8_few 51 = .ok (.iconst 0, 1) := by decide +kernel
theorem dX8_few_52 : decode cX8_few 52 = .ok (.ldc2_w 312, 3) := by decide +kernel
theorem dX8_few_55 : decode cX8_few 55 = .ok (.lastore, 1) := by decide +kernel
theorem dX8_few_56 : decode cX8_few 56 = .ok (.iconst 0, 1) := by decide +kernel
theorem dX8_few_57 : decode cX8_few 57 = .ok (.istore 5, 2) := by decide +kernel
theorem dX8_few_59 : decode cX8_few 59 = .ok (.iload 5, 2) := by decide +kernel
theorem dX8_few_61 : decode cX8_few 61 = .ok (.iload_n 2, 1) := by decide +kernel
theorem dX8_few_62 : decode cX8_few 62 = .ok (.if_icmp .ge 78, 3) := by decide +kernel
theorem dX8_few_65 : decode cX8_few 65 = .ok (.iload_n 1, 1) := by decide +kernel
theorem dX8_few_66 : decode cX8_few 66 = .ok (.iconst 1, 1) := by decide +kernel
theorem dX8_few_67 : decode cX8_few 67 = .ok (.isub, 1) := by decide +kernel
theorem dX8_few_68 : decode cX8_few 68 = .ok (.istore 6, 2) := by decide +kernel
theorem dX8_few_70 : decode cX8_few 70 = .ok (.iload 6, 2) := by decide +kernel
theorem dX8_few_72 : decode cX8_few 72 = .ok (.ifCond .lt 62, 3) := by decide +kernel
theorem dX8_few_75 : decode cX8_few 75 = .ok (.iload 6, 2) := by decide +kernel
theorem dX8_few_77 : decode cX8_few 77 = .ok (.ifCond .ne 7, 3) := by decide +kernel
theorem dX8_few_80 : decode cX8_few 80 = .ok (.lconst 0, 1) := by decide +kernel
theorem dX8_few_81 : decode cX8_few 81 = .ok (.goto 18, 3) := by decide +kernel
theorem dX8_few_84 : decode cX8_few 84 = .ok (.aload_n 0, 1) := by decide +kernel
theorem dX8_few_85 : decode cX8_few 85 = .ok (.getfield 84, 3) := by decide +kernel
theorem dX8_few_88 : decode cX8_few 88 = .ok (.iload 6, 2) := by decide +kernel
theorem dX8_few_90 : decode cX8_few 90 = .ok (.iconst 1, 1) := by decide +kernel
theorem dX8_few_91 : decode cX8_few 91 = .ok (.isub, 1) := by decide +kernel
theorem dX8_few_92 : decode cX8_few 92 = .ok (.laload, 1) := by decide +kernel
theorem dX8_few_93 : decode cX8_few 93 = .ok (.lload_n 3, 1) := by decide +kernel
theorem dX8_few_94 : decode cX8_few 94 = .ok (.lmul, 1) := by decide +kernel
theorem dX8_few_95 : decode cX8_few 95 = .ok (.ldc2_w 314, 3) := by decide +kernel
theorem dX8_few_98 : decode cX8_few 98 = .ok (.ldiv, 1) := by decide +kernel
theorem dX8_few_99 : decode cX8_few 99 = .ok (.lstore 7, 2) := by decide +kernel
theorem dX8_few_101 : decode cX8_few 101 = .ok (.aload_n 0, 1) := by decide +kernel
theorem dX8_few_102 : decode cX8_few 102 = .ok (.getfield 84, 3) := by decide +kernel
theorem dX8_few_105 : decode cX8_few 105 = .ok (.iload 6, 2) := by decide +kernel
theorem dX8_few_107 : decode cX8_few 107 = .ok (.aload_n 0, 1) := by decide +kernel
theorem dX8_few_108 : decode cX8_few 108 = .ok (.getfield 84, 3) := by decide +kernel
theorem dX8_few_111 : decode cX8_few 111 = .ok (.iload 6, 2) := by decide +kernel
theorem dX8_few_113 : decode cX8_few 113 = .ok (.laload, 1) := by decide +kernel
theorem dX8_few_114 : decode cX8_few 114 = .ok (.ldc2_w 314, 3) := by decide +kernel
theorem dX8_few_117 : decode cX8_few 117 = .ok (.lload_n 3, 1) := by decide +kernel
theorem dX8_few_118 : decode cX8_few 118 = .ok (.lsub, 1) := by decide +kernel
theorem dX8_few_119 : decode cX8_few 119 = .ok (.lmul, 1) := by decide +kernel
theorem dX8_few_120 : decode cX8_few 120 = .ok (.ldc2_w 314, 3) := by decide +kernel
theorem dX8_few_123 : decode cX8_few 123 = .ok (.ldiv, 1) := by decide +kernel
theorem dX8_few_124 : decode cX8_few 124 = .ok (.lload 7, 2) := by decide +kernel
theorem dX8_few_126 : decode cX8_few 126 = .ok (.ladd, 1) := by decide +kernel
theorem dX8_few_127 : decode cX8_few 127 = .ok (.lastore, 1) := by decide +kernel
theorem dX8_few_128 : decode cX8_few 128 = .ok (.iinc 6 (-1), 3) := by decide +kernel
theorem dX8_few_131 : decode cX8_few 131 = .ok (.goto (-61), 3) := by decide +kernel
theorem dX8_few_134 : decode cX8_few 134 = .ok (.iinc 5 1, 3) := by decide +kernel
theorem dX8_few_137 : decode cX8_few 137 = .ok (.goto (-78), 3) := by decide +kernel
theorem dX8_few_140 : decode cX8_few 140 = .ok (.lconst 0, 1) := by decide +kernel
theorem dX8_few_141 : decode cX8_few 141 = .ok (.lstore 5, 2) := by decide +kernel
theorem dX8_few_143 : decode cX8_few 143 = .ok (.iconst 0, 1) := by decide +kernel
theorem dX8_few_144 : decode cX8_few 144 = .ok (.istore 7, 2) := by decide +kernel
theorem dX8_few_146 : decode cX8_few 146 = .ok (.iload 7, 2) := by decide +kernel
theorem dX8_few_148 : decode cX8_few 148 = .ok (.iload_n 1, 1) := by decide +kernel
theorem dX8_few_149 : decode cX8_few 149 = .ok (.if_icmp .ge 21, 3) := by decide +kernel
theorem dX8_few_152 : decode cX8_few 152 = .ok (.lload 5, 2) := by decide +kernel
theorem dX8_few_154 : decode cX8_few 154 = .ok (.aload_n 0, 1) := by decide +kernel
theorem dX8_few_155 : decode cX8_few 155 = .ok (.getfield 84, 3) := by decide +kernel
theorem dX8_few_158 : decode cX8_few 158 = .ok (.iload 7, 2) := by decide +kernel
theorem dX8_few_160 : decode cX8_few 160 = .ok (.laload, 1) := by decide +kernel
theorem dX8_few_161 : decode cX8_few 161 = .ok (.ladd, 1) := by decide +kernel
theorem dX8_few_162 : decode cX8_few 162 = .ok (.lstore 5, 2) := by decide +kernel
theorem dX8_few_164 : decode cX8_few 164 = .ok (.iinc 7 1, 3) := by decide +kernel
theorem dX8_few_167 : decode cX8_few 167 = .ok (.goto (-21), 3) := by decide +kernel
theorem dX8_few_170 : decode cX8_few 170 = .ok (.lload 5, 2) := by decide +kernel
theorem dX8_few_172 : decode cX8_few 172 = .ok (.lreturn, 1) := by decide +kernel
theorem dX8_compare_0 : decode cX8_compare 0 = .ok (.aload_n 0, 1) := by decide +kernel
theorem dX8_compare_1 : decode cX8_compare 1 = .ok (.getfield 14, 3) := by decide +kernel
theorem dX8_compare_4 : decode cX8_compare 4 = .ok (.getfield 102, 3) := by decide +kernel
theorem dX8_compare_7 : decode cX8_compare 7 = .ok (.astore_n 3, 1) := by decide +kernel
theorem dX8_compare_8 : decode cX8_compare 8 = .ok (.iload_n 1, 1) := by decide +kernel
theorem dX8_compare_9 : decode cX8_compare 9 = .ok (.iconst (-1), 1) := by decide +kernel
theorem dX8_compare_10 : decode cX8_compare 10 = .ok (.if_icmp .lt 22, 3) := by decide +kernel
theorem dX8_compare_13 : decode cX8_compare 13 = .ok (.iload_n 1, 1) := by decide +kernel
theorem dX8_compare_14 : decode cX8_compare 14 = .ok (.aload_n 0, 1) := by decide +kernel
theorem dX8_compare_15 : decode cX8_compare 15 = .ok (.getfield 14, 3) := by decide +kernel
theorem dX8_compare_18 : decode cX8_compare 18 = .ok (.getfield 175, 3) := by decide +kernel
theorem dX8_compare_21 : decode cX8_compare 21 = .ok (.if_icmp .ge 11, 3) := by decide +kernel
theorem dX8_compare_24 : decode cX8_compare 24 = .ok (.aload_n 3, 1) := by decide +kernel
theorem dX8_compare_25 : decode cX8_compare 25 = .ok (.iload_n 2, 1) := by decide +kernel
theorem dX8_compare_26 : decode cX8_compare 26 = .ok (.invokevirtual 126, 3) := by decide +kernel
theorem dX8_compare_29 : decode cX8_compare 29 = .ok (.ifCond .ne 5, 3) := by decide +kernel
theorem dX8_compare_32 : decode cX8_compare 32 = .ok (.iconst (-1), 1) := by decide +kernel
theorem dX8_compare_33 : decode cX8_compare 33 = .ok (.ireturn, 1) := by decide +kernel
theorem dX8_compare_34 : decode cX8_compare 34 = .ok (.aload_n 0, 1) := by decide +kernel
theorem dX8_compare_35 : decode cX8_compare 35 = .ok (.getfield 45, 3) := by decide +kernel
theorem dX8_compare_38 : decode cX8_compare 38 = .ok (.aload_n 0, 1) := by decide +kernel
theorem dX8_compare_39 : decode cX8_compare 39 = .ok (.iload_n 1, 1) := by decide +kernel
theorem dX8_compare_40 : decode cX8_compare 40 = .ok (.invokevirtual 316, 3) := by decide +kernel
theorem dX8_compare_43 : decode cX8_compare 43 = .ok (.aload_n 3, 1) := by decide +kernel
theorem dX8_compare_44 : decode cX8_compare 44 = .ok (.aload_n 3, 1) := by decide +kernel
theorem dX8_compare_45 : decode cX8_compare 45 = .ok (.getfield 116, 3) := by decide +kernel
theorem dX8_compare_48 : decode cX8_compare 48 = .ok (.iload_n 2, 1) := by decide +kernel
theorem dX8_compare_49 : decode cX8_compare 49 = .ok (.aload_n 3, 1) := by decide +kernel
theorem dX8_compare_50 : decode cX8_compare 50 = .ok (.iload_n 2, 1) := by decide +kernel
theorem dX8_compare_51 : decode cX8_compare 51 = .ok (.invokevirtual 129, 3) := by decide +kernel
theorem dX8_compare_54 : decode cX8_compare 54 = .ok (.invokevirtual 133, 3) := by decide +kernel
theorem dX8_compare_57 : decode cX8_compare 57 = .ok (.ireturn, 1) := by decide +kernel
theorem dX8_years_0 : decode cX8_years 0 = .ok (.iload_n 1, 1) := by decide +kernel
theorem dX8_years_1 : decode cX8_years 1 = .ok (.ifCond .lt 21, 3) := by decide +kernel
theorem dX8_years_4 : decode cX8_years 4 = .ok (.iload_n 1, 1) := by decide +kernel
theorem dX8_years_5 : decode cX8_years 5 = .ok (.ldc_w 320, 3) := by decide +kernel
theorem dX8_years_8 : decode cX8_years 8 = .ok (.if_icmp .gt 14, 3) := by decide +kernel
theorem dX8_years_11 : decode cX8_years 11 = .ok (.iload_n 2, 1) := by decide +kernel
theorem dX8_years_12 : decode cX8_years 12 = .ok (.iconst 1, 1) := by decide +kernel
theorem dX8_years_13 : decode cX8_years 13 = .ok (.if_icmp .lt 9, 3) := by decide +kernel
theorem dX8_years_16 : decode cX8_years 16 = .ok (.iload_n 2, 1) := by decide +kernel
theorem dX8_years_17 : decode cX8_years 17 = .ok (.bipush 60, 2) := by decide +kernel
theorem dX8_years_19 : decode cX8_years 19 = .ok (.if_icmp .le 9, 3) := by decide +kernel
theorem dX8_years_22 : decode cX8_years 22 = .ok (.aload_n 0, 1) := by decide +kernel
theorem dX8_years_23 : decode cX8_years 23 = .ok (.iconst (-1), 1) := by decide +kernel
theorem dX8_years_24 : decode cX8_years 24 = .ok (.invokevirtual 146, 3) := by decide +kernel
theorem dX8_years_27 : decode cX8_years 27 = .ok (.ireturn, 1) := by decide +kernel
theorem dX8_years_28 : decode cX8_years 28 = .ok (.aload_n 0, 1) := by decide +kernel
theorem dX8_years_29 : decode cX8_years 29 = .ok (.getfield 39, 3) := by decide +kernel
theorem dX8_years_32 : decode cX8_years 32 = .ok (.aload_n 0, 1) := by decide +kernel
theorem dX8_years_33 : decode cX8_years 33 = .ok (.getfield 14, 3) := by decide +kernel
theorem dX8_years_36 : decode cX8_years 36 = .ok (.getfield 102, 3) := by decide +kernel
theorem dX8_years_39 : decode cX8_years 39 = .ok (.invokevirtual 192, 3) := by decide +kernel
theorem dX8_years_42 : decode cX8_years 42 = .ok (.iload_n 1, 1) := by decide +kernel
theorem dX8_years_43 : decode cX8_years 43 = .ok (.istore_n 3, 1) := by decide +kernel
theorem dX8_years_44 : decode cX8_years 44 = .ok (.iconst 0, 1) := by decide +kernel
theorem dX8_years_45 : decode cX8_years 45 = .ok (.istore 4, 2) := by decide +kernel
theorem dX8_years_47 : decode cX8_years 47 = .ok (.iload 4, 2) := by decide +kernel
theorem dX8_years_49 : decode cX8_years 49 = .ok (.iload_n 2, 1) := by decide +kernel
theorem dX8_years_50 : decode cX8_years 50 = .ok (.if_icmp .ge 63, 3) := by decide +kernel
theorem dX8_years_53 : decode cX8_years 53 = .ok (.iload_n 3, 1) := by decide +kernel
theorem dX8_years_54 : decode cX8_years 54 = .ok (.invokestatic 321, 3) := by decide +kernel
theorem dX8_years_57 : decode cX8_years 57 = .ok (.istore_n 3, 1) := by decide +kernel
theorem dX8_years_58 : decode cX8_years 58 = .ok (.iload_n 3, 1) := by decide +kernel
theorem dX8_years_59 : decode cX8_years 59 = .ok (.bipush 40, 2) := by decide +kernel
theorem dX8_years_61 : decode cX8_years 61 = .ok (.irem, 1) := by decide +kernel
theorem dX8_years_62 : decode cX8_years 62 = .ok (.istore 5, 2) := by decide +kernel
theorem dX8_years_64 : decode cX8_years 64 = .ok (.iload_n 3, 1) := by decide +kernel
theorem dX8_years_65 : decode cX8_years 65 = .ok (.invokestatic 321, 3) := by decide +kernel
theorem dX8_years_68 : decode cX8_years 68 = .ok (.istore_n 3, 1) := by decide +kernel
theorem dX8_years_69 : decode cX8_years 69 = .ok (.iload_n 3, 1) := by decide +kernel
theorem dX8_years_70 : decode cX8_years 70 = .ok (.bipush 8, 2) := by decide +kernel
theorem dX8_years_72 : decode cX8_years 72 = .ok (.irem, 1) := by decide +kernel
theorem dX8_years_73 : decode cX8_years 73 = .ok (.istore 6, 2) := by decide +kernel
theorem dX8_years_75 : decode cX8_years 75 = .ok (.aload_n 0, 1) := by decide +kernel
theorem dX8_years_76 : decode cX8_years 76 = .ok (.aload_n 0, 1) := by decide +kernel
theorem dX8_years_77 : decode cX8_years 77 = .ok (.getfield 39, 3) := by decide +kernel
theorem dX8_years_80 : decode cX8_years 80 = .ok (.iload 6, 2) := by decide +kernel
theorem dX8_years_82 : decode cX8_years 82 = .ok (.iconst 5, 1) := by decide +kernel
theorem dX8_years_83 : decode cX8_years 83 = .ok (.if_icmp .ge 7, 3) := by decide +kernel
theorem dX8_years_86 : decode cX8_years 86 = .ok (.iconst 0, 1) := by decide +kernel
theorem dX8_years_87 : decode cX8_years 87 = .ok (.goto 14, 3) := by decide +kernel
theorem dX8_years_90 : decode cX8_years 90 = .ok (.iload 6, 2) := by decide +kernel
theorem dX8_years_92 : decode cX8_years 92 = .ok (.iconst 5, 1) := by decide +kernel
theorem dX8_years_93 : decode cX8_years 93 = .ok (.if_icmp .ne 7, 3) := by decide +kernel
theorem dX8_years_96 : decode cX8_years 96 = .ok (.iconst 1, 1) := by decide +kernel
theorem dX8_years_97 : decode cX8_years 97 = .ok (.goto 4, 3) := by decide +kernel
theorem dX8_years_100 : decode cX8_years 100 = .ok (.iconst 4, 1) := by decide +kernel
theorem dX8_years_101 : decode cX8_years 101 = .ok (.iload 5, 2) := by decide +kernel
theorem dX8_years_103 : decode cX8_years 103 = .ok (.invokevirtual 324, 3) := by decide +kernel
theorem dX8_years_106 : decode cX8_years 106 = .ok (.pop, 1) := by decide +kernel
theorem dX8_years_107 : decode cX8_years 107 = .ok (.iinc 4 1, 3) := by decide +kernel
theorem dX8_years_110 : decode cX8_years 110 = .ok (.goto (-63), 3) := by decide +kernel
theorem dX8_years_113 : decode cX8_years 113 = .ok (.iconst 0, 1) := by decide +kernel
theorem dX8_years_114 : decode cX8_years 114 = .ok (.istore 4, 2) := by decide +kernel
theorem dX8_years_116 : decode cX8_years 116 = .ok (.iload 4, 2) := by decide +kernel
theorem dX8_years_118 : decode cX8_years 118 = .ok (.bipush 40, 2) := by decide +kernel
theorem dX8_years_120 : decode cX8_years 120 = .ok (.if_icmp .ge 28, 3) := by decide +kernel
theorem dX8_years_123 : decode cX8_years 123 = .ok (.aload_n 0, 1) := by decide +kernel
theorem dX8_years_124 : decode cX8_years 124 = .ok (.getfield 74, 3) := by decide +kernel
theorem dX8_years_127 : decode cX8_years 127 = .ok (.iload 4, 2) := by decide +kernel
theorem dX8_years_129 : decode cX8_years 129 = .ok (.aload_n 0, 1) := by decide +kernel
theorem dX8_years_130 : decode cX8_years 130 = .ok (.getfield 39, 3) := by decide +kernel
theorem dX8_years_133 : decode cX8_years 133 = .ok (.getfield 250, 3) := by decide +kernel
theorem dX8_years_136 : decode cX8_years 136 = .ok (.iload 4, 2) := by decide +kernel
theorem dX8_years_138 : decode cX8_years 138 = .ok (.invokevirtual 263, 3) := by decide +kernel
theorem dX8_years_141 : decode cX8_years 141 = .ok (.iastore, 1) := by decide +kernel
theorem dX8_years_142 : decode cX8_years 142 = .ok (.iinc 4 1, 3) := by decide +kernel
theorem dX8_years_145 : decode cX8_years 145 = .ok (.goto (-29), 3) := by decide +kernel
theorem dX8_years_148 : decode cX8_years 148 = .ok (.aload_n 0, 1) := by decide +kernel
theorem dX8_years_149 : decode cX8_years 149 = .ok (.aload_n 0, 1) := by decide +kernel
theorem dX8_years_150 : decode cX8_years 150 = .ok (.getfield 39, 3) := by decide +kernel
theorem dX8_years_153 : decode cX8_years 153 = .ok (.getfield 137, 3) := by decide +kernel
theorem dX8_years_156 : decode cX8_years 156 = .ok (.invokevirtual 155, 3) := by decide +kernel
theorem dX8_years_159 : decode cX8_years 159 = .ok (.ireturn, 1) := by decide +kernel
theorem dX8_drawn_0 : decode cX8_drawn 0 = .ok (.iload_n 1, 1) := by decide +kernel
theorem dX8_drawn_1 : decode cX8_drawn 1 = .ok (.ifCond .lt 18, 3) := by decide +kernel
theorem dX8_drawn_4 : decode cX8_drawn 4 = .ok (.iload_n 1, 1) := by decide +kernel
theorem dX8_drawn_5 : decode cX8_drawn 5 = .ok (.bipush 40, 2) := by decide +kernel
theorem dX8_drawn_7 : decode cX8_drawn 7 = .ok (.if_icmp .ge 12, 3) := by decide +kernel
theorem dX8_drawn_10 : decode cX8_drawn 10 = .ok (.aload_n 0, 1) := by decide +kernel
theorem dX8_drawn_11 : decode cX8_drawn 11 = .ok (.getfield 74, 3) := by decide +kernel
theorem dX8_drawn_14 : decode cX8_drawn 14 = .ok (.iload_n 1, 1) := by decide +kernel
theorem dX8_drawn_15 : decode cX8_drawn 15 = .ok (.iaload, 1) := by decide +kernel
theorem dX8_drawn_16 : decode cX8_drawn 16 = .ok (.goto 4, 3) := by decide +kernel
theorem dX8_drawn_19 : decode cX8_drawn 19 = .ok (.iconst (-1), 1) := by decide +kernel
theorem dX8_drawn_20 : decode cX8_drawn 20 = .ok (.ireturn, 1) := by decide +kernel
theorem dX8_image_0 : decode cX8_image 0 = .ok (.aload_n 0, 1) := by decide +kernel
theorem dX8_image_1 : decode cX8_image 1 = .ok (.iload_n 1, 1) := by decide +kernel
theorem dX8_image_2 : decode cX8_image 2 = .ok (.invokevirtual 327, 3) := by decide +kernel
theorem dX8_image_5 : decode cX8_image 5 = .ok (.astore_n 2, 1) := by decide +kernel
theorem dX8_image_6 : decode cX8_image 6 = .ok (.aload_n 2, 1) := by decide +kernel
theorem dX8_image_7 : decode cX8_image 7 = .ok (.ifnonnull 9, 3) := by decide +kernel
theorem dX8_image_10 : decode cX8_image 10 = .ok (.aload_n 0, 1) := by decide +kernel
theorem dX8_image_11 : decode cX8_image 11 = .ok (.iconst (-1), 1) := by decide +kernel
theorem dX8_image_12 : decode cX8_image 12 = .ok (.invokevirtual 146, 3) := by decide +kernel
theorem dX8_image_15 : decode cX8_image 15 = .ok (.ireturn, 1) := by decide +kernel
theorem dX8_image_16 : decode cX8_image 16 = .ok (.aload_n 2, 1) := by decide +kernel
theorem dX8_image_17 : decode cX8_image 17 = .ok (.aload_n 0, 1) := by decide +kernel
theorem dX8_image_18 : decode cX8_image 18 = .ok (.getfield 14, 3) := by decide +kernel
theorem dX8_image_21 : decode cX8_image 21 = .ok (.invokevirtual 331, 3) := by decide +kernel
theorem dX8_image_24 : decode cX8_image 24 = .ok (.aload_n 2, 1) := by decide +kernel
theorem dX8_image_25 : decode cX8_image 25 = .ok (.iconst 1, 1) := by decide +kernel
theorem dX8_image_26 : decode cX8_image 26 = .ok (.putfield 334, 3) := by decide +kernel
theorem dX8_image_29 : decode cX8_image 29 = .ok (.aload_n 0, 1) := by decide +kernel
theorem dX8_image_30 : decode cX8_image 30 = .ok (.iconst 0, 1) := by decide +kernel
theorem dX8_image_31 : decode cX8_image 31 = .ok (.invokevirtual 155, 3) := by decide +kernel
theorem dX8_image_34 : decode cX8_image 34 = .ok (.ireturn, 1) := by decide +kernel
theorem dX8_back_0 : decode cX8_back 0 = .ok (.aload_n 0, 1) := by decide +kernel
theorem dX8_back_1 : decode cX8_back 1 = .ok (.iload_n 1, 1) := by decide +kernel
theorem dX8_back_2 : decode cX8_back 2 = .ok (.invokevirtual 327, 3) := by decide +kernel
theorem dX8_back_5 : decode cX8_back 5 = .ok (.astore_n 2, 1) := by decide +kernel
theorem dX8_back_6 : decode cX8_back 6 = .ok (.aload_n 2, 1) := by decide +kernel
theorem dX8_back_7 : decode cX8_back 7 = .ok (.ifnonnull 9, 3) := by decide +kernel
theorem dX8_back_10 : decode cX8_back 10 = .ok (.aload_n 0, 1) := by decide +kernel
theorem dX8_back_11 : decode cX8_back 11 = .ok (.iconst (-1), 1) := by decide +kernel
theorem dX8_back_12 : decode cX8_back 12 = .ok (.invokevirtual 146, 3) := by decide +kernel
theorem dX8_back_15 : decode cX8_back 15 = .ok (.ireturn, 1) := by decide +kernel
theorem dX8_back_16 : decode cX8_back 16 = .ok (.aload_n 2, 1) := by decide +kernel
theorem dX8_back_17 : decode cX8_back 17 = .ok (.getfield 334, 3) := by decide +kernel
theorem dX8_back_20 : decode cX8_back 20 = .ok (.ifCond .ne 10, 3) := by decide +kernel
theorem dX8_back_23 : decode cX8_back 23 = .ok (.aload_n 0, 1) := by decide +kernel
theorem dX8_back_24 : decode cX8_back 24 = .ok (.bipush (-2), 2) := by decide +kernel
theorem dX8_back_26 : decode cX8_back 26 = .ok (.invokevirtual 146, 3) := by decide +kernel
theorem dX8_back_29 : decode cX8_back 29 = .ok (.ireturn, 1) := by decide +kernel
theorem dX8_back_30 : decode cX8_back 30 = .ok (.aload_n 0, 1) := by decide +kernel
theorem dX8_back_31 : decode cX8_back 31 = .ok (.getfield 14, 3) := by decide +kernel
theorem dX8_back_34 : decode cX8_back 34 = .ok (.aload_n 2, 1) := by decide +kernel
theorem dX8_back_35 : decode cX8_back 35 = .ok (.invokevirtual 331, 3) := by decide +kernel
theorem dX8_back_38 : decode cX8_back 38 = .ok (.aload_n 0, 1) := by decide +kernel
theorem dX8_back_39 : decode cX8_back 39 = .ok (.getfield 25, 3) := by decide +kernel
theorem dX8_back_42 : decode cX8_back 42 = .ok (.invokevirtual 152, 3) := by decide +kernel
theorem dX8_back_45 : decode cX8_back 45 = .ok (.aload_n 0, 1) := by decide +kernel
theorem dX8_back_46 : decode cX8_back 46 = .ok (.iconst 0, 1) := by decide +kernel
theorem dX8_back_47 : decode cX8_back 47 = .ok (.invokevirtual 155, 3) := by decide +kernel
theorem dX8_back_50 : decode cX8_back 50 = .ok (.ireturn, 1) := by decide +kernel
theorem dX8_count_0 : decode cX8_count 0 = .ok (.aload_n 0, 1) := by decide +kernel
theorem dX8_count_1 : decode cX8_count 1 = .ok (.getfield 14, 3) := by decide +kernel
theorem dX8_count_4 : decode cX8_count 4 = .ok (.getfield 102, 3) := by decide +kernel
theorem dX8_count_7 : decode cX8_count 7 = .ok (.astore_n 2, 1) := by decide +kernel
theorem dX8_count_8 : decode cX8_count 8 = .ok (.iload_n 1, 1) := by decide +kernel
theorem dX8_count_9 : decode cX8_count 9 = .ok (.tableswitch 122 0 12 #[67, 72, 77, 82, 90, 98, 106, 122, 122, 122, 122, 122, 114], 67) := by decide +kernel
theorem dX8_count_76 : decode cX8_count 76 = .ok (.aload_n 2, 1) := by decide +kernel
theorem dX8_count_77 : decode cX8_count 77 = .ok (.getfield 137, 3) := by decide +kernel
theorem dX8_count_80 : decode cX8_count 80 = .ok (.ireturn, 1) := by decide +kernel
theorem dX8_count_81 : decode cX8_count 81 = .ok (.aload_n 2, 1) := by decide +kernel
theorem dX8_count_82 : decode cX8_count 82 = .ok (.getfield 119, 3) := by decide +kernel
theorem dX8_count_85 : decode cX8_count 85 = .ok (.ireturn, 1) := by decide +kernel
theorem dX8_count_86 : decode cX8_count 86 = .ok (.aload_n 2, 1) := by decide +kernel
theorem dX8_count_87 : decode cX8_count 87 = .ok (.getfield 116, 3) := by decide +kernel
theorem dX8_count_90 : decode cX8_count 90 = .ok (.ireturn, 1) := by decide +kernel
theorem dX8_count_91 : decode cX8_count 91 = .ok (.aload_n 0, 1) := by decide +kernel
theorem dX8_count_92 : decode cX8_count 92 = .ok (.getfield 14, 3) := by decide +kernel
theorem dX8_count_95 : decode cX8_count 95 = .ok (.getfield 285, 3) := by decide +kernel
theorem dX8_count_98 : decode cX8_count 98 = .ok (.ireturn, 1) := by decide +kernel
theorem dX8_count_99 : decode cX8_count 99 = .ok (.aload_n 0, 1) := by decide +kernel
theorem dX8_count_100 : decode cX8_count 100 = .ok (.getfield 14, 3) := by decide +kernel
theorem dX8_count_103 : decode cX8_count 103 = .ok (.getfield 175, 3) := by decide +kernel
theorem dX8_count_106 : decode cX8_count 106 = .ok (.ireturn, 1) := by decide +kernel
theorem dX8_count_107 : decode cX8_count 107 = .ok (.aload_n 0, 1) := by decide +kernel
theorem dX8_count_108 : decode cX8_count 108 = .ok (.getfield 25, 3) := by decide +kernel
theorem dX8_count_111 : decode cX8_count 111 = .ok (.getfield 337, 3) := by decide +kernel
theorem dX8_count_114 : decode cX8_count 114 = .ok (.ireturn, 1) := by decide +kernel
theorem dX8_count_115 : decode cX8_count 115 = .ok (.aload_n 0, 1) := by decide +kernel
theorem dX8_count_116 : decode cX8_count 116 = .ok (.getfield 61, 3) := by decide +kernel
theorem dX8_count_119 : decode cX8_count 119 = .ok (.getfield 158, 3) := by decide +kernel
theorem dX8_count_122 : decode cX8_count 122 = .ok (.ireturn, 1) := by decide +kernel
theorem dX8_count_123 : decode cX8_count 123 = .ok (.aload_n 0, 1) := by decide +kernel
theorem dX8_count_124 : decode cX8_count 124 = .ok (.getfield 14, 3) := by decide +kernel
theorem dX8_count_127 : decode cX8_count 127 = .ok (.getfield 215, 3) := by decide +kernel
theorem dX8_count_130 : decode cX8_count 130 = .ok (.ireturn, 1) := by decide +kernel
theorem dX8_count_131 : decode cX8_count 131 = .ok (.iload_n 1, 1) := by decide +kernel
theorem dX8_count_132 : decode cX8_count 132 = .ok (.bipush 7, 2) := by decide +kernel
theorem dX8_count_134 : decode cX8_count 134 = .ok (.if_icmp .lt 19, 3) := by decide +kernel
theorem dX8_count_137 : decode cX8_count 137 = .ok (.iload_n 1, 1) := by decide +kernel
theorem dX8_count_138 : decode cX8_count 138 = .ok (.bipush 11, 2) := by decide +kernel
theorem dX8_count_140 : decode cX8_count 140 = .ok (.if_icmp .gt 13, 3) := by decide +kernel
theorem dX8_count_143 : decode cX8_count 143 = .ok (.aload_n 0, 1) := by decide +kernel
theorem dX8_count_144 : decode cX8_count 144 = .ok (.getfield 78, 3) := by decide +kernel
theorem dX8_count_147 : decode cX8_count 147 = .ok (.iload_n 1, 1) := by decide +kernel
theorem dX8_count_148 : decode cX8_count 148 = .ok (.bipush 7, 2) := by decide +kernel
theorem dX8_count_150 : decode cX8_count 150 = .ok (.isub, 1) := by decide +kernel
theorem dX8_count_151 : decode cX8_count 151 = .ok (.iaload, 1) := by decide +kernel
theorem dX8_count_152 : decode cX8_count 152 = .ok (.ireturn, 1) := by decide +kernel
theorem dX8_count_153 : decode cX8_count 153 = .ok (.iload_n 1, 1) := by decide +kernel
theorem dX8_count_154 : decode cX8_count 154 = .ok (.bipush 13, 2) := by decide +kernel
theorem dX8_count_156 : decode cX8_count 156 = .ok (.if_icmp .lt 21, 3) := by decide +kernel
theorem dX8_count_159 : decode cX8_count 159 = .ok (.iload_n 1, 1) := by decide +kernel
theorem dX8_count_160 : decode cX8_count 160 = .ok (.bipush 15, 2) := by decide +kernel
theorem dX8_count_162 : decode cX8_count 162 = .ok (.if_icmp .gt 15, 3) := by decide +kernel
theorem dX8_count_165 : decode cX8_count 165 = .ok (.aload_n 2, 1) := by decide +kernel
theorem dX8_count_166 : decode cX8_count 166 = .ok (.getfield 149, 3) := by decide +kernel
theorem dX8_count_169 : decode cX8_count 169 = .ok (.iload_n 1, 1) := by decide +kernel
theorem dX8_count_170 : decode cX8_count 170 = .ok (.bipush 13, 2) := by decide +kernel
theorem dX8_count_172 : decode cX8_count 172 = .ok (.isub, 1) := by decide +kernel
theorem dX8_count_173 : decode cX8_count 173 = .ok (.iaload, 1) := by decide +kernel
theorem dX8_count_174 : decode cX8_count 174 = .ok (.goto 4, 3) := by decide +kernel
theorem dX8_count_177 : decode cX8_count 177 = .ok (.iconst (-1), 1) := by decide +kernel
theorem dX8_count_178 : decode cX8_count 178 = .ok (.ireturn, 1) := by decide +kernel
theorem dX8_status_0 : decode cX8_status 0 = .ok (.aload_n 0, 1) := by decide +kernel
theorem dX8_status_1 : decode cX8_status 1 = .ok (.getfield 338, 3) := by decide +kernel
theorem dX8_status_4 : decode cX8_status 4 = .ok (.ireturn, 1) := by decide +kernel
theorem dX8_refuse_0 : decode cX8_refuse 0 = .ok (.aload_n 0, 1) := by decide +kernel
theorem dX8_refuse_1 : decode cX8_refuse 1 = .ok (.iload_n 1, 1) := by decide +kernel
theorem dX8_refuse_2 : decode cX8_refuse 2 = .ok (.putfield 338, 3) := by decide +kernel
theorem dX8_refuse_5 : decode cX8_refuse 5 = .ok (.iload_n 1, 1) := by decide +kernel
theorem dX8_refuse_6 : decode cX8_refuse 6 = .ok (.tableswitch 86 (-5) (-1) #[73, 86, 60, 47, 34], 34) := by decide +kernel
theorem dX8_refuse_40 : decode cX8_refuse 40 = .ok (.aload_n 0, 1) := by decide +kernel
theorem dX8_refuse_41 : decode cX8_refuse 41 = .ok (.getfield 78, 3) := by decide +kernel
theorem dX8_refuse_44 : decode cX8_refuse 44 = .ok (.iconst 0, 1) := by decide +kernel
theorem dX8_refuse_45 : decode cX8_refuse 45 = .ok (.dup2, 1) := by decide +kernel
theorem dX8_refuse_46 : decode cX8_refuse 46 = .ok (.iaload, 1) := by decide +kernel
theorem dX8_refuse_47 : decode cX8_refuse 47 = .ok (.iconst 1, 1) := by decide +kernel
theorem dX8_refuse_48 : decode cX8_refuse 48 = .ok (.iadd, 1) := by decide +kernel
theorem dX8_refuse_49 : decode cX8_refuse 49 = .ok (.iastore, 1) := by decide +kernel
theorem dX8_refuse_50 : decode cX8_refuse 50 = .ok (.goto 52, 3) := by decide +kernel
theorem dX8_refuse_53 : decode cX8_refuse 53 = .ok (.aload_n 0, 1) := by decide +kernel
theorem dX8_refuse_54 : decode cX8_refuse 54 = .ok (.getfield 78, 3) := by decide +kernel
theorem dX8_refuse_57 : decode cX8_refuse 57 = .ok (.iconst 1, 1) := by decide +kernel
theorem dX8_refuse_58 : decode cX8_refuse 58 = .ok (.dup2, 1) := by decide +kernel
theorem dX8_refuse_59 : decode cX8_refuse 59 = .ok (.iaload, 1) := by decide +kernel
theorem dX8_refuse_60 : decode cX8_refuse 60 = .ok (.iconst 1, 1) := by decide +kernel
theorem dX8_refuse_61 : decode cX8_refuse 61 = .ok (.iadd, 1) := by decide +kernel
theorem dX8_refuse_62 : decode cX8_refuse 62 = .ok (.iastore, 1) := by decide +kernel
theorem dX8_refuse_63 : decode cX8_refuse 63 = .ok (.goto 39, 3) := by decide +kernel
theorem dX8_refuse_66 : decode cX8_refuse 66 = .ok (.aload_n 0, 1) := by decide +kernel
theorem dX8_refuse_67 : decode cX8_refuse 67 = .ok (.getfield 78, 3) := by decide +kernel
theorem dX8_refuse_70 : decode cX8_refuse 70 = .ok (.iconst 2, 1) := by decide +kernel
theorem dX8_refuse_71 : decode cX8_refuse 71 = .ok (.dup2, 1) := by decide +kernel
theorem dX8_refuse_72 : decode cX8_refuse 72 = .ok (.iaload, 1) := by decide +kernel
theorem dX8_refuse_73 : decode cX8_refuse 73 = .ok (.iconst 1, 1) := by decide +kernel
theorem dX8_refuse_74 : decode cX8_refuse 74 = .ok (.iadd, 1) := by decide +kernel
theorem dX8_refuse_75 : decode cX8_refuse 75 = .ok (.iastore, 1) := by decide +kernel
theorem dX8_refuse_76 : decode cX8_refuse 76 = .ok (.goto 26, 3) := by decide +kernel
theorem dX8_refuse_79 : decode cX8_refuse 79 = .ok (.aload_n 0, 1) := by decide +kernel
theorem dX8_refuse_80 : decode cX8_refuse 80 = .ok (.getfield 78, 3) := by decide +kernel
theorem dX8_refuse_83 : decode cX8_refuse 83 = .ok (.iconst 3, 1) := by decide +kernel
theorem dX8_refuse_84 : decode cX8_refuse 84 = .ok (.dup2, 1) := by decide +kernel
theorem dX8_refuse_85 : decode cX8_refuse 85 = .ok (.iaload, 1) := by decide +kernel
theorem dX8_refuse_86 : decode cX8_refuse 86 = .ok (.iconst 1, 1) := by decide +kernel
theorem dX8_refuse_87 : decode cX8_refuse 87 = .ok (.iadd, 1) := by decide +kernel
theorem dX8_refuse_88 : decode cX8_refuse 88 = .ok (.iastore, 1) := by decide +kernel
theorem dX8_refuse_89 : decode cX8_refuse 89 = .ok (.goto 13, 3) := by decide +kernel
theorem dX8_refuse_92 : decode cX8_refuse 92 = .ok (.aload_n 0, 1) := by decide +kernel
theorem dX8_refuse_93 : decode cX8_refuse 93 = .ok (.getfield 78, 3) := by decide +kernel
theorem dX8_refuse_96 : decode cX8_refuse 96 = .ok (.iconst 4, 1) := by decide +kernel
theorem dX8_refuse_97 : decode cX8_refuse 97 = .ok (.dup2, 1) := by decide +kernel
theorem dX8_refuse_98 : decode cX8_refuse 98 = .ok (.iaload, 1) := by decide +kernel
theorem dX8_refuse_99 : decode cX8_refuse 99 = .ok (.iconst 1, 1) := by decide +kernel
theorem dX8_refuse_100 : decode cX8_refuse 100 = .ok (.iadd, 1) := by decide +kernel
theorem dX8_refuse_101 : decode cX8_refuse 101 = .ok (.iastore, 1) := by decide +kernel
theorem dX8_refuse_102 : decode cX8_refuse 102 = .ok (.iload_n 1, 1) := by decide +kernel
theorem dX8_refuse_103 : decode cX8_refuse 103 = .ok (.ireturn, 1) := by decide +kernel
theorem dX8_accept_0 : decode cX8_accept 0 = .ok (.aload_n 0, 1) := by decide +kernel
theorem dX8_accept_1 : decode cX8_accept 1 = .ok (.iconst 0, 1) := by decide +kernel
theorem dX8_accept_2 : decode cX8_accept 2 = .ok (.putfield 338, 3) := by decide +kernel
theorem dX8_accept_5 : decode cX8_accept 5 = .ok (.iload_n 1, 1) := by decide +kernel
theorem dX8_accept_6 : decode cX8_accept 6 = .ok (.ireturn, 1) := by decide +kernel
theorem dX8_imageNumbered_0 : decode cX8_imageNumbered 0 = .ok (.iload_n 1, 1) := by decide +kernel
theorem dX8_imageNumbered_1 : decode cX8_imageNumbered 1 = .ok (.ifCond .lt 17, 3) := by decide +kernel
theorem dX8_imageNumbered_4 : decode cX8_imageNumbered 4 = .ok (.iload_n 1, 1) := by decide +kernel
theorem dX8_imageNumbered_5 : decode cX8_imageNumbered 5 = .ok (.iconst 2, 1) := by decide +kernel
theorem dX8_imageNumbered_6 : decode cX8_imageNumbered 6 = .ok (.if_icmp .ge 12, 3) := by decide +kernel
theorem dX8_imageNumbered_9 : decode cX8_imageNumbered 9 = .ok (.aload_n 0, 1) := by decide +kernel
theorem dX8_imageNumbered_10 : decode cX8_imageNumbered 10 = .ok (.getfield 18, 3) := by decide +kernel
theorem dX8_imageNumbered_13 : decode cX8_imageNumbered 13 = .ok (.iload_n 1, 1) := by decide +kernel
theorem dX8_imageNumbered_14 : decode cX8_imageNumbered 14 = .ok (.aaload, 1) := by decide +kernel
theorem dX8_imageNumbered_15 : decode cX8_imageNumbered 15 = .ok (.goto 4, 3) := by decide +kernel
theorem dX8_imageNumbered_18 : decode cX8_imageNumbered 18 = .ok (.aconst_null, 1) := by decide +kernel
theorem dX8_imageNumbered_19 : decode cX8_imageNumbered 19 = .ok (.areturn, 1) := by decide +kernel
theorem dX8_lawNumbered_0 : decode cX8_lawNumbered 0 = .ok (.iload_n 1, 1) := by decide +kernel
theorem dX8_lawNumbered_1 : decode cX8_lawNumbered 1 = .ok (.ifCond .lt 26, 3) := by decide +kernel
theorem dX8_lawNumbered_4 : decode cX8_lawNumbered 4 = .ok (.iload_n 1, 1) := by decide +kernel
theorem dX8_lawNumbered_5 : decode cX8_lawNumbered 5 = .ok (.aload_n 0, 1) := by decide +kernel
theorem dX8_lawNumbered_6 : decode cX8_lawNumbered 6 = .ok (.getfield 14, 3) := by decide +kernel
theorem dX8_lawNumbered_9 : decode cX8_lawNumbered 9 = .ok (.getfield 175, 3) := by decide +kernel
theorem dX8_lawNumbered_12 : decode cX8_lawNumbered 12 = .ok (.if_icmp .ge 15, 3) := by decide +kernel
theorem dX8_lawNumbered_15 : decode cX8_lawNumbered 15 = .ok (.aload_n 0, 1) := by decide +kernel
theorem dX8_lawNumbered_16 : decode cX8_lawNumbered 16 = .ok (.getfield 14, 3) := by decide +kernel
theorem dX8_lawNumbered_19 : decode cX8_lawNumbered 19 = .ok (.getfield 182, 3) := by decide +kernel
theorem dX8_lawNumbered_22 : decode cX8_lawNumbered 22 = .ok (.iload_n 1, 1) := by decide +kernel
theorem dX8_lawNumbered_23 : decode cX8_lawNumbered 23 = .ok (.aaload, 1) := by decide +kernel
theorem dX8_lawNumbered_24 : decode cX8_lawNumbered 24 = .ok (.goto 4, 3) := by decide +kernel
theorem dX8_lawNumbered_27 : decode cX8_lawNumbered 27 = .ok (.aconst_null, 1) := by decide +kernel
theorem dX8_lawNumbered_28 : decode cX8_lawNumbered 28 = .ok (.astore_n 2, 1) := by decide +kernel
theorem dX8_lawNumbered_29 : decode cX8_lawNumbered 29 = .ok (.aload_n 2, 1) := by decide +kernel
theorem dX8_lawNumbered_30 : decode cX8_lawNumbered 30 = .ok (.ifnonnull 10, 3) := by decide +kernel
theorem dX8_lawNumbered_33 : decode cX8_lawNumbered 33 = .ok (.aload_n 0, 1) := by decide +kernel
theorem dX8_lawNumbered_34 : decode cX8_lawNumbered 34 = .ok (.getfield 70, 3) := by decide +kernel
theorem dX8_lawNumbered_37 : decode cX8_lawNumbered 37 = .ok (.goto 4, 3) := by decide +kernel
theorem dX8_lawNumbered_40 : decode cX8_lawNumbered 40 = .ok (.aload_n 2, 1) := by decide +kernel
theorem dX8_lawNumbered_41 : decode cX8_lawNumbered 41 = .ok (.areturn, 1) := by decide +kernel
theorem dX8_lawInForce_0 : decode cX8_lawInForce 0 = .ok (.aload_n 0, 1) := by decide +kernel
theorem dX8_lawInForce_1 : decode cX8_lawInForce 1 = .ok (.aload_n 0, 1) := by decide +kernel
theorem dX8_lawInForce_2 : decode cX8_lawInForce 2 = .ok (.getfield 14, 3) := by decide +kernel
theorem dX8_lawInForce_5 : decode cX8_lawInForce 5 = .ok (.getfield 215, 3) := by decide +kernel
theorem dX8_lawInForce_8 : decode cX8_lawInForce 8 = .ok (.invokevirtual 316, 3) := by decide +kernel
theorem dX8_lawInForce_11 : decode cX8_lawInForce 11 = .ok (.areturn, 1) := by decide +kernel
theorem dX8_change_0 : decode cX8_change 0 = .ok (.aload_n 0, 1) := by decide +kernel
theorem dX8_change_1 : decode cX8_change 1 = .ok (.getfield 25, 3) := by decide +kernel
theorem dX8_change_4 : decode cX8_change 4 = .ok (.aload_n 0, 1) := by decide +kernel
theorem dX8_change_5 : decode cX8_change 5 = .ok (.getfield 14, 3) := by decide +kernel
theorem dX8_change_8 : decode cX8_change 8 = .ok (.getfield 102, 3) := by decide +kernel
theorem dX8_change_11 : decode cX8_change 11 = .ok (.invokevirtual 341, 3) := by decide +kernel
theorem dX8_change_14 : decode cX8_change 14 = .ok (.aload_n 0, 1) := by decide +kernel
theorem dX8_change_15 : decode cX8_change 15 = .ok (.aload_n 0, 1) := by decide +kernel
theorem dX8_change_16 : decode cX8_change 16 = .ok (.getfield 14, 3) := by decide +kernel
theorem dX8_change_19 : decode cX8_change 19 = .ok (.getfield 102, 3) := by decide +kernel
theorem dX8_change_22 : decode cX8_change 22 = .ok (.iload_n 1, 1) := by decide +kernel
theorem dX8_change_23 : decode cX8_change 23 = .ok (.iload_n 2, 1) := by decide +kernel
theorem dX8_change_24 : decode cX8_change 24 = .ok (.invokevirtual 324, 3) := by decide +kernel
theorem dX8_change_27 : decode cX8_change 27 = .ok (.istore_n 3, 1) := by decide +kernel
theorem dX8_change_28 : decode cX8_change 28 = .ok (.iload_n 3, 1) := by decide +kernel
theorem dX8_change_29 : decode cX8_change 29 = .ok (.ifCond .ge 9, 3) := by decide +kernel
theorem dX8_change_32 : decode cX8_change 32 = .ok (.aload_n 0, 1) := by decide +kernel
theorem dX8_change_33 : decode cX8_change 33 = .ok (.iload_n 3, 1) := by decide +kernel
theorem dX8_change_34 : decode cX8_change 34 = .ok (.invokevirtual 146, 3) := by decide +kernel
theorem dX8_change_37 : decode cX8_change 37 = .ok (.ireturn, 1) := by decide +kernel
theorem dX8_change_38 : decode cX8_change 38 = .ok (.aload_n 0, 1) := by decide +kernel
theorem dX8_change_39 : decode cX8_change 39 = .ok (.getfield 25, 3) := by decide +kernel
theorem dX8_change_42 : decode cX8_change 42 = .ok (.iload_n 1, 1) := by decide +kernel
theorem dX8_change_43 : decode cX8_change 43 = .ok (.invokevirtual 344, 3) := by decide +kernel
theorem dX8_change_46 : decode cX8_change 46 = .ok (.aload_n 0, 1) := by decide +kernel
theorem dX8_change_47 : decode cX8_change 47 = .ok (.iload_n 3, 1) := by decide +kernel
theorem dX8_change_48 : decode cX8_change 48 = .ok (.invokevirtual 155, 3) := by decide +kernel
theorem dX8_change_51 : decode cX8_change 51 = .ok (.ireturn, 1) := by decide +kernel
theorem dX8_carryOut_0 : decode cX8_carryOut 0 = .ok (.iload_n 2, 1) := by decide +kernel
theorem dX8_carryOut_1 : decode cX8_carryOut 1 = .ok (.tableswitch 56 0 3 #[31, 38, 44, 50], 31) := by decide +kernel
theorem dX8_carryOut_32 : decode cX8_carryOut 32 = .ok (.aload_n 0, 1) := by decide +kernel
theorem dX8_carryOut_33 : decode cX8_carryOut 33 = .ok (.aload_n 1, 1) := by decide +kernel
theorem dX8_carryOut_34 : decode cX8_carryOut 34 = .ok (.iload_n 3, 1) := by decide +kernel
theorem dX8_carryOut_35 : decode cX8_carryOut 35 = .ok (.invokevirtual 171, 3) := by decide +kernel
theorem dX8_carryOut_38 : decode cX8_carryOut 38 = .ok (.ireturn, 1) := by decide +kernel
theorem dX8_carryOut_39 : decode cX8_carryOut 39 = .ok (.aload_n 1, 1) := by decide +kernel
theorem dX8_carryOut_40 : decode cX8_carryOut 40 = .ok (.iload_n 3, 1) := by decide +kernel
theorem dX8_carryOut_41 : decode cX8_carryOut 41 = .ok (.invokestatic 347, 3) := by decide +kernel
theorem dX8_carryOut_44 : decode cX8_carryOut 44 = .ok (.ireturn, 1) := by decide +kernel
theorem dX8_carryOut_45 : decode cX8_carryOut 45 = .ok (.aload_n 1, 1) := by decide +kernel
theorem dX8_carryOut_46 : decode cX8_carryOut 46 = .ok (.iload_n 3, 1) := by decide +kernel
theorem dX8_carryOut_47 : decode cX8_carryOut 47 = .ok (.invokestatic 350, 3) := by decide +kernel
theorem dX8_carryOut_50 : decode cX8_carryOut 50 = .ok (.ireturn, 1) := by decide +kernel
theorem dX8_carryOut_51 : decode cX8_carryOut 51 = .ok (.aload_n 1, 1) := by decide +kernel
theorem dX8_carryOut_52 : decode cX8_carryOut 52 = .ok (.iload_n 3, 1) := by decide +kernel
theorem dX8_carryOut_53 : decode cX8_carryOut 53 = .ok (.invokestatic 353, 3) := by decide +kernel
theorem dX8_carryOut_56 : decode cX8_carryOut 56 = .ok (.ireturn, 1) := by decide +kernel
theorem dX8_carryOut_57 : decode cX8_carryOut 57 = .ok (.aload_n 0, 1) := by decide +kernel
theorem dX8_carryOut_58 : decode cX8_carryOut 58 = .ok (.aload_n 1, 1) := by decide +kernel
theorem dX8_carryOut_59 : decode cX8_carryOut 59 = .ok (.invokevirtual 356, 3) := by decide +kernel
theorem dX8_carryOut_62 : decode cX8_carryOut 62 = .ok (.ireturn, 1) := by decide +kernel
theorem dX8_addTo_0 : decode cX8_addTo 0 = .ok (.iload_n 2, 1) := by decide +kernel
theorem dX8_addTo_1 : decode cX8_addTo 1 = .ok (.invokestatic 98, 3) := by decide +kernel
theorem dX8_addTo_4 : decode cX8_addTo 4 = .ok (.ifCond .ne 5, 3) := by decide +kernel
theorem dX8_addTo_7 : decode cX8_addTo 7 = .ok (.iconst (-1), 1) := by decide +kernel
theorem dX8_addTo_8 : decode cX8_addTo 8 = .ok (.ireturn, 1) := by decide +kernel
theorem dX8_addTo_9 : decode cX8_addTo 9 = .ok (.aload_n 1, 1) := by decide +kernel
theorem dX8_addTo_10 : decode cX8_addTo 10 = .ok (.iload_n 2, 1) := by decide +kernel
theorem dX8_addTo_11 : decode cX8_addTo 11 = .ok (.invokevirtual 105, 3) := by decide +kernel
theorem dX8_addTo_14 : decode cX8_addTo 14 = .ok (.ifCond .ne 19, 3) := by decide +kernel
theorem dX8_addTo_17 : decode cX8_addTo 17 = .ok (.aload_n 0, 1) := by decide +kernel
theorem dX8_addTo_18 : decode cX8_addTo 18 = .ok (.getfield 45, 3) := by decide +kernel
theorem dX8_addTo_21 : decode cX8_addTo 21 = .ok (.aload_n 0, 1) := by decide +kernel
theorem dX8_addTo_22 : decode cX8_addTo 22 = .ok (.invokevirtual 108, 3) := by decide +kernel
theorem dX8_addTo_25 : decode cX8_addTo 25 = .ok (.aload_n 1, 1) := by decide +kernel
theorem dX8_addTo_26 : decode cX8_addTo 26 = .ok (.iload_n 2, 1) := by decide +kernel
theorem dX8_addTo_27 : decode cX8_addTo 27 = .ok (.invokevirtual 112, 3) := by decide +kernel
theorem dX8_addTo_30 : decode cX8_addTo 30 = .ok (.ifCond .eq 6, 3) := by decide +kernel
theorem dX8_addTo_33 : decode cX8_addTo 33 = .ok (.bipush (-3), 2) := by decide +kernel
theorem dX8_addTo_35 : decode cX8_addTo 35 = .ok (.ireturn, 1) := by decide +kernel
theorem dX8_addTo_36 : decode cX8_addTo 36 = .ok (.aload_n 1, 1) := by decide +kernel
theorem dX8_addTo_37 : decode cX8_addTo 37 = .ok (.getfield 137, 3) := by decide +kernel
theorem dX8_addTo_40 : decode cX8_addTo 40 = .ok (.bipush 30, 2) := by decide +kernel
theorem dX8_addTo_42 : decode cX8_addTo 42 = .ok (.if_icmp .lt 6, 3) := by decide +kernel
theorem dX8_addTo_45 : decode cX8_addTo 45 = .ok (.bipush (-5), 2) := by decide +kernel
theorem dX8_addTo_47 : decode cX8_addTo 47 = .ok (.ireturn, 1) := by decide +kernel
theorem dX8_addTo_48 : decode cX8_addTo 48 = .ok (.aload_n 1, 1) := by decide +kernel
theorem dX8_addTo_49 : decode cX8_addTo 49 = .ok (.iload_n 2, 1) := by decide +kernel
theorem dX8_addTo_50 : decode cX8_addTo 50 = .ok (.invokevirtual 359, 3) := by decide +kernel
theorem dX8_addTo_53 : decode cX8_addTo 53 = .ok (.aload_n 1, 1) := by decide +kernel
theorem dX8_addTo_54 : decode cX8_addTo 54 = .ok (.getfield 137, 3) := by decide +kernel
theorem dX8_addTo_57 : decode cX8_addTo 57 = .ok (.ireturn, 1) := by decide +kernel
theorem dX8_takeFrom_0 : decode cX8_takeFrom 0 = .ok (.iload_n 1, 1) := by decide +kernel
theorem dX8_takeFrom_1 : decode cX8_takeFrom 1 = .ok (.invokestatic 98, 3) := by decide +kernel
theorem dX8_takeFrom_4 : decode cX8_takeFrom 4 = .ok (.ifCond .ne 5, 3) := by decide +kernel
theorem dX8_takeFrom_7 : decode cX8_takeFrom 7 = .ok (.iconst (-1), 1) := by decide +kernel
theorem dX8_takeFrom_8 : decode cX8_takeFrom 8 = .ok (.ireturn, 1) := by decide +kernel
theorem dX8_takeFrom_9 : decode cX8_takeFrom 9 = .ok (.aload_n 0, 1) := by decide +kernel
theorem dX8_takeFrom_10 : decode cX8_takeFrom 10 = .ok (.iload_n 1, 1) := by decide +kernel
theorem dX8_takeFrom_11 : decode cX8_takeFrom 11 = .ok (.invokevirtual 105, 3) := by decide +kernel
theorem dX8_takeFrom_14 : decode cX8_takeFrom 14 = .ok (.ifCond .ne 6, 3) := by decide +kernel
theorem dX8_takeFrom_17 : decode cX8_takeFrom 17 = .ok (.bipush (-3), 2) := by decide +kernel
theorem dX8_takeFrom_19 : decode cX8_takeFrom 19 = .ok (.ireturn, 1) := by decide +kernel
theorem dX8_takeFrom_20 : decode cX8_takeFrom 20 = .ok (.aload_n 0, 1) := by decide +kernel
theorem dX8_takeFrom_21 : decode cX8_takeFrom 21 = .ok (.iload_n 1, 1) := by decide +kernel
theorem dX8_takeFrom_22 : decode cX8_takeFrom 22 = .ok (.invokevirtual 362, 3) := by decide +kernel
theorem dX8_takeFrom_25 : decode cX8_takeFrom 25 = .ok (.aload_n 0, 1) := by decide +kernel
theorem dX8_takeFrom_26 : decode cX8_takeFrom 26 = .ok (.getfield 137, 3) := by decide +kernel
theorem dX8_takeFrom_29 : decode cX8_takeFrom 29 = .ok (.ireturn, 1) := by decide +kernel
theorem dX8_setSide_0 : decode cX8_setSide 0 = .ok (.iload_n 1, 1) := by decide +kernel
theorem dX8_setSide_1 : decode cX8_setSide 1 = .ok (.iconst 2, 1) := by decide +kernel
theorem dX8_setSide_2 : decode cX8_setSide 2 = .ok (.if_icmp .lt 9, 3) := by decide +kernel
theorem dX8_setSide_5 : decode cX8_setSide 5 = .ok (.iload_n 1, 1) := by decide +kernel
theorem dX8_setSide_6 : decode cX8_setSide 6 = .ok (.bipush 20, 2) := by decide +kernel
theorem dX8_setSide_8 : decode cX8_setSide 8 = .ok (.if_icmp .le 5, 3) := by decide +kernel
theorem dX8_setSide_11 : decode cX8_setSide 11 = .ok (.iconst (-1), 1) := by decide +kernel
theorem dX8_setSide_12 : decode cX8_setSide 12 = .ok (.ireturn, 1) := by decide +kernel
theorem dX8_setSide_13 : decode cX8_setSide 13 = .ok (.iload_n 1, 1) := by decide +kernel
theorem dX8_setSide_14 : decode cX8_setSide 14 = .ok (.aload_n 0, 1) := by decide +kernel
theorem dX8_setSide_15 : decode cX8_setSide 15 = .ok (.getfield 119, 3) := by decide +kernel
theorem dX8_setSide_18 : decode cX8_setSide 18 = .ok (.if_icmp .ne 6, 3) := by decide +kernel
theorem dX8_setSide_21 : decode cX8_setSide 21 = .ok (.bipush (-3), 2) := by decide +kernel
theorem dX8_setSide_23 : decode cX8_setSide 23 = .ok (.ireturn, 1) := by decide +kernel
theorem dX8_setSide_24 : decode cX8_setSide 24 = .ok (.aload_n 0, 1) := by decide +kernel
theorem dX8_setSide_25 : decode cX8_setSide 25 = .ok (.getfield 119, 3) := by decide +kernel
theorem dX8_setSide_28 : decode cX8_setSide 28 = .ok (.istore_n 2, 1) := by decide +kernel
theorem dX8_setSide_29 : decode cX8_setSide 29 = .ok (.aload_n 0, 1) := by decide +kernel
theorem dX8_setSide_30 : decode cX8_setSide 30 = .ok (.iload_n 1, 1) := by decide +kernel
theorem dX8_setSide_31 : decode cX8_setSide 31 = .ok (.putfield 119, 3) := by decide +kernel
theorem dX8_setSide_34 : decode cX8_setSide 34 = .ok (.iload_n 2, 1) := by decide +kernel
theorem dX8_setSide_35 : decode cX8_setSide 35 = .ok (.ireturn, 1) := by decide +kernel
theorem dX8_setSeed_0 : decode cX8_setSeed 0 = .ok (.iload_n 1, 1) := by decide +kernel
theorem dX8_setSeed_1 : decode cX8_setSeed 1 = .ok (.invokestatic 226, 3) := by decide +kernel
theorem dX8_setSeed_4 : decode cX8_setSeed 4 = .ok (.ifCond .ne 5, 3) := by decide +kernel
theorem dX8_setSeed_7 : decode cX8_setSeed 7 = .ok (.iconst (-1), 1) := by decide +kernel
theorem dX8_setSeed_8 : decode cX8_setSeed 8 = .ok (.ireturn, 1) := by decide +kernel
theorem dX8_setSeed_9 : decode cX8_setSeed 9 = .ok (.iload_n 1, 1) := by decide +kernel
theorem dX8_setSeed_10 : decode cX8_setSeed 10 = .ok (.aload_n 0, 1) := by decide +kernel
theorem dX8_setSeed_11 : decode cX8_setSeed 11 = .ok (.getfield 116, 3) := by decide +kernel
theorem dX8_setSeed_14 : decode cX8_setSeed 14 = .ok (.if_icmp .ne 6, 3) := by decide +kernel
theorem dX8_setSeed_17 : decode cX8_setSeed 17 = .ok (.bipush (-3), 2) := by decide +kernel
theorem dX8_setSeed_19 : decode cX8_setSeed 19 = .ok (.ireturn, 1) := by decide +kernel
theorem dX8_setSeed_20 : decode cX8_setSeed 20 = .ok (.aload_n 0, 1) := by decide +kernel
theorem dX8_setSeed_21 : decode cX8_setSeed 21 = .ok (.getfield 116, 3) := by decide +kernel
theorem dX8_setSeed_24 : decode cX8_setSeed 24 = .ok (.istore_n 2, 1) := by decide +kernel
theorem dX8_setSeed_25 : decode cX8_setSeed 25 = .ok (.aload_n 0, 1) := by decide +kernel
theorem dX8_setSeed_26 : decode cX8_setSeed 26 = .ok (.iload_n 1, 1) := by decide +kernel
theorem dX8_setSeed_27 : decode cX8_setSeed 27 = .ok (.putfield 116, 3) := by decide +kernel
theorem dX8_setSeed_30 : decode cX8_setSeed 30 = .ok (.iload_n 2, 1) := by decide +kernel
theorem dX8_setSeed_31 : decode cX8_setSeed 31 = .ok (.ireturn, 1) := by decide +kernel
theorem dX8_buildOn_0 : decode cX8_buildOn 0 = .ok (.iconst 0, 1) := by decide +kernel
theorem dX8_buildOn_1 : decode cX8_buildOn 1 = .ok (.istore_n 2, 1) := by decide +kernel
theorem dX8_buildOn_2 : decode cX8_buildOn 2 = .ok (.iload_n 2, 1) := by decide +kernel
theorem dX8_buildOn_3 : decode cX8_buildOn 3 = .ok (.sipush 256, 3) := by decide +kernel
theorem dX8_buildOn_6 : decode cX8_buildOn 6 = .ok (.if_icmp .ge 91, 3) := by decide +kernel
theorem dX8_buildOn_9 : decode cX8_buildOn 9 = .ok (.aload_n 1, 1) := by decide +kernel
theorem dX8_buildOn_10 : decode cX8_buildOn 10 = .ok (.getfield 116, 3) := by decide +kernel
theorem dX8_buildOn_13 : decode cX8_buildOn 13 = .ok (.iload_n 2, 1) := by decide +kernel
theorem dX8_buildOn_14 : decode cX8_buildOn 14 = .ok (.iadd, 1) := by decide +kernel
theorem dX8_buildOn_15 : decode cX8_buildOn 15 = .ok (.sipush 256, 3) := by decide +kernel
theorem dX8_buildOn_18 : decode cX8_buildOn 18 = .ok (.irem, 1) := by decide +kernel
theorem dX8_buildOn_19 : decode cX8_buildOn 19 = .ok (.istore_n 3, 1) := by decide +kernel
theorem dX8_buildOn_20 : decode cX8_buildOn 20 = .ok (.aload_n 0, 1) := by decide +kernel
theorem dX8_buildOn_21 : decode cX8_buildOn 21 = .ok (.getfield 54, 3) := by decide +kernel
theorem dX8_buildOn_24 : decode cX8_buildOn 24 = .ok (.aload_n 1, 1) := by decide +kernel
theorem dX8_buildOn_25 : decode cX8_buildOn 25 = .ok (.iload_n 3, 1) := by decide +kernel
theorem dX8_buildOn_26 : decode cX8_buildOn 26 = .ok (.aload_n 1, 1) := by decide +kernel
theorem dX8_buildOn_27 : decode cX8_buildOn 27 = .ok (.getfield 119, 3) := by decide +kernel
theorem dX8_buildOn_30 : decode cX8_buildOn 30 = .ok (.invokevirtual 246, 3) := by decide +kernel
theorem dX8_buildOn_33 : decode cX8_buildOn 33 = .ok (.ifCond .ne 6, 3) := by decide +kernel
theorem dX8_buildOn_36 : decode cX8_buildOn 36 = .ok (.goto 55, 3) := by decide +kernel
theorem dX8_buildOn_39 : decode cX8_buildOn 39 = .ok (.aload_n 0, 1) := by decide +kernel
theorem dX8_buildOn_40 : decode cX8_buildOn 40 = .ok (.getfield 54, 3) := by decide +kernel
theorem dX8_buildOn_43 : decode cX8_buildOn 43 = .ok (.aload_n 1, 1) := by decide +kernel
theorem dX8_buildOn_44 : decode cX8_buildOn 44 = .ok (.iload_n 3, 1) := by decide +kernel
theorem dX8_buildOn_45 : decode cX8_buildOn 45 = .ok (.aload_n 0, 1) := by decide +kernel
theorem dX8_buildOn_46 : decode cX8_buildOn 46 = .ok (.invokevirtual 108, 3) := by decide +kernel
theorem dX8_buildOn_49 : decode cX8_buildOn 49 = .ok (.invokevirtual 233, 3) := by decide +kernel
theorem dX8_buildOn_52 : decode cX8_buildOn 52 = .ok (.aload_n 1, 1) := by decide +kernel
theorem dX8_buildOn_53 : decode cX8_buildOn 53 = .ok (.iload_n 3, 1) := by decide +kernel
theorem dX8_buildOn_54 : decode cX8_buildOn 54 = .ok (.putfield 116, 3) := by decide +kernel
theorem dX8_buildOn_57 : decode cX8_buildOn 57 = .ok (.aload_n 1, 1) := by decide +kernel
theorem dX8_buildOn_58 : decode cX8_buildOn 58 = .ok (.getfield 250, 3) := by decide +kernel
theorem dX8_buildOn_61 : decode cX8_buildOn 61 = .ok (.aload_n 1, 1) := by decide +kernel
theorem dX8_buildOn_62 : decode cX8_buildOn 62 = .ok (.aload_n 0, 1) := by decide +kernel
theorem dX8_buildOn_63 : decode cX8_buildOn 63 = .ok (.getfield 54, 3) := by decide +kernel
theorem dX8_buildOn_66 : decode cX8_buildOn 66 = .ok (.invokevirtual 365, 3) := by decide +kernel
theorem dX8_buildOn_69 : decode cX8_buildOn 69 = .ok (.aload_n 1, 1) := by decide +kernel
theorem dX8_buildOn_70 : decode cX8_buildOn 70 = .ok (.getfield 149, 3) := by decide +kernel
theorem dX8_buildOn_73 : decode cX8_buildOn 73 = .ok (.iconst 0, 1) := by decide +kernel
theorem dX8_buildOn_74 : decode cX8_buildOn 74 = .ok (.aload_n 1, 1) := by decide +kernel
theorem dX8_buildOn_75 : decode cX8_buildOn 75 = .ok (.getfield 149, 3) := by decide +kernel
theorem dX8_buildOn_78 : decode cX8_buildOn 78 = .ok (.iconst 0, 1) := by decide +kernel
theorem dX8_buildOn_79 : decode cX8_buildOn 79 = .ok (.iaload, 1) := by decide +kernel
theorem dX8_buildOn_80 : decode cX8_buildOn 80 = .ok (.iconst 1, 1) := by decide +kernel
theorem dX8_buildOn_81 : decode cX8_buildOn 81 = .ok (.iadd, 1) := by decide +kernel
theorem dX8_buildOn_82 : decode cX8_buildOn 82 = .ok (.sipush 999, 3) := by decide +kernel
theorem dX8_buildOn_85 : decode cX8_buildOn 85 = .ok (.invokestatic 369, 3) := by decide +kernel
theorem dX8_buildOn_88 : decode cX8_buildOn 88 = .ok (.iastore, 1) := by decide +kernel
theorem dX8_buildOn_89 : decode cX8_buildOn 89 = .ok (.iload_n 2, 1) := by decide +kernel
theorem dX8_buildOn_90 : decode cX8_buildOn 90 = .ok (.ireturn, 1) := by decide +kernel
theorem dX8_buildOn_91 : decode cX8_buildOn 91 = .ok (.iinc 2 1, 3) := by decide +kernel
theorem dX8_buildOn_94 : decode cX8_buildOn 94 = .ok (.goto (-92), 3) := by decide +kernel
theorem dX8_buildOn_97 : decode cX8_buildOn 97 = .ok (.bipush (-3), 2) := by decide +kernel
theorem dX8_buildOn_99 : decode cX8_buildOn 99 = .ok (.ireturn, 1) := by decide +kernel
theorem dX8_runOnce_0 : decode cX8_runOnce 0 = .ok (.aload_n 0, 1) := by decide +kernel
theorem dX8_runOnce_1 : decode cX8_runOnce 1 = .ok (.getfield 14, 3) := by decide +kernel
theorem dX8_runOnce_4 : decode cX8_runOnce 4 = .ok (.getfield 102, 3) := by decide +kernel
theorem dX8_runOnce_7 : decode cX8_runOnce 7 = .ok (.astore 5, 2) := by decide +kernel
theorem dX8_runOnce_9 : decode cX8_runOnce 9 = .ok (.aload_n 0, 1) := by decide +kernel
theorem dX8_runOnce_10 : decode cX8_runOnce 10 = .ok (.iload_n 3, 1) := by decide +kernel
theorem dX8_runOnce_11 : decode cX8_runOnce 11 = .ok (.iload 4, 2) := by decide +kernel
theorem dX8_runOnce_13 : decode cX8_runOnce 13 = .ok (.invokevirtual 372, 3) := by decide +kernel
theorem dX8_runOnce_16 : decode cX8_runOnce 16 = .ok (.aload_n 0, 1) := by decide +kernel
theorem dX8_runOnce_17 : decode cX8_runOnce 17 = .ok (.getfield 45, 3) := by decide +kernel
theorem dX8_runOnce_20 : decode cX8_runOnce 20 = .ok (.aload_n 1, 1) := by decide +kernel
theorem dX8_runOnce_21 : decode cX8_runOnce 21 = .ok (.aload_n 1, 1) := by decide +kernel
theorem dX8_runOnce_22 : decode cX8_runOnce 22 = .ok (.getfield 375, 3) := by decide +kernel
theorem dX8_runOnce_25 : decode cX8_runOnce 25 = .ok (.iload_n 2, 1) := by decide +kernel
theorem dX8_runOnce_26 : decode cX8_runOnce 26 = .ok (.iaload, 1) := by decide +kernel
theorem dX8_runOnce_27 : decode cX8_runOnce 27 = .ok (.invokevirtual 378, 3) := by decide +kernel
theorem dX8_runOnce_30 : decode cX8_runOnce 30 = .ok (.iconst 1, 1) := by decide +kernel
theorem dX8_runOnce_31 : decode cX8_runOnce 31 = .ok (.if_icmp .eq 6, 3) := by decide +kernel
theorem dX8_runOnce_34 : decode cX8_runOnce 34 = .ok (.ldc 204, 2) := by decide +kernel
theorem dX8_runOnce_36 : decode cX8_runOnce 36 = .ok (.ireturn, 1) := by decide +kernel
theorem dX8_runOnce_37 : decode cX8_runOnce 37 = .ok (.aload_n 0, 1) := by decide +kernel
theorem dX8_runOnce_38 : decode cX8_runOnce 38 = .ok (.getfield 45, 3) := by decide +kernel
theorem dX8_runOnce_41 : decode cX8_runOnce 41 = .ok (.aload_n 1, 1) := by decide +kernel
theorem dX8_runOnce_42 : decode cX8_runOnce 42 = .ok (.aload_n 1, 1) := by decide +kernel
theorem dX8_runOnce_43 : decode cX8_runOnce 43 = .ok (.getfield 382, 3) := by decide +kernel
theorem dX8_runOnce_46 : decode cX8_runOnce 46 = .ok (.iload_n 2, 1) := by decide +kernel
theorem dX8_runOnce_47 : decode cX8_runOnce 47 = .ok (.iaload, 1) := by decide +kernel
theorem dX8_runOnce_48 : decode cX8_runOnce 48 = .ok (.invokevirtual 378, 3) := by decide +kernel
theorem dX8_runOnce_51 : decode cX8_runOnce 51 = .ok (.istore 6, 2) := by decide +kernel
theorem dX8_runOnce_53 : decode cX8_runOnce 53 = .ok (.iload 6, 2) := by decide +kernel
theorem dX8_runOnce_55 : decode cX8_runOnce 55 = .ok (.ldc 204, 2) := by decide +kernel
theorem dX8_runOnce_57 : decode cX8_runOnce 57 = .ok (.if_icmp .ne 6, 3) := by decide +kernel
theorem dX8_runOnce_60 : decode cX8_runOnce 60 = .ok (.bipush (-3), 2) := by decide +kernel
theorem dX8_runOnce_62 : decode cX8_runOnce 62 = .ok (.ireturn, 1) := by decide +kernel
theorem dX8_runOnce_63 : decode cX8_runOnce 63 = .ok (.aload_n 0, 1) := by decide +kernel
theorem dX8_runOnce_64 : decode cX8_runOnce 64 = .ok (.getfield 29, 3) := by decide +kernel
theorem dX8_runOnce_67 : decode cX8_runOnce 67 = .ok (.aload 5, 2) := by decide +kernel
theorem dX8_runOnce_69 : decode cX8_runOnce 69 = .ok (.invokevirtual 341, 3) := by decide +kernel
theorem dX8_runOnce_72 : decode cX8_runOnce 72 = .ok (.aload_n 0, 1) := by decide +kernel
theorem dX8_runOnce_73 : decode cX8_runOnce 73 = .ok (.aload 5, 2) := by decide +kernel
theorem dX8_runOnce_75 : decode cX8_runOnce 75 = .ok (.aload_n 1, 1) := by decide +kernel
theorem dX8_runOnce_76 : decode cX8_runOnce 76 = .ok (.getfield 205, 3) := by decide +kernel
theorem dX8_runOnce_79 : decode cX8_runOnce 79 = .ok (.iload_n 2, 1) := by decide +kernel
theorem dX8_runOnce_80 : decode cX8_runOnce 80 = .ok (.iaload, 1) := by decide +kernel
theorem dX8_runOnce_81 : decode cX8_runOnce 81 = .ok (.iload 6, 2) := by decide +kernel
theorem dX8_runOnce_83 : decode cX8_runOnce 83 = .ok (.invokevirtual 324, 3) := by decide +kernel
theorem dX8_runOnce_86 : decode cX8_runOnce 86 = .ok (.istore 7, 2) := by decide +kernel
theorem dX8_runOnce_88 : decode cX8_runOnce 88 = .ok (.iload 7, 2) := by decide +kernel
theorem dX8_runOnce_90 : decode cX8_runOnce 90 = .ok (.ifCond .lt 16, 3) := by decide +kernel
theorem dX8_runOnce_93 : decode cX8_runOnce 93 = .ok (.aload_n 0, 1) := by decide +kernel
theorem dX8_runOnce_94 : decode cX8_runOnce 94 = .ok (.getfield 29, 3) := by decide +kernel
theorem dX8_runOnce_97 : decode cX8_runOnce 97 = .ok (.aload_n 1, 1) := by decide +kernel
theorem dX8_runOnce_98 : decode cX8_runOnce 98 = .ok (.getfield 205, 3) := by decide +kernel
theorem dX8_runOnce_101 : decode cX8_runOnce 101 = .ok (.iload_n 2, 1) := by decide +kernel
theorem dX8_runOnce_102 : decode cX8_runOnce 102 = .ok (.iaload, 1) := by decide +kernel
theorem dX8_runOnce_103 : decode cX8_runOnce 103 = .ok (.invokevirtual 344, 3) := by decide +kernel
theorem dX8_runOnce_106 : decode cX8_runOnce 106 = .ok (.iload 7, 2) := by decide +kernel
theorem dX8_runOnce_108 : decode cX8_runOnce 108 = .ok (.ireturn, 1) := by decide +kernel
theorem dX8_tellOrders_0 : decode cX8_tellOrders 0 = .ok (.aload_n 0, 1) := by decide +kernel
theorem dX8_tellOrders_1 : decode cX8_tellOrders 1 = .ok (.getfield 14, 3) := by decide +kernel
theorem dX8_tellOrders_4 : decode cX8_tellOrders 4 = .ok (.getfield 102, 3) := by decide +kernel
theorem dX8_tellOrders_7 : decode cX8_tellOrders 7 = .ok (.astore_n 3, 1) := by decide +kernel
theorem dX8_tellOrders_8 : decode cX8_tellOrders 8 = .ok (.aload_n 0, 1) := by decide +kernel
theorem dX8_tellOrders_9 : decode cX8_tellOrders 9 = .ok (.getfield 45, 3) := by decide +kernel
theorem dX8_tellOrders_12 : decode cX8_tellOrders 12 = .ok (.getfield 384, 3) := by decide +kernel
theorem dX8_tellOrders_15 : decode cX8_tellOrders 15 = .ok (.astore 4, 2) := by decide +kernel
theorem dX8_tellOrders_17 : decode cX8_tellOrders 17 = .ok (.aload 4, 2) := by decide +kernel
theorem dX8_tellOrders_19 : decode cX8_tellOrders 19 = .ok (.bipush 6, 2) := by decide +kernel
theorem dX8_tellOrders_21 : decode cX8_tellOrders 21 = .ok (.aload_n 3, 1) := by decide +kernel
theorem dX8_tellOrders_22 : decode cX8_tellOrders 22 = .ok (.getfield 149, 3) := by decide +kernel
theorem dX8_tellOrders_25 : decode cX8_tellOrders 25 = .ok (.iconst 0, 1) := by decide +kernel
theorem dX8_tellOrders_26 : decode cX8_tellOrders 26 = .ok (.iaload, 1) := by decide +kernel
theorem dX8_tellOrders_27 : decode cX8_tellOrders 27 = .ok (.iastore, 1) := by decide +kernel
theorem dX8_tellOrders_28 : decode cX8_tellOrders 28 = .ok (.aload 4, 2) := by decide +kernel
theorem dX8_tellOrders_30 : decode cX8_tellOrders 30 = .ok (.bipush 7, 2) := by decide +kernel
theorem dX8_tellOrders_32 : decode cX8_tellOrders 32 = .ok (.iload_n 1, 1) := by decide +kernel
theorem dX8_tellOrders_33 : decode cX8_tellOrders 33 = .ok (.iastore, 1) := by decide +kernel
theorem dX8_tellOrders_34 : decode cX8_tellOrders 34 = .ok (.aload 4, 2) := by decide +kernel
theorem dX8_tellOrders_36 : decode cX8_tellOrders 36 = .ok (.bipush 8, 2) := by decide +kernel
theorem dX8_tellOrders_38 : decode cX8_tellOrders 38 = .ok (.iload_n 2, 1) := by decide +kernel
theorem dX8_tellOrders_39 : decode cX8_tellOrders 39 = .ok (.iastore, 1) := by decide +kernel
theorem dX8_tellOrders_40 : decode cX8_tellOrders 40 = .ok (.aload 4, 2) := by decide +kernel
theorem dX8_tellOrders_42 : decode cX8_tellOrders 42 = .ok (.bipush 9, 2) := by decide +kernel
theorem dX8_tellOrders_44 : decode cX8_tellOrders 44 = .ok (.aload_n 3, 1) := by decide +kernel
theorem dX8_tellOrders_45 : decode cX8_tellOrders 45 = .ok (.getfield 137, 3) := by decide +kernel
theorem dX8_tellOrders_48 : decode cX8_tellOrders 48 = .ok (.iastore, 1) := by decide +kernel
theorem dX8_tellOrders_49 : decode cX8_tellOrders 49 = .ok (.iconst 0, 1) := by decide +kernel
theorem dX8_tellOrders_50 : decode cX8_tellOrders 50 = .ok (.istore 5, 2) := by decide +kernel
theorem dX8_tellOrders_52 : decode cX8_tellOrders 52 = .ok (.iload 5, 2) := by decide +kernel
theorem dX8_tellOrders_54 : decode cX8_tellOrders 54 = .ok (.aload_n 0, 1) := by decide +kernel
theorem dX8_tellOrders_55 : decode cX8_tellOrders 55 = .ok (.getfield 61, 3) := by decide +kernel
theorem dX8_tellOrders_58 : decode cX8_tellOrders 58 = .ok (.getfield 387, 3) := by decide +kernel
theorem dX8_tellOrders_61 : decode cX8_tellOrders 61 = .ok (.if_icmp .ge 60, 3) := by decide +kernel
theorem dX8_tellOrders_64 : decode cX8_tellOrders 64 = .ok (.aload_n 0, 1) := by decide +kernel
theorem dX8_tellOrders_65 : decode cX8_tellOrders 65 = .ok (.getfield 61, 3) := by decide +kernel
theorem dX8_tellOrders_68 : decode cX8_tellOrders 68 = .ok (.getfield 390, 3) := by decide +kernel
theorem dX8_tellOrders_71 : decode cX8_tellOrders 71 = .ok (.iload 5, 2) := by decide +kernel
theorem dX8_tellOrders_73 : decode cX8_tellOrders 73 = .ok (.iaload, 1) := by decide +kernel
theorem dX8_tellOrders_74 : decode cX8_tellOrders 74 = .ok (.istore 6, 2) := by decide +kernel
theorem dX8_tellOrders_76 : decode cX8_tellOrders 76 = .ok (.aload 4, 2) := by decide +kernel
theorem dX8_tellOrders_78 : decode cX8_tellOrders 78 = .ok (.bipush 10, 2) := by decide +kernel
theorem dX8_tellOrders_80 : decode cX8_tellOrders 80 = .ok (.iload 5, 2) := by decide +kernel
theorem dX8_tellOrders_82 : decode cX8_tellOrders 82 = .ok (.iadd, 1) := by decide +kernel
theorem dX8_tellOrders_83 : decode cX8_tellOrders 83 = .ok (.aload_n 0, 1) := by decide +kernel
theorem dX8_tellOrders_84 : decode cX8_tellOrders 84 = .ok (.getfield 61, 3) := by decide +kernel
theorem dX8_tellOrders_87 : decode cX8_tellOrders 87 = .ok (.getfield 393, 3) := by decide +kernel
theorem dX8_tellOrders_90 : decode cX8_tellOrders 90 = .ok (.iload 5, 2) := by decide +kernel
theorem dX8_tellOrders_92 : decode cX8_tellOrders 92 = .ok (.baload, 1) := by decide +kernel
theorem dX8_tellOrders_93 : decode cX8_tellOrders 93 = .ok (.ifCond .eq 12, 3) := by decide +kernel
theorem dX8_tellOrders_96 : decode cX8_tellOrders 96 = .ok (.aload_n 3, 1) := by decide +kernel
theorem dX8_tellOrders_97 : decode cX8_tellOrders 97 = .ok (.iload 6, 2) := by decide +kernel
theorem dX8_tellOrders_99 : decode cX8_tellOrders 99 = .ok (.invokevirtual 129, 3) := by decide +kernel
theorem dX8_tellOrders_102 : decode cX8_tellOrders 102 = .ok (.goto 12, 3) := by decide +kernel
theorem dX8_tellOrders_105 : decode cX8_tellOrders 105 = .ok (.aload_n 3, 1) := by decide +kernel
theorem dX8_tellOrders_106 : decode cX8_tellOrders 106 = .ok (.getfield 250, 3) := by decide +kernel
theorem dX8_tellOrders_109 : decode cX8_tellOrders 109 = .ok (.iload 6, 2) := by decide +kernel
theorem dX8_tellOrders_111 : decode cX8_tellOrders 111 = .ok (.invokevirtual 263, 3) := by decide +kernel
theorem dX8_tellOrders_114 : decode cX8_tellOrders 114 = .ok (.iastore, 1) := by decide +kernel
theorem dX8_tellOrders_115 : decode cX8_tellOrders 115 = .ok (.iinc 5 1, 3) := by decide +kernel
theorem dX8_tellOrders_118 : decode cX8_tellOrders 118 = .ok (.goto (-66), 3) := by decide +kernel
theorem dX8_tellOrders_121 : decode cX8_tellOrders 121 = .ok (.return_, 1) := by decide +kernel
theorem dX8_collectPossible_0 : decode cX8_collectPossible 0 = .ok (.aload_n 0, 1) := by decide +kernel
theorem dX8_collectPossible_1 : decode cX8_collectPossible 1 = .ok (.getfield 14, 3) := by decide +kernel
theorem dX8_collectPossible_4 : decode cX8_collectPossible 4 = .ok (.getfield 102, 3) := by decide +kernel
theorem dX8_collectPossible_7 : decode cX8_collectPossible 7 = .ok (.astore_n 1, 1) := by decide +kernel
theorem dX8_collectPossible_8 : decode cX8_collectPossible 8 = .ok (.iconst 0, 1) := by decide +kernel
theorem dX8_collectPossible_9 : decode cX8_collectPossible 9 = .ok (.istore_n 2, 1) := by decide +kernel
theorem dX8_collectPossible_10 : decode cX8_collectPossible 10 = .ok (.iconst 0, 1) := by decide +kernel
theorem dX8_collectPossible_11 : decode cX8_collectPossible 11 = .ok (.istore_n 3, 1) := by decide +kernel
theorem dX8_collectPossible_12 : decode cX8_collectPossible 12 = .ok (.iload_n 3, 1) := by decide +kernel
theorem dX8_collectPossible_13 : decode cX8_collectPossible 13 = .ok (.aload_n 1, 1) := by decide +kernel
theorem dX8_collectPossible_14 : decode cX8_collectPossible 14 = .ok (.getfield 137, 3) := by decide +kernel
theorem dX8_collectPossible_17 : decode cX8_collectPossible 17 = .ok (.if_icmp .ge 40, 3) := by decide +kernel
theorem dX8_collectPossible_20 : decode cX8_collectPossible 20 = .ok (.aload_n 0, 1) := by decide +kernel
theorem dX8_collectPossible_21 : decode cX8_collectPossible 21 = .ok (.getfield 14, 3) := by decide +kernel
theorem dX8_collectPossible_24 : decode cX8_collectPossible 24 = .ok (.aload_n 1, 1) := by decide +kernel
theorem dX8_collectPossible_25 : decode cX8_collectPossible 25 = .ok (.getfield 140, 3) := by decide +kernel
theorem dX8_collectPossible_28 : decode cX8_collectPossible 28 = .ok (.iload_n 3, 1) := by decide +kernel
theorem dX8_collectPossible_29 : decode cX8_collectPossible 29 = .ok (.iaload, 1) := by decide +kernel
theorem dX8_collectPossible_30 : decode cX8_collectPossible 30 = .ok (.invokevirtual 397, 3) := by decide +kernel
theorem dX8_collectPossible_33 : decode cX8_collectPossible 33 = .ok (.ifCond .eq 18, 3) := by decide +kernel
theorem dX8_collectPossible_36 : decode cX8_collectPossible 36 = .ok (.aload_n 0, 1) := by decide +kernel
theorem dX8_collectPossible_37 : decode cX8_collectPossible 37 = .ok (.getfield 81, 3) := by decide +kernel
theorem dX8_collectPossible_40 : decode cX8_collectPossible 40 = .ok (.iload_n 2, 1) := by decide +kernel
theorem dX8_collectPossible_41 : decode cX8_collectPossible 41 = .ok (.aload_n 1, 1) := by decide +kernel
theorem dX8_collectPossible_42 : decode cX8_collectPossible 42 = .ok (.getfield 140, 3) := by decide +kernel
theorem dX8_collectPossible_45 : decode cX8_collectPossible 45 = .ok (.iload_n 3, 1) := by decide +kernel
theorem dX8_collectPossible_46 : decode cX8_collectPossible 46 = .ok (.iaload, 1) := by decide +kernel
theorem dX8_collectPossible_47 : decode cX8_collectPossible 47 = .ok (.iastore, 1) := by decide +kernel
theorem dX8_collectPossible_48 : decode cX8_collectPossible 48 = .ok (.iinc 2 1, 3) := by decide +kernel
theorem dX8_collectPossible_51 : decode cX8_collectPossible 51 = .ok (.iinc 3 1, 3) := by decide +kernel
theorem dX8_collectPossible_54 : decode cX8_collectPossible 54 = .ok (.goto (-42), 3) := by decide +kernel
theorem dX8_collectPossible_57 : decode cX8_collectPossible 57 = .ok (.iload_n 2, 1) := by decide +kernel
theorem dX8_collectPossible_58 : decode cX8_collectPossible 58 = .ok (.ireturn, 1) := by decide +kernel
theorem dX8_nextDrawing_0 : decode cX8_nextDrawing 0 = .ok (.iload_n 0, 1) := by decide +kernel
theorem dX8_nextDrawing_1 : decode cX8_nextDrawing 1 = .ok (.i2l, 1) := by decide +kernel
theorem dX8_nextDrawing_2 : decode cX8_nextDrawing 2 = .ok (.ldc2_w 400, 3) := by decide +kernel
theorem dX8_nextDrawing_5 : decode cX8_nextDrawing 5 = .ok (.lmul, 1) := by decide +kernel
theorem dX8_nextDrawing_6 : decode cX8_nextDrawing 6 = .ok (.ldc2_w 402, 3) := by decide +kernel
theorem dX8_nextDrawing_9 : decode cX8_nextDrawing 9 = .ok (.ladd, 1) := by decide +kernel
theorem dX8_nextDrawing_10 : decode cX8_nextDrawing 10 = .ok (.ldc2_w 404, 3) := by decide +kernel
theorem dX8_nextDrawing_13 : decode cX8_nextDrawing 13 = .ok (.lrem, 1) := by decide +kernel
theorem dX8_nextDrawing_14 : decode cX8_nextDrawing 14 = .ok (.l2i, 1) := by decide +kernel
theorem dX8_nextDrawing_15 : decode cX8_nextDrawing 15 = .ok (.ireturn, 1) := by decide +kernel
theorem dX8_isKey_0 : decode cX8_isKey 0 = .ok (.iload_n 0, 1) := by decide +kernel
theorem dX8_isKey_1 : decode cX8_isKey 1 = .ok (.ifCond .lt 14, 3) := by decide +kernel
theorem dX8_isKey_4 : decode cX8_isKey 4 = .ok (.iload_n 0, 1) := by decide +kernel
theorem dX8_isKey_5 : decode cX8_isKey 5 = .ok (.sipush 1000, 3) := by decide +kernel
theorem dX8_isKey_8 : decode cX8_isKey 8 = .ok (.if_icmp .ge 7, 3) := by decide +kernel
theorem dX8_isKey_11 : decode cX8_isKey 11 = .ok (.iconst 1, 1) := by decide +kernel
theorem dX8_isKey_12 : decode cX8_isKey 12 = .ok (.goto 4, 3) := by decide +kernel
theorem dX8_isKey_15 : decode cX8_isKey 15 = .ok (.iconst 0, 1) := by decide +kernel
theorem dX8_isKey_16 : decode cX8_isKey 16 = .ok (.ireturn, 1) := by decide +kernel
theorem dX8_isSeed_0 : decode cX8_isSeed 0 = .ok (.iload_n 0, 1) := by decide +kernel
theorem dX8_isSeed_1 : decode cX8_isSeed 1 = .ok (.ifCond .lt 14, 3) := by decide +kernel
theorem dX8_isSeed_4 : decode cX8_isSeed 4 = .ok (.iload_n 0, 1) := by decide +kernel
theorem dX8_isSeed_5 : decode cX8_isSeed 5 = .ok (.sipush 256, 3) := by decide +kernel
theorem dX8_isSeed_8 : decode cX8_isSeed 8 = .ok (.if_icmp .ge 7, 3) := by decide +kernel
theorem dX8_isSeed_11 : decode cX8_isSeed 11 = .ok (.iconst 1, 1) := by decide +kernel
theorem dX8_isSeed_12 : decode cX8_isSeed 12 = .ok (.goto 4, 3) := by decide +kernel
theorem dX8_isSeed_15 : decode cX8_isSeed 15 = .ok (.iconst 0, 1) := by decide +kernel
theorem dX8_isSeed_16 : decode cX8_isSeed 16 = .ok (.ireturn, 1) := by decide +kernel
theorem dX8_vertexOf_0 : decode cX8_vertexOf 0 = .ok (.iload_n 0, 1) := by decide +kernel
theorem dX8_vertexOf_1 : decode cX8_vertexOf 1 = .ok (.iload_n 1, 1) := by decide +kernel
theorem dX8_vertexOf_2 : decode cX8_vertexOf 2 = .ok (.bipush 114, 2) := by decide +kernel
theorem dX8_vertexOf_4 : decode cX8_vertexOf 4 = .ok (.imul, 1) := by decide +kernel
theorem dX8_vertexOf_5 : decode cX8_vertexOf 5 = .ok (.sipush 377, 3) := by decide +kernel
theorem dX8_vertexOf_8 : decode cX8_vertexOf 8 = .ok (.iadd, 1) := by decide +kernel
theorem dX8_vertexOf_9 : decode cX8_vertexOf 9 = .ok (.imul, 1) := by decide +kernel
theorem dX8_vertexOf_10 : decode cX8_vertexOf 10 = .ok (.iload_n 2, 1) := by decide +kernel
theorem dX8_vertexOf_11 : decode cX8_vertexOf 11 = .ok (.iload_n 1, 1) := by decide +kernel
theorem dX8_vertexOf_12 : decode cX8_vertexOf 12 = .ok (.bipush 50, 2) := by decide +kernel
theorem dX8_vertexOf_14 : decode cX8_vertexOf 14 = .ok (.imul, 1) := by decide +kernel
theorem dX8_vertexOf_15 : decode cX8_vertexOf 15 = .ok (.bipush 101, 2) := by decide +kernel
theorem dX8_vertexOf_17 : decode cX8_vertexOf 17 = .ok (.iadd, 1) := by decide +kernel
theorem dX8_vertexOf_18 : decode cX8_vertexOf 18 = .ok (.imul, 1) := by decide +kernel
theorem dX8_vertexOf_19 : decode cX8_vertexOf 19 = .ok (.iadd, 1) := by decide +kernel
theorem dX8_vertexOf_20 : decode cX8_vertexOf 20 = .ok (.iload_n 1, 1) := by decide +kernel
theorem dX8_vertexOf_21 : decode cX8_vertexOf 21 = .ok (.iconst 5, 1) := by decide +kernel
theorem dX8_vertexOf_22 : decode cX8_vertexOf 22 = .ok (.imul, 1) := by decide +kernel
theorem dX8_vertexOf_23 : decode cX8_vertexOf 23 = .ok (.iadd, 1) := by decide +kernel
theorem dX8_vertexOf_24 : decode cX8_vertexOf 24 = .ok (.istore 4, 2) := by decide +kernel
theorem dX8_vertexOf_26 : decode cX8_vertexOf 26 = .ok (.iload_n 3, 1) := by decide +kernel
theorem dX8_vertexOf_27 : decode cX8_vertexOf 27 = .ok (.iconst 1, 1) := by decide +kernel
theorem dX8_vertexOf_28 : decode cX8_vertexOf 28 = .ok (.if_icmp .ge 7, 3) := by decide +kernel
theorem dX8_vertexOf_31 : decode cX8_vertexOf 31 = .ok (.iconst 0, 1) := by decide +kernel
theorem dX8_vertexOf_32 : decode cX8_vertexOf 32 = .ok (.goto 15, 3) := by decide +kernel
theorem dX8_vertexOf_35 : decode cX8_vertexOf 35 = .ok (.iload_n 1, 1) := by decide +kernel
theorem dX8_vertexOf_36 : decode cX8_vertexOf 36 = .ok (.iload_n 3, 1) := by decide +kernel
theorem dX8_vertexOf_37 : decode cX8_vertexOf 37 = .ok (.imul, 1) := by decide +kernel
theorem dX8_vertexOf_38 : decode cX8_vertexOf 38 = .ok (.iload 4, 2) := by decide +kernel
theorem dX8_vertexOf_40 : decode cX8_vertexOf 40 = .ok (.sipush 1009, 3) := by decide +kernel
theorem dX8_vertexOf_43 : decode cX8_vertexOf 43 = .ok (.irem, 1) := by decide +kernel
theorem dX8_vertexOf_44 : decode cX8_vertexOf 44 = .ok (.iload_n 3, 1) := by decide +kernel
theorem dX8_vertexOf_45 : decode cX8_vertexOf 45 = .ok (.irem, 1) := by decide +kernel
theorem dX8_vertexOf_46 : decode cX8_vertexOf 46 = .ok (.iadd, 1) := by decide +kernel
theorem dX8_vertexOf_47 : decode cX8_vertexOf 47 = .ok (.ireturn, 1) := by decide +kernel
theorem dL_law_0 : decode cL_law 0 = .ok (.new 7, 3) := by decide +kernel
theorem dL_law_3 : decode cL_law 3 = .ok (.dup, 1) := by decide +kernel
theorem dL_law_4 : decode cL_law 4 = .ok (.invokespecial 9, 3) := by decide +kernel
theorem dL_law_7 : decode cL_law 7 = .ok (.astore_n 1, 1) := by decide +kernel
theorem dL_law_8 : decode cL_law 8 = .ok (.new 10, 3) := by decide +kernel
theorem dL_law_11 : decode cL_law 11 = .ok (.dup, 1) := by decide +kernel
theorem dL_law_12 : decode cL_law 12 = .ok (.invokespecial 12, 3) := by decide +kernel
theorem dL_law_15 : decode cL_law 15 = .ok (.astore_n 2, 1) := by decide +kernel
theorem dL_law_16 : decode cL_law 16 = .ok (.iconst 0, 1) := by decide +kernel
theorem dL_law_17 : decode cL_law 17 = .ok (.istore_n 3, 1) := by decide +kernel
theorem dL_law_18 : decode cL_law 18 = .ok (.iload_n 3, 1) := by decide +kernel
theorem dL_law_19 : decode cL_law 19 = .ok (.aload_n 0, 1) := by decide +kernel
theorem dL_law_20 : decode cL_law 20 = .ok (.arraylength, 1) := by decide +kernel
theorem dL_law_21 : decode cL_law 21 = .ok (.bipush 6, 2) := by decide +kernel
theorem dL_law_23 : decode cL_law 23 = .ok (.isub, 1) := by decide +kernel
theorem dL_law_24 : decode cL_law 24 = .ok (.if_icmp .gt 1104, 3) := by decide +kernel
theorem dL_law_27 : decode cL_law 27 = .ok (.aload_n 0, 1) := by decide +kernel
theorem dL_law_28 : decode cL_law 28 = .ok (.iload_n 3, 1) := by decide +kernel
theorem dL_law_29 : decode cL_law 29 = .ok (.iaload, 1) := by decide +kernel
theorem dL_law_30 : decode cL_law 30 = .ok (.bipush 63, 2) := by decide +kernel
theorem dL_law_32 : decode cL_law 32 = .ok (.iand, 1) := by decide +kernel
theorem dL_law_33 : decode cL_law 33 = .ok (.tableswitch 1089 0 38 #[171, 204, 237, 260, 283, 316, 379, 402, 415, 428, 441, 454, 467, 480, 503, 526, 549, 572, 595, 608, 621, 644, 677, 700, 713, 746, 769, 792, 825, 838, 861, 884, 918, 951, 984, 1007, 1030, 1053, 1076], 171) := by decide +kernel
theorem dL_law_204 : decode cL_law 204 = .ok (.aload_n 1, 1) := by decide +kernel
theorem dL_law_205 : decode cL_law 205 = .ok (.aload_n 0, 1) := by decide +kernel
theorem dL_law_206 : decode cL_law 206 = .ok (.iload_n 3, 1) := by decide +kernel
theorem dL_law_207 : decode cL_law 207 = .ok (.iconst 1, 1) := by decide +kernel
theorem dL_law_208 : decode cL_law 208 = .ok (.iadd, 1) := by decide +kernel
theorem dL_law_209 : decode cL_law 209 = .ok (.iaload, 1) := by decide +kernel
theorem dL_law_210 : decode cL_law 210 = .ok (.aload_n 0, 1) := by decide +kernel
theorem dL_law_211 : decode cL_law 211 = .ok (.iload_n 3, 1) := by decide +kernel
theorem dL_law_212 : decode cL_law 212 = .ok (.iconst 2, 1) := by decide +kernel
theorem dL_law_213 : decode cL_law 213 = .ok (.iadd, 1) := by decide +kernel
theorem dL_law_214 : decode cL_law 214 = .ok (.iaload, 1) := by decide +kernel
theorem dL_law_215 : decode cL_law 215 = .ok (.invokevirtual 13, 3) := by decide +kernel
theorem dL_law_218 : decode cL_law 218 = .ok (.aload_n 2, 1) := by decide +kernel
theorem dL_law_219 : decode cL_law 219 = .ok (.aload_n 0, 1) := by decide +kernel
theorem dL_law_220 : decode cL_law 220 = .ok (.iload_n 3, 1) := by decide +kernel
theorem dL_law_221 : decode cL_law 221 = .ok (.iconst 1, 1) := by decide +kernel
theorem dL_law_222 : decode cL_law 222 = .ok (.iadd, 1) := by decide +kernel
theorem dL_law_223 : decode cL_law 223 = .ok (.iaload, 1) := by decide +kernel
theorem dL_law_224 : decode cL_law 224 = .ok (.aload_n 0, 1) := by decide +kernel
theorem dL_law_225 : decode cL_law 225 = .ok (.iload_n 3, 1) := by decide +kernel
theorem dL_law_226 : decode cL_law 226 = .ok (.iconst 2, 1) := by decide +kernel
theorem dL_law_227 : decode cL_law 227 = .ok (.iadd, 1) := by decide +kernel
theorem dL_law_228 : decode cL_law 228 = .ok (.iaload, 1) := by decide +kernel
theorem dL_law_229 : decode cL_law 229 = .ok (.invokevirtual 17, 3) := by decide +kernel
theorem dL_law_232 : decode cL_law 232 = .ok (.if_icmp .eq 890, 3) := by decide +kernel
theorem dL_law_235 : decode cL_law 235 = .ok (.iconst 0, 1) := by decide +kernel
theorem dL_law_236 : decode cL_law 236 = .ok (.ireturn, 1) := by decide +kernel
theorem dL_law_237 : decode cL_law 237 = .ok (.aload_n 1, 1) := by decide +kernel
theorem dL_law_238 : decode cL_law 238 = .ok (.aload_n 0, 1) := by decide +kernel
theorem dL_law_239 : decode cL_law 239 = .ok (.iload_n 3, 1) := by decide +kernel
theorem dL_law_240 : decode cL_law 240 = .ok (.iconst 1, 1) := by decide +kernel
theorem dL_law_241 : decode cL_law 241 = .ok (.iadd, 1) := by decide +kernel
theorem dL_law_242 : decode cL_law 242 = .ok (.iaload, 1) := by decide +kernel
theorem dL_law_243 : decode cL_law 243 = .ok (.aload_n 0, 1) := by decide +kernel
theorem dL_law_244 : decode cL_law 244 = .ok (.iload_n 3, 1) := by decide +kernel
theorem dL_law_245 : decode cL_law 245 = .ok (.iconst 2, 1) := by decide +kernel
theorem dL_law_246 : decode cL_law 246 = .ok (.iadd, 1) := by decide +kernel
theorem dL_law_247 : decode cL_law 247 = .ok (.iaload, 1) := by decide +kernel
theorem dL_law_248 : decode cL_law 248 = .ok (.invokevirtual 18, 3) := by decide +kernel
theorem dL_law_251 : decode cL_law 251 = .ok (.aload_n 2, 1) := by decide +kernel
theorem dL_law_252 : decode cL_law 252 = .ok (.aload_n 0, 1) := by decide +kernel
theorem dL_law_253 : decode cL_law 253 = .ok (.iload_n 3, 1) := by decide +kernel
theorem dL_law_254 : decode cL_law 254 = .ok (.iconst 1, 1) := by decide +kernel
theorem dL_law_255 : decode cL_law 255 = .ok (.iadd, 1) := by decide +kernel
theorem dL_law_256 : decode cL_law 256 = .ok (.iaload, 1) := by decide +kernel
theorem dL_law_257 : decode cL_law 257 = .ok (.aload_n 0, 1) := by decide +kernel
theorem dL_law_258 : decode cL_law 258 = .ok (.iload_n 3, 1) := by decide +kernel
theorem dL_law_259 : decode cL_law 259 = .ok (.iconst 2, 1) := by decide +kernel
theorem dL_law_260 : decode cL_law 260 = .ok (.iadd, 1) := by decide +kernel
theorem dL_law_261 : decode cL_law 261 = .ok (.iaload, 1) := by decide +kernel
theorem dL_law_262 : decode cL_law 262 = .ok (.invokevirtual 21, 3) := by decide +kernel
theorem dL_law_265 : decode cL_law 265 = .ok (.if_icmp .eq 857, 3) := by decide +kernel
theorem dL_law_268 : decode cL_law 268 = .ok (.iconst 0, 1) := by decide +kernel
theorem dL_law_269 : decode cL_law 269 = .ok (.ireturn, 1) := by decide +kernel
theorem dL_law_270 : decode cL_law 270 = .ok (.aload_n 1, 1) := by decide +kernel
theorem dL_law_271 : decode cL_law 271 = .ok (.aload_n 0, 1) := by decide +kernel
theorem dL_law_272 : decode cL_law 272 = .ok (.iload_n 3, 1) := by decide +kernel
theorem dL_law_273 : decode cL_law 273 = .ok (.iconst 1, 1) := by decide +kernel
theorem dL_law_274 : decode cL_law 274 = .ok (.iadd, 1) := by decide +kernel
theorem dL_law_275 : decode cL_law 275 = .ok (.iaload, 1) := by decide +kernel
theorem dL_law_276 : decode cL_law 276 = .ok (.invokevirtual 22, 3) := by decide +kernel
theorem dL_law_279 : decode cL_law 279 = .ok (.aload_n 2, 1) := by decide +kernel
theorem dL_law_280 : decode cL_law 280 = .ok (.aload_n 0, 1) := by decide +kernel
theorem dL_law_281 : decode cL_law 281 = .ok (.iload_n 3, 1) := by decide +kernel
theorem dL_law_282 : decode cL_law 282 = .ok (.iconst 1, 1) := by decide +kernel
theorem dL_law_283 : decode cL_law 283 = .ok (.iadd, 1) := by decide +kernel
theorem dL_law_284 : decode cL_law 284 = .ok (.iaload, 1) := by decide +kernel
theorem dL_law_285 : decode cL_law 285 = .ok (.invokevirtual 26, 3) := by decide +kernel
theorem dL_law_288 : decode cL_law 288 = .ok (.if_icmp .eq 834, 3) := by decide +kernel
theorem dL_law_291 : decode cL_law 291 = .ok (.iconst 0, 1) := by decide +kernel
theorem dL_law_292 : decode cL_law 292 = .ok (.ireturn, 1) := by decide +kernel
theorem dL_law_293 : decode cL_law 293 = .ok (.aload_n 1, 1) := by decide +kernel
theorem dL_law_294 : decode cL_law 294 = .ok (.aload_n 0, 1) := by decide +kernel
theorem dL_law_295 : decode cL_law 295 = .ok (.iload_n 3, 1) := by decide +kernel
theorem dL_law_296 : decode cL_law 296 = .ok (.iconst 1, 1) := by decide +kernel
theorem dL_law_297 : decode cL_law 297 = .ok (.iadd, 1) := by decide +kernel
theorem dL_law_298 : decode cL_law 298 = .ok (.iaload, 1) := by decide +kernel
theorem dL_law_299 : decode cL_law 299 = .ok (.invokevirtual 27, 3) := by decide +kernel
theorem dL_law_302 : decode cL_law 302 = .ok (.aload_n 2, 1) := by decide +kernel
theorem dL_law_303 : decode cL_law 303 = .ok (.aload_n 0, 1) := by decide +kernel
theorem dL_law_304 : decode cL_law 304 = .ok (.iload_n 3, 1) := by decide +kernel
theorem dL_law_305 : decode cL_law 305 = .ok (.iconst 1, 1) := by decide +kernel
theorem dL_law_306 : decode cL_law 306 = .ok (.iadd, 1) := by decide +kernel
theorem dL_law_307 : decode cL_law 307 = .ok (.iaload, 1) := by decide +kernel
theorem dL_law_308 : decode cL_law 308 = .ok (.invokevirtual 30, 3) := by decide +kernel
theorem dL_law_311 : decode cL_law 311 = .ok (.if_icmp .eq 811, 3) := by decide +kernel
theorem dL_law_314 : decode cL_law 314 = .ok (.iconst 0, 1) := by decide +kernel
theorem dL_law_315 : decode cL_law 315 = .ok (.ireturn, 1) := by decide +kernel
theorem dL_law_316 : decode cL_law 316 = .ok (.aload_n 1, 1) := by decide +kernel
theorem dL_law_317 : decode cL_law 317 = .ok (.aload_n 0, 1) := by decide +kernel
theorem dL_law_318 : decode cL_law 318 = .ok (.iload_n 3, 1) := by decide +kernel
theorem dL_law_319 : decode cL_law 319 = .ok (.iconst 1, 1) := by decide +kernel
theorem dL_law_320 : decode cL_law 320 = .ok (.iadd, 1) := by decide +kernel
theorem dL_law_321 : decode cL_law 321 = .ok (.iaload, 1) := by decide +kernel
theorem dL_law_322 : decode cL_law 322 = .ok (.aload_n 0, 1) := by decide +kernel
theorem dL_law_323 : decode cL_law 323 = .ok (.iload_n 3, 1) := by decide +kernel
theorem dL_law_324 : decode cL_law 324 = .ok (.iconst 2, 1) := by decide +kernel
theorem dL_law_325 : decode cL_law 325 = .ok (.iadd, 1) := by decide +kernel
theorem dL_law_326 : decode cL_law 326 = .ok (.iaload, 1) := by decide +kernel
theorem dL_law_327 : decode cL_law 327 = .ok (.invokevirtual 31, 3) := by decide +kernel
theorem dL_law_330 : decode cL_law 330 = .ok (.aload_n 2, 1) := by decide +kernel
theorem dL_law_331 : decode cL_law 331 = .ok (.aload_n 0, 1) := by decide +kernel
theorem dL_law_332 : decode cL_law 332 = .ok (.iload_n 3, 1) := by decide +kernel
theorem dL_law_333 : decode cL_law 333 = .ok (.iconst 1, 1) := by decide +kernel
theorem dL_law_334 : decode cL_law 334 = .ok (.iadd, 1) := by decide +kernel
theorem dL_law_335 : decode cL_law 335 = .ok (.iaload, 1) := by decide +kernel
theorem dL_law_336 : decode cL_law 336 = .ok (.aload_n 0, 1) := by decide +kernel
theorem dL_law_337 : decode cL_law 337 = .ok (.iload_n 3, 1) := by decide +kernel
theorem dL_law_338 : decode cL_law 338 = .ok (.iconst 2, 1) := by decide +kernel
theorem dL_law_339 : decode cL_law 339 = .ok (.iadd, 1) := by decide +kernel
theorem dL_law_340 : decode cL_law 340 = .ok (.iaload, 1) := by decide +kernel
theorem dL_law_341 : decode cL_law 341 = .ok (.invokevirtual 34, 3) := by decide +kernel
theorem dL_law_344 : decode cL_law 344 = .ok (.if_icmp .eq 778, 3) := by decide +kernel
theorem dL_law_347 : decode cL_law 347 = .ok (.iconst 0, 1) := by decide +kernel
theorem dL_law_348 : decode cL_law 348 = .ok (.ireturn, 1) := by decide +kernel
theorem dL_law_349 : decode cL_law 349 = .ok (.aload_n 1, 1) := by decide +kernel
theorem dL_law_350 : decode cL_law 350 = .ok (.aload_n 0, 1) := by decide +kernel
theorem dL_law_351 : decode cL_law 351 = .ok (.iload_n 3, 1) := by decide +kernel
theorem dL_law_352 : decode cL_law 352 = .ok (.iconst 1, 1) := by decide +kernel
theorem dL_law_353 : decode cL_law 353 = .ok (.iadd, 1) := by decide +kernel
theorem dL_law_354 : decode cL_law 354 = .ok (.iaload, 1) := by decide +kernel
theorem dL_law_355 : decode cL_law 355 = .ok (.aload_n 0, 1) := by decide +kernel
theorem dL_law_356 : decode cL_law 356 = .ok (.iload_n 3, 1) := by decide +kernel
theorem dL_law_357 : decode cL_law 357 = .ok (.iconst 2, 1) := by decide +kernel
theorem dL_law_358 : decode cL_law 358 = .ok (.iadd, 1) := by decide +kernel
theorem dL_law_359 : decode cL_law 359 = .ok (.iaload, 1) := by decide +kernel
theorem dL_law_360 : decode cL_law 360 = .ok (.aload_n 0, 1) := by decide +kernel
theorem dL_law_361 : decode cL_law 361 = .ok (.iload_n 3, 1) := by decide +kernel
theorem dL_law_362 : decode cL_law 362 = .ok (.iconst 3, 1) := by decide +kernel
theorem dL_law_363 : decode cL_law 363 = .ok (.iadd, 1) := by decide +kernel
theorem dL_law_364 : decode cL_law 364 = .ok (.iaload, 1) := by decide +kernel
theorem dL_law_365 : decode cL_law 365 = .ok (.aload_n 0, 1) := by decide +kernel
theorem dL_law_366 : decode cL_law 366 = .ok (.iload_n 3, 1) := by decide +kernel
theorem dL_law_367 : decode cL_law 367 = .ok (.iconst 4, 1) := by decide +kernel
theorem dL_law_368 : decode cL_law 368 = .ok (.iadd, 1) := by decide +kernel
theorem dL_law_369 : decode cL_law 369 = .ok (.iaload, 1) := by decide +kernel
theorem dL_law_370 : decode cL_law 370 = .ok (.aload_n 0, 1) := by decide +kernel
theorem dL_law_371 : decode cL_law 371 = .ok (.iload_n 3, 1) := by decide +kernel
theorem dL_law_372 : decode cL_law 372 = .ok (.iconst 5, 1) := by decide +kernel
theorem dL_law_373 : decode cL_law 373 = .ok (.iadd, 1) := by decide +kernel
theorem dL_law_374 : decode cL_law 374 = .ok (.iaload, 1) := by decide +kernel
theorem dL_law_375 : decode cL_law 375 = .ok (.invokevirtual 35, 3) := by decide +kernel
theorem dL_law_378 : decode cL_law 378 = .ok (.aload_n 2, 1) := by decide +kernel
theorem dL_law_379 : decode cL_law 379 = .ok (.aload_n 0, 1) := by decide +kernel
theorem dL_law_380 : decode cL_law 380 = .ok (.iload_n 3, 1) := by decide +kernel
theorem dL_law_381 : decode cL_law 381 = .ok (.iconst 1, 1) := by decide +kernel
theorem dL_law_382 : decode cL_law 382 = .ok (.iadd, 1) := by decide +kernel
theorem dL_law_383 : decode cL_law 383 = .ok (.iaload, 1) := by decide +kernel
theorem dL_law_384 : decode cL_law 384 = .ok (.aload_n 0, 1) := by decide +kernel
theorem dL_law_385 : decode cL_law 385 = .ok (.iload_n 3, 1) := by decide +kernel
theorem dL_law_386 : decode cL_law 386 = .ok (.iconst 2, 1) := by decide +kernel
theorem dL_law_387 : decode cL_law 387 = .ok (.iadd, 1) := by decide +kernel
theorem dL_law_388 : decode cL_law 388 = .ok (.iaload, 1) := by decide +kernel
theorem dL_law_389 : decode cL_law 389 = .ok (.aload_n 0, 1) := by decide +kernel
theorem dL_law_390 : decode cL_law 390 = .ok (.iload_n 3, 1) := by decide +kernel
theorem dL_law_391 : decode cL_law 391 = .ok (.iconst 3, 1) := by decide +kernel
theorem dL_law_392 : decode cL_law 392 = .ok (.iadd, 1) := by decide +kernel
theorem dL_law_393 : decode cL_law 393 = .ok (.iaload, 1) := by decide +kernel
theorem dL_law_394 : decode cL_law 394 = .ok (.aload_n 0, 1) := by decide +kernel
theorem dL_law_395 : decode cL_law 395 = .ok (.iload_n 3, 1) := by decide +kernel
theorem dL_law_396 : decode cL_law 396 = .ok (.iconst 4, 1) := by decide +kernel
theorem dL_law_397 : decode cL_law 397 = .ok (.iadd, 1) := by decide +kernel
theorem dL_law_398 : decode cL_law 398 = .ok (.iaload, 1) := by decide +kernel
theorem dL_law_399 : decode cL_law 399 = .ok (.aload_n 0, 1) := by decide +kernel
theorem dL_law_400 : decode cL_law 400 = .ok (.iload_n 3, 1) := by decide +kernel
theorem dL_law_401 : decode cL_law 401 = .ok (.iconst 5, 1) := by decide +kernel
theorem dL_law_402 : decode cL_law 402 = .ok (.iadd, 1) := by decide +kernel
theorem dL_law_403 : decode cL_law 403 = .ok (.iaload, 1) := by decide +kernel
theorem dL_law_404 : decode cL_law 404 = .ok (.invokevirtual 39, 3) := by decide +kernel
theorem dL_law_407 : decode cL_law 407 = .ok (.if_icmp .eq 715, 3) := by decide +kernel
theorem dL_law_410 : decode cL_law 410 = .ok (.iconst 0, 1) := by decide +kernel
theorem dL_law_411 : decode cL_law 411 = .ok (.ireturn, 1) := by decide +kernel
theorem dL_law_412 : decode cL_law 412 = .ok (.aload_n 1, 1) := by decide +kernel
theorem dL_law_413 : decode cL_law 413 = .ok (.aload_n 0, 1) := by decide +kernel
theorem dL_law_414 : decode cL_law 414 = .ok (.iload_n 3, 1) := by decide +kernel
theorem dL_law_415 : decode cL_law 415 = .ok (.iconst 1, 1) := by decide +kernel
theorem dL_law_416 : decode cL_law 416 = .ok (.iadd, 1) := by decide +kernel
theorem dL_law_417 : decode cL_law 417 = .ok (.iaload, 1) := by decide +kernel
theorem dL_law_418 : decode cL_law 418 = .ok (.invokevirtual 40, 3) := by decide +kernel
theorem dL_law_421 : decode cL_law 421 = .ok (.aload_n 2, 1) := by decide +kernel
theorem dL_law_422 : decode cL_law 422 = .ok (.aload_n 0, 1) := by decide +kernel
theorem dL_law_423 : decode cL_law 423 = .ok (.iload_n 3, 1) := by decide +kernel
theorem dL_law_424 : decode cL_law 424 = .ok (.iconst 1, 1) := by decide +kernel
theorem dL_law_425 : decode cL_law 425 = .ok (.iadd, 1) := by decide +kernel
theorem dL_law_426 : decode cL_law 426 = .ok (.iaload, 1) := by decide +kernel
theorem dL_law_427 : decode cL_law 427 = .ok (.invokevirtual 43, 3) := by decide +kernel
theorem dL_law_430 : decode cL_law 430 = .ok (.if_icmp .eq 692, 3) := by decide +kernel
theorem dL_law_433 : decode cL_law 433 = .ok (.iconst 0, 1) := by decide +kernel
theorem dL_law_434 : decode cL_law 434 = .ok (.ireturn, 1) := by decide +kernel
theorem dL_law_435 : decode cL_law 435 = .ok (.aload_n 1, 1) := by decide +kernel
theorem dL_law_436 : decode cL_law 436 = .ok (.invokevirtual 44, 3) := by decide +kernel
theorem dL_law_439 : decode cL_law 439 = .ok (.aload_n 2, 1) := by decide +kernel
theorem dL_law_440 : decode cL_law 440 = .ok (.invokevirtual 48, 3) := by decide +kernel
theorem dL_law_443 : decode cL_law 443 = .ok (.if_icmp .eq 679, 3) := by decide +kernel
theorem dL_law_446 : decode cL_law 446 = .ok (.iconst 0, 1) := by decide +kernel
theorem dL_law_447 : decode cL_law 447 = .ok (.ireturn, 1) := by decide +kernel
theorem dL_law_448 : decode cL_law 448 = .ok (.aload_n 1, 1) := by decide +kernel
theorem dL_law_449 : decode cL_law 449 = .ok (.invokevirtual 49, 3) := by decide +kernel
theorem dL_law_452 : decode cL_law 452 = .ok (.aload_n 2, 1) := by decide +kernel
theorem dL_law_453 : decode cL_law 453 = .ok (.invokevirtual 52, 3) := by decide +kernel
theorem dL_law_456 : decode cL_law 456 = .ok (.if_icmp .eq 666, 3) := by decide +kernel
theorem dL_law_459 : decode cL_law 459 = .ok (.iconst 0, 1) := by decide +kernel
theorem dL_law_460 : decode cL_law 460 = .ok (.ireturn, 1) := by decide +kernel
theorem dL_law_461 : decode cL_law 461 = .ok (.aload_n 1, 1) := by decide +kernel
theorem dL_law_462 : decode cL_law 462 = .ok (.invokevirtual 53, 3) := by decide +kernel
theorem dL_law_465 : decode cL_law 465 = .ok (.aload_n 2, 1) := by decide +kernel
theorem dL_law_466 : decode cL_law 466 = .ok (.invokevirtual 56, 3) := by decide +kernel
theorem dL_law_469 : decode cL_law 469 = .ok (.if_icmp .eq 653, 3) := by decide +kernel
theorem dL_law_472 : decode cL_law 472 = .ok (.iconst 0, 1) := by decide +kernel
theorem dL_law_473 : decode cL_law 473 = .ok (.ireturn, 1) := by decide +kernel
theorem dL_law_474 : decode cL_law 474 = .ok (.aload_n 1, 1) := by decide +kernel
theorem dL_law_475 : decode cL_law 475 = .ok (.invokevirtual 57, 3) := by decide +kernel
theorem dL_law_478 : decode cL_law 478 = .ok (.aload_n 2, 1) := by decide +kernel
theorem dL_law_479 : decode cL_law 479 = .ok (.invokevirtual 60, 3) := by decide +kernel
theorem dL_law_482 : decode cL_law 482 = .ok (.if_icmp .eq 640, 3) := by decide +kernel
theorem dL_law_485 : decode cL_law 485 = .ok (.iconst 0, 1) := by decide +kernel
theorem dL_law_486 : decode cL_law 486 = .ok (.ireturn, 1) := by decide +kernel
theorem dL_law_487 : decode cL_law 487 = .ok (.aload_n 1, 1) := by decide +kernel
theorem dL_law_488 : decode cL_law 488 = .ok (.invokevirtual 61, 3) := by decide +kernel
theorem dL_law_491 : decode cL_law 491 = .ok (.aload_n 2, 1) := by decide +kernel
theorem dL_law_492 : decode cL_law 492 = .ok (.invokevirtual 64, 3) := by decide +kernel
theorem dL_law_495 : decode cL_law 495 = .ok (.if_icmp .eq 627, 3) := by decide +kernel
theorem dL_law_498 : decode cL_law 498 = .ok (.iconst 0, 1) := by decide +kernel
theorem dL_law_499 : decode cL_law 499 = .ok (.ireturn, 1) := by decide +kernel
theorem dL_law_500 : decode cL_law 500 = .ok (.aload_n 1, 1) := by decide +kernel
theorem dL_law_501 : decode cL_law 501 = .ok (.invokevirtual 65, 3) := by decide +kernel
theorem dL_law_504 : decode cL_law 504 = .ok (.aload_n 2, 1) := by decide +kernel
theorem dL_law_505 : decode cL_law 505 = .ok (.invokevirtual 68, 3) := by decide +kernel
theorem dL_law_508 : decode cL_law 508 = .ok (.if_icmp .eq 614, 3) := by decide +kernel
theorem dL_law_511 : decode cL_law 511 = .ok (.iconst 0, 1) := by decide +kernel
theorem dL_law_512 : decode cL_law 512 = .ok (.ireturn, 1) := by decide +kernel
theorem dL_law_513 : decode cL_law 513 = .ok (.aload_n 1, 1) := by decide +kernel
theorem dL_law_514 : decode cL_law 514 = .ok (.aload_n 0, 1) := by decide +kernel
theorem dL_law_515 : decode cL_law 515 = .ok (.iload_n 3, 1) := by decide +kernel
theorem dL_law_516 : decode cL_law 516 = .ok (.iconst 1, 1) := by decide +kernel
theorem dL_law_517 : decode cL_law 517 = .ok (.iadd, 1) := by decide +kernel
theorem dL_law_518 : decode cL_law 518 = .ok (.iaload, 1) := by decide +kernel
theorem dL_law_519 : decode cL_law 519 = .ok (.invokevirtual 69, 3) := by decide +kernel
theorem dL_law_522 : decode cL_law 522 = .ok (.aload_n 2, 1) := by decide +kernel
theorem dL_law_523 : decode cL_law 523 = .ok (.aload_n 0, 1) := by decide +kernel
theorem dL_law_524 : decode cL_law 524 = .ok (.iload_n 3, 1) := by decide +kernel
theorem dL_law_525 : decode cL_law 525 = .ok (.iconst 1, 1) := by decide +kernel
theorem dL_law_526 : decode cL_law 526 = .ok (.iadd, 1) := by decide +kernel
theorem dL_law_527 : decode cL_law 527 = .ok (.iaload, 1) := by decide +kernel
theorem dL_law_528 : decode cL_law 528 = .ok (.invokevirtual 72, 3) := by decide +kernel
theorem dL_law_531 : decode cL_law 531 = .ok (.if_icmp .eq 591, 3) := by decide +kernel
theorem dL_law_534 : decode cL_law 534 = .ok (.iconst 0, 1) := by decide +kernel
theorem dL_law_535 : decode cL_law 535 = .ok (.ireturn, 1) := by decide +kernel
theorem dL_law_536 : decode cL_law 536 = .ok (.aload_n 1, 1) := by decide +kernel
theorem dL_law_537 : decode cL_law 537 = .ok (.aload_n 0, 1) := by decide +kernel
theorem dL_law_538 : decode cL_law 538 = .ok (.iload_n 3, 1) := by decide +kernel
theorem dL_law_539 : decode cL_law 539 = .ok (.iconst 1, 1) := by decide +kernel
theorem dL_law_540 : decode cL_law 540 = .ok (.iadd, 1) := by decide +kernel
theorem dL_law_541 : decode cL_law 541 = .ok (.iaload, 1) := by decide +kernel
theorem dL_law_542 : decode cL_law 542 = .ok (.invokevirtual 73, 3) := by decide +kernel
theorem dL_law_545 : decode cL_law 545 = .ok (.aload_n 2, 1) := by decide +kernel
theorem dL_law_546 : decode cL_law 546 = .ok (.aload_n 0, 1) := by decide +kernel
theorem dL_law_547 : decode cL_law 547 = .ok (.iload_n 3, 1) := by decide +kernel
theorem dL_law_548 : decode cL_law 548 = .ok (.iconst 1, 1) := by decide +kernel
theorem dL_law_549 : decode cL_law 549 = .ok (.iadd, 1) := by decide +kernel
theorem dL_law_550 : decode cL_law 550 = .ok (.iaload, 1) := by decide +kernel
theorem dL_law_551 : decode cL_law 551 = .ok (.invokevirtual 76, 3) := by decide +kernel
theorem dL_law_554 : decode cL_law 554 = .ok (.if_icmp .eq 568, 3) := by decide +kernel
theorem dL_law_557 : decode cL_law 557 = .ok (.iconst 0, 1) := by decide +kernel
theorem dL_law_558 : decode cL_law 558 = .ok (.ireturn, 1) := by decide +kernel
theorem dL_law_559 : decode cL_law 559 = .ok (.aload_n 1, 1) := by decide +kernel
theorem dL_law_560 : decode cL_law 560 = .ok (.aload_n 0, 1) := by decide +kernel
theorem dL_law_561 : decode cL_law 561 = .ok (.iload_n 3, 1) := by decide +kernel
theorem dL_law_562 : decode cL_law 562 = .ok (.iconst 1, 1) := by decide +kernel
theorem dL_law_563 : decode cL_law 563 = .ok (.iadd, 1) := by decide +kernel
theorem dL_law_564 : decode cL_law 564 = .ok (.iaload, 1) := by decide +kernel
theorem dL_law_565 : decode cL_law 565 = .ok (.invokevirtual 77, 3) := by decide +kernel
theorem dL_law_568 : decode cL_law 568 = .ok (.aload_n 2, 1) := by decide +kernel
theorem dL_law_569 : decode cL_law 569 = .ok (.aload_n 0, 1) := by decide +kernel
theorem dL_law_570 : decode cL_law 570 = .ok (.iload_n 3, 1) := by decide +kernel
theorem dL_law_571 : decode cL_law 571 = .ok (.iconst 1, 1) := by decide +kernel
theorem dL_law_572 : decode cL_law 572 = .ok (.iadd, 1) := by decide +kernel
theorem dL_law_573 : decode cL_law 573 = .ok (.iaload, 1) := by decide +kernel
theorem dL_law_574 : decode cL_law 574 = .ok (.invokevirtual 80, 3) := by decide +kernel
theorem dL_law_577 : decode cL_law 577 = .ok (.if_icmp .eq 545, 3) := by decide +kernel
theorem dL_law_580 : decode cL_law 580 = .ok (.iconst 0, 1) := by decide +kernel
theorem dL_law_581 : decode cL_law 581 = .ok (.ireturn, 1) := by decide +kernel
theorem dL_law_582 : decode cL_law 582 = .ok (.aload_n 1, 1) := by decide +kernel
theorem dL_law_583 : decode cL_law 583 = .ok (.aload_n 0, 1) := by decide +kernel
theorem dL_law_584 : decode cL_law 584 = .ok (.iload_n 3, 1) := by decide +kernel
theorem dL_law_585 : decode cL_law 585 = .ok (.iconst 1, 1) := by decide +kernel
theorem dL_law_586 : decode cL_law 586 = .ok (.iadd, 1) := by decide +kernel
theorem dL_law_587 : decode cL_law 587 = .ok (.iaload, 1) := by decide +kernel
theorem dL_law_588 : decode cL_law 588 = .ok (.invokevirtual 81, 3) := by decide +kernel
theorem dL_law_591 : decode cL_law 591 = .ok (.aload_n 2, 1) := by decide +kernel
theorem dL_law_592 : decode cL_law 592 = .ok (.aload_n 0, 1) := by decide +kernel
theorem dL_law_593 : decode cL_law 593 = .ok (.iload_n 3, 1) := by decide +kernel
theorem dL_law_594 : decode cL_law 594 = .ok (.iconst 1, 1) := by decide +kernel
theorem dL_law_595 : decode cL_law 595 = .ok (.iadd, 1) := by decide +kernel
theorem dL_law_596 : decode cL_law 596 = .ok (.iaload, 1) := by decide +kernel
theorem dL_law_597 : decode cL_law 597 = .ok (.invokevirtual 84, 3) := by decide +kernel
theorem dL_law_600 : decode cL_law 600 = .ok (.if_icmp .eq 522, 3) := by decide +kernel
theorem dL_law_603 : decode cL_law 603 = .ok (.iconst 0, 1) := by decide +kernel
theorem dL_law_604 : decode cL_law 604 = .ok (.ireturn, 1) := by decide +kernel
theorem dL_law_605 : decode cL_law 605 = .ok (.aload_n 1, 1) := by decide +kernel
theorem dL_law_606 : decode cL_law 606 = .ok (.aload_n 0, 1) := by decide +kernel
theorem dL_law_607 : decode cL_law 607 = .ok (.iload_n 3, 1) := by decide +kernel
theorem dL_law_608 : decode cL_law 608 = .ok (.iconst 1, 1) := by decide +kernel
theorem dL_law_609 : decode cL_law 609 = .ok (.iadd, 1) := by decide +kernel
theorem dL_law_610 : decode cL_law 610 = .ok (.iaload, 1) := by decide +kernel
theorem dL_law_611 : decode cL_law 611 = .ok (.invokevirtual 85, 3) := by decide +kernel
theorem dL_law_614 : decode cL_law 614 = .ok (.aload_n 2, 1) := by decide +kernel
theorem dL_law_615 : decode cL_law 615 = .ok (.aload_n 0, 1) := by decide +kernel
theorem dL_law_616 : decode cL_law 616 = .ok (.iload_n 3, 1) := by decide +kernel
theorem dL_law_617 : decode cL_law 617 = .ok (.iconst 1, 1) := by decide +kernel
theorem dL_law_618 : decode cL_law 618 = .ok (.iadd, 1) := by decide +kernel
theorem dL_law_619 : decode cL_law 619 = .ok (.iaload, 1) := by decide +kernel
theorem dL_law_620 : decode cL_law 620 = .ok (.invokevirtual 88, 3) := by decide +kernel
theorem dL_law_623 : decode cL_law 623 = .ok (.if_icmp .eq 499, 3) := by decide +kernel
theorem dL_law_626 : decode cL_law 626 = .ok (.iconst 0, 1) := by decide +kernel
theorem dL_law_627 : decode cL_law 627 = .ok (.ireturn, 1) := by decide +kernel
theorem dL_law_628 : decode cL_law 628 = .ok (.aload_n 1, 1) := by decide +kernel
theorem dL_law_629 : decode cL_law 629 = .ok (.invokevirtual 89, 3) := by decide +kernel
theorem dL_law_632 : decode cL_law 632 = .ok (.aload_n 2, 1) := by decide +kernel
theorem dL_law_633 : decode cL_law 633 = .ok (.invokevirtual 92, 3) := by decide +kernel
theorem dL_law_636 : decode cL_law 636 = .ok (.if_icmp .eq 486, 3) := by decide +kernel
theorem dL_law_639 : decode cL_law 639 = .ok (.iconst 0, 1) := by decide +kernel
theorem dL_law_640 : decode cL_law 640 = .ok (.ireturn, 1) := by decide +kernel
theorem dL_law_641 : decode cL_law 641 = .ok (.aload_n 1, 1) := by decide +kernel
theorem dL_law_642 : decode cL_law 642 = .ok (.invokevirtual 93, 3) := by decide +kernel
theorem dL_law_645 : decode cL_law 645 = .ok (.aload_n 2, 1) := by decide +kernel
theorem dL_law_646 : decode cL_law 646 = .ok (.invokevirtual 96, 3) := by decide +kernel
theorem dL_law_649 : decode cL_law 649 = .ok (.if_icmp .eq 473, 3) := by decide +kernel
theorem dL_law_652 : decode cL_law 652 = .ok (.iconst 0, 1) := by decide +kernel
theorem dL_law_653 : decode cL_law 653 = .ok (.ireturn, 1) := by decide +kernel
theorem dL_law_654 : decode cL_law 654 = .ok (.aload_n 1, 1) := by decide +kernel
theorem dL_law_655 : decode cL_law 655 = .ok (.aload_n 0, 1) := by decide +kernel
theorem dL_law_656 : decode cL_law 656 = .ok (.iload_n 3, 1) := by decide +kernel
theorem dL_law_657 : decode cL_law 657 = .ok (.iconst 1, 1) := by decide +kernel
theorem dL_law_658 : decode cL_law 658 = .ok (.iadd, 1) := by decide +kernel
theorem dL_law_659 : decode cL_law 659 = .ok (.iaload, 1) := by decide +kernel
theorem dL_law_660 : decode cL_law 660 = .ok (.invokevirtual 97, 3) := by decide +kernel
theorem dL_law_663 : decode cL_law 663 = .ok (.aload_n 2, 1) := by decide +kernel
theorem dL_law_664 : decode cL_law 664 = .ok (.aload_n 0, 1) := by decide +kernel
theorem dL_law_665 : decode cL_law 665 = .ok (.iload_n 3, 1) := by decide +kernel
theorem dL_law_666 : decode cL_law 666 = .ok (.iconst 1, 1) := by decide +kernel
theorem dL_law_667 : decode cL_law 667 = .ok (.iadd, 1) := by decide +kernel
theorem dL_law_668 : decode cL_law 668 = .ok (.iaload, 1) := by decide +kernel
theorem dL_law_669 : decode cL_law 669 = .ok (.invokevirtual 100, 3) := by decide +kernel
theorem dL_law_672 : decode cL_law 672 = .ok (.if_icmp .eq 450, 3) := by decide +kernel
theorem dL_law_675 : decode cL_law 675 = .ok (.iconst 0, 1) := by decide +kernel
theorem dL_law_676 : decode cL_law 676 = .ok (.ireturn, 1) := by decide +kernel
theorem dL_law_677 : decode cL_law 677 = .ok (.aload_n 1, 1) := by decide +kernel
theorem dL_law_678 : decode cL_law 678 = .ok (.aload_n 0, 1) := by decide +kernel
theorem dL_law_679 : decode cL_law 679 = .ok (.iload_n 3, 1) := by decide +kernel
theorem dL_law_680 : decode cL_law 680 = .ok (.iconst 1, 1) := by decide +kernel
theorem dL_law_681 : decode cL_law 681 = .ok (.iadd, 1) := by decide +kernel
theorem dL_law_682 : decode cL_law 682 = .ok (.iaload, 1) := by decide +kernel
theorem dL_law_683 : decode cL_law 683 = .ok (.aload_n 0, 1) := by decide +kernel
theorem dL_law_684 : decode cL_law 684 = .ok (.iload_n 3, 1) := by decide +kernel
theorem dL_law_685 : decode cL_law 685 = .ok (.iconst 2, 1) := by decide +kernel
theorem dL_law_686 : decode cL_law 686 = .ok (.iadd, 1) := by decide +kernel
theorem dL_law_687 : decode cL_law 687 = .ok (.iaload, 1) := by decide +kernel
theorem dL_law_688 : decode cL_law 688 = .ok (.invokevirtual 101, 3) := by decide +kernel
theorem dL_law_691 : decode cL_law 691 = .ok (.aload_n 2, 1) := by decide +kernel
theorem dL_law_692 : decode cL_law 692 = .ok (.aload_n 0, 1) := by decide +kernel
theorem dL_law_693 : decode cL_law 693 = .ok (.iload_n 3, 1) := by decide +kernel
theorem dL_law_694 : decode cL_law 694 = .ok (.iconst 1, 1) := by decide +kernel
theorem dL_law_695 : decode cL_law 695 = .ok (.iadd, 1) := by decide +kernel
theorem dL_law_696 : decode cL_law 696 = .ok (.iaload, 1) := by decide +kernel
theorem dL_law_697 : decode cL_law 697 = .ok (.aload_n 0, 1) := by decide +kernel
theorem dL_law_698 : decode cL_law 698 = .ok (.iload_n 3, 1) := by decide +kernel
theorem dL_law_699 : decode cL_law 699 = .ok (.iconst 2, 1) := by decide +kernel
theorem dL_law_700 : decode cL_law 700 = .ok (.iadd, 1) := by decide +kernel
theorem dL_law_701 : decode cL_law 701 = .ok (.iaload, 1) := by decide +kernel
theorem dL_law_702 : decode cL_law 702 = .ok (.invokevirtual 104, 3) := by decide +kernel
theorem dL_law_705 : decode cL_law 705 = .ok (.if_icmp .eq 417, 3) := by decide +kernel
theorem dL_law_708 : decode cL_law 708 = .ok (.iconst 0, 1) := by decide +kernel
theorem dL_law_709 : decode cL_law 709 = .ok (.ireturn, 1) := by decide +kernel
theorem dL_law_710 : decode cL_law 710 = .ok (.aload_n 1, 1) := by decide +kernel
theorem dL_law_711 : decode cL_law 711 = .ok (.aload_n 0, 1) := by decide +kernel
theorem dL_law_712 : decode cL_law 712 = .ok (.iload_n 3, 1) := by decide +kernel
theorem dL_law_713 : decode cL_law 713 = .ok (.iconst 1, 1) := by decide +kernel
theorem dL_law_714 : decode cL_law 714 = .ok (.iadd, 1) := by decide +kernel
theorem dL_law_715 : decode cL_law 715 = .ok (.iaload, 1) := by decide +kernel
theorem dL_law_716 : decode cL_law 716 = .ok (.invokevirtual 105, 3) := by decide +kernel
theorem dL_law_719 : decode cL_law 719 = .ok (.aload_n 2, 1) := by decide +kernel
theorem dL_law_720 : decode cL_law 720 = .ok (.aload_n 0, 1) := by decide +kernel
theorem dL_law_721 : decode cL_law 721 = .ok (.iload_n 3, 1) := by decide +kernel
theorem dL_law_722 : decode cL_law 722 = .ok (.iconst 1, 1) := by decide +kernel
theorem dL_law_723 : decode cL_law 723 = .ok (.iadd, 1) := by decide +kernel
theorem dL_law_724 : decode cL_law 724 = .ok (.iaload, 1) := by decide +kernel
theorem dL_law_725 : decode cL_law 725 = .ok (.invokevirtual 108, 3) := by decide +kernel
theorem dL_law_728 : decode cL_law 728 = .ok (.if_icmp .eq 394, 3) := by decide +kernel
theorem dL_law_731 : decode cL_law 731 = .ok (.iconst 0, 1) := by decide +kernel
theorem dL_law_732 : decode cL_law 732 = .ok (.ireturn, 1) := by decide +kernel
theorem dL_law_733 : decode cL_law 733 = .ok (.aload_n 1, 1) := by decide +kernel
theorem dL_law_734 : decode cL_law 734 = .ok (.invokevirtual 109, 3) := by decide +kernel
theorem dL_law_737 : decode cL_law 737 = .ok (.aload_n 2, 1) := by decide +kernel
theorem dL_law_738 : decode cL_law 738 = .ok (.invokevirtual 112, 3) := by decide +kernel
theorem dL_law_741 : decode cL_law 741 = .ok (.if_icmp .eq 381, 3) := by decide +kernel
theorem dL_law_744 : decode cL_law 744 = .ok (.iconst 0, 1) := by decide +kernel
theorem dL_law_745 : decode cL_law 745 = .ok (.ireturn, 1) := by decide +kernel
theorem dL_law_746 : decode cL_law 746 = .ok (.aload_n 1, 1) := by decide +kernel
theorem dL_law_747 : decode cL_law 747 = .ok (.aload_n 0, 1) := by decide +kernel
theorem dL_law_748 : decode cL_law 748 = .ok (.iload_n 3, 1) := by decide +kernel
theorem dL_law_749 : decode cL_law 749 = .ok (.iconst 1, 1) := by decide +kernel
theorem dL_law_750 : decode cL_law 750 = .ok (.iadd, 1) := by decide +kernel
theorem dL_law_751 : decode cL_law 751 = .ok (.iaload, 1) := by decide +kernel
theorem dL_law_752 : decode cL_law 752 = .ok (.aload_n 0, 1) := by decide +kernel
theorem dL_law_753 : decode cL_law 753 = .ok (.iload_n 3, 1) := by decide +kernel
theorem dL_law_754 : decode cL_law 754 = .ok (.iconst 2, 1) := by decide +kernel
theorem dL_law_755 : decode cL_law 755 = .ok (.iadd, 1) := by decide +kernel
theorem dL_law_756 : decode cL_law 756 = .ok (.iaload, 1) := by decide +kernel
theorem dL_law_757 : decode cL_law 757 = .ok (.invokevirtual 113, 3) := by decide +kernel
theorem dL_law_760 : decode cL_law 760 = .ok (.aload_n 2, 1) := by decide +kernel
theorem dL_law_761 : decode cL_law 761 = .ok (.aload_n 0, 1) := by decide +kernel
theorem dL_law_762 : decode cL_law 762 = .ok (.iload_n 3, 1) := by decide +kernel
theorem dL_law_763 : decode cL_law 763 = .ok (.iconst 1, 1) := by decide +kernel
theorem dL_law_764 : decode cL_law 764 = .ok (.iadd, 1) := by decide +kernel
theorem dL_law_765 : decode cL_law 765 = .ok (.iaload, 1) := by decide +kernel
theorem dL_law_766 : decode cL_law 766 = .ok (.aload_n 0, 1) := by decide +kernel
theorem dL_law_767 : decode cL_law 767 = .ok (.iload_n 3, 1) := by decide +kernel
theorem dL_law_768 : decode cL_law 768 = .ok (.iconst 2, 1) := by decide +kernel
theorem dL_law_769 : decode cL_law 769 = .ok (.iadd, 1) := by decide +kernel
theorem dL_law_770 : decode cL_law 770 = .ok (.iaload, 1) := by decide +kernel
theorem dL_law_771 : decode cL_law 771 = .ok (.invokevirtual 116, 3) := by decide +kernel
theorem dL_law_774 : decode cL_law 774 = .ok (.if_icmp .eq 348, 3) := by decide +kernel
theorem dL_law_777 : decode cL_law 777 = .ok (.iconst 0, 1) := by decide +kernel
theorem dL_law_778 : decode cL_law 778 = .ok (.ireturn, 1) := by decide +kernel
theorem dL_law_779 : decode cL_law 779 = .ok (.aload_n 1, 1) := by decide +kernel
theorem dL_law_780 : decode cL_law 780 = .ok (.aload_n 0, 1) := by decide +kernel
theorem dL_law_781 : decode cL_law 781 = .ok (.iload_n 3, 1) := by decide +kernel
theorem dL_law_782 : decode cL_law 782 = .ok (.iconst 1, 1) := by decide +kernel
theorem dL_law_783 : decode cL_law 783 = .ok (.iadd, 1) := by decide +kernel
theorem dL_law_784 : decode cL_law 784 = .ok (.iaload, 1) := by decide +kernel
theorem dL_law_785 : decode cL_law 785 = .ok (.invokevirtual 117, 3) := by decide +kernel
theorem dL_law_788 : decode cL_law 788 = .ok (.aload_n 2, 1) := by decide +kernel
theorem dL_law_789 : decode cL_law 789 = .ok (.aload_n 0, 1) := by decide +kernel
theorem dL_law_790 : decode cL_law 790 = .ok (.iload_n 3, 1) := by decide +kernel
theorem dL_law_791 : decode cL_law 791 = .ok (.iconst 1, 1) := by decide +kernel
theorem dL_law_792 : decode cL_law 792 = .ok (.iadd, 1) := by decide +kernel
theorem dL_law_793 : decode cL_law 793 = .ok (.iaload, 1) := by decide +kernel
theorem dL_law_794 : decode cL_law 794 = .ok (.invokevirtual 120, 3) := by decide +kernel
theorem dL_law_797 : decode cL_law 797 = .ok (.if_icmp .eq 325, 3) := by decide +kernel
theorem dL_law_800 : decode cL_law 800 = .ok (.iconst 0, 1) := by decide +kernel
theorem dL_law_801 : decode cL_law 801 = .ok (.ireturn, 1) := by decide +kernel
theorem dL_law_802 : decode cL_law 802 = .ok (.aload_n 1, 1) := by decide +kernel
theorem dL_law_803 : decode cL_law 803 = .ok (.aload_n 0, 1) := by decide +kernel
theorem dL_law_804 : decode cL_law 804 = .ok (.iload_n 3, 1) := by decide +kernel
theorem dL_law_805 : decode cL_law 805 = .ok (.iconst 1, 1) := by decide +kernel
theorem dL_law_806 : decode cL_law 806 = .ok (.iadd, 1) := by decide +kernel
theorem dL_law_807 : decode cL_law 807 = .ok (.iaload, 1) := by decide +kernel
theorem dL_law_808 : decode cL_law 808 = .ok (.invokevirtual 121, 3) := by decide +kernel
theorem dL_law_811 : decode cL_law 811 = .ok (.aload_n 2, 1) := by decide +kernel
theorem dL_law_812 : decode cL_law 812 = .ok (.aload_n 0, 1) := by decide +kernel
theorem dL_law_813 : decode cL_law 813 = .ok (.iload_n 3, 1) := by decide +kernel
theorem dL_law_814 : decode cL_law 814 = .ok (.iconst 1, 1) := by decide +kernel
theorem dL_law_815 : decode cL_law 815 = .ok (.iadd, 1) := by decide +kernel
theorem dL_law_816 : decode cL_law 816 = .ok (.iaload, 1) := by decide +kernel
theorem dL_law_817 : decode cL_law 817 = .ok (.invokevirtual 124, 3) := by decide +kernel
theorem dL_law_820 : decode cL_law 820 = .ok (.if_icmp .eq 302, 3) := by decide +kernel
theorem dL_law_823 : decode cL_law 823 = .ok (.iconst 0, 1) := by decide +kernel
theorem dL_law_824 : decode cL_law 824 = .ok (.ireturn, 1) := by decide +kernel
theorem dL_law_825 : decode cL_law 825 = .ok (.aload_n 1, 1) := by decide +kernel
theorem dL_law_826 : decode cL_law 826 = .ok (.aload_n 0, 1) := by decide +kernel
theorem dL_law_827 : decode cL_law 827 = .ok (.iload_n 3, 1) := by decide +kernel
theorem dL_law_828 : decode cL_law 828 = .ok (.iconst 1, 1) := by decide +kernel
theorem dL_law_829 : decode cL_law 829 = .ok (.iadd, 1) := by decide +kernel
theorem dL_law_830 : decode cL_law 830 = .ok (.iaload, 1) := by decide +kernel
theorem dL_law_831 : decode cL_law 831 = .ok (.aload_n 0, 1) := by decide +kernel
theorem dL_law_832 : decode cL_law 832 = .ok (.iload_n 3, 1) := by decide +kernel
theorem dL_law_833 : decode cL_law 833 = .ok (.iconst 2, 1) := by decide +kernel
theorem dL_law_834 : decode cL_law 834 = .ok (.iadd, 1) := by decide +kernel
theorem dL_law_835 : decode cL_law 835 = .ok (.iaload, 1) := by decide +kernel
theorem dL_law_836 : decode cL_law 836 = .ok (.invokevirtual 125, 3) := by decide +kernel
theorem dL_law_839 : decode cL_law 839 = .ok (.aload_n 2, 1) := by decide +kernel
theorem dL_law_840 : decode cL_law 840 = .ok (.aload_n 0, 1) := by decide +kernel
theorem dL_law_841 : decode cL_law 841 = .ok (.iload_n 3, 1) := by decide +kernel
theorem dL_law_842 : decode cL_law 842 = .ok (.iconst 1, 1) := by decide +kernel
theorem dL_law_843 : decode cL_law 843 = .ok (.iadd, 1) := by decide +kernel
theorem dL_law_844 : decode cL_law 844 = .ok (.iaload, 1) := by decide +kernel
theorem dL_law_845 : decode cL_law 845 = .ok (.aload_n 0, 1) := by decide +kernel
theorem dL_law_846 : decode cL_law 846 = .ok (.iload_n 3, 1) := by decide +kernel
theorem dL_law_847 : decode cL_law 847 = .ok (.iconst 2, 1) := by decide +kernel
theorem dL_law_848 : decode cL_law 848 = .ok (.iadd, 1) := by decide +kernel
theorem dL_law_849 : decode cL_law 849 = .ok (.iaload, 1) := by decide +kernel
theorem dL_law_850 : decode cL_law 850 = .ok (.invokevirtual 128, 3) := by decide +kernel
theorem dL_law_853 : decode cL_law 853 = .ok (.if_icmp .eq 269, 3) := by decide +kernel
theorem dL_law_856 : decode cL_law 856 = .ok (.iconst 0, 1) := by decide +kernel
theorem dL_law_857 : decode cL_law 857 = .ok (.ireturn, 1) := by decide +kernel
theorem dL_law_858 : decode cL_law 858 = .ok (.aload_n 1, 1) := by decide +kernel
theorem dL_law_859 : decode cL_law 859 = .ok (.invokevirtual 129, 3) := by decide +kernel
theorem dL_law_862 : decode cL_law 862 = .ok (.aload_n 2, 1) := by decide +kernel
theorem dL_law_863 : decode cL_law 863 = .ok (.invokevirtual 132, 3) := by decide +kernel
theorem dL_law_866 : decode cL_law 866 = .ok (.if_icmp .eq 256, 3) := by decide +kernel
theorem dL_law_869 : decode cL_law 869 = .ok (.iconst 0, 1) := by decide +kernel
theorem dL_law_870 : decode cL_law 870 = .ok (.ireturn, 1) := by decide +kernel
theorem dL_law_871 : decode cL_law 871 = .ok (.aload_n 1, 1) := by decide +kernel
theorem dL_law_872 : decode cL_law 872 = .ok (.aload_n 0, 1) := by decide +kernel
theorem dL_law_873 : decode cL_law 873 = .ok (.iload_n 3, 1) := by decide +kernel
theorem dL_law_874 : decode cL_law 874 = .ok (.iconst 1, 1) := by decide +kernel
theorem dL_law_875 : decode cL_law 875 = .ok (.iadd, 1) := by decide +kernel
theorem dL_law_876 : decode cL_law 876 = .ok (.iaload, 1) := by decide +kernel
theorem dL_law_877 : decode cL_law 877 = .ok (.invokevirtual 133, 3) := by decide +kernel
theorem dL_law_880 : decode cL_law 880 = .ok (.aload_n 2, 1) := by decide +kernel
theorem dL_law_881 : decode cL_law 881 = .ok (.aload_n 0, 1) := by decide +kernel
theorem dL_law_882 : decode cL_law 882 = .ok (.iload_n 3, 1) := by decide +kernel
theorem dL_law_883 : decode cL_law 883 = .ok (.iconst 1, 1) := by decide +kernel
theorem dL_law_884 : decode cL_law 884 = .ok (.iadd, 1) := by decide +kernel
theorem dL_law_885 : decode cL_law 885 = .ok (.iaload, 1) := by decide +kernel
theorem dL_law_886 : decode cL_law 886 = .ok (.invokevirtual 136, 3) := by decide +kernel
theorem dL_law_889 : decode cL_law 889 = .ok (.if_icmp .eq 233, 3) := by decide +kernel
theorem dL_law_892 : decode cL_law 892 = .ok (.iconst 0, 1) := by decide +kernel
theorem dL_law_893 : decode cL_law 893 = .ok (.ireturn, 1) := by decide +kernel
theorem dL_law_894 : decode cL_law 894 = .ok (.aload_n 1, 1) := by decide +kernel
theorem dL_law_895 : decode cL_law 895 = .ok (.aload_n 0, 1) := by decide +kernel
theorem dL_law_896 : decode cL_law 896 = .ok (.iload_n 3, 1) := by decide +kernel
theorem dL_law_897 : decode cL_law 897 = .ok (.iconst 1, 1) := by decide +kernel
theorem dL_law_898 : decode cL_law 898 = .ok (.iadd, 1) := by decide +kernel
theorem dL_law_899 : decode cL_law 899 = .ok (.iaload, 1) := by decide +kernel
theorem dL_law_900 : decode cL_law 900 = .ok (.invokevirtual 137, 3) := by decide +kernel
theorem dL_law_903 : decode cL_law 903 = .ok (.aload_n 2, 1) := by decide +kernel
theorem dL_law_904 : decode cL_law 904 = .ok (.aload_n 0, 1) := by decide +kernel
theorem dL_law_905 : decode cL_law 905 = .ok (.iload_n 3, 1) := by decide +kernel
theorem dL_law_906 : decode cL_law 906 = .ok (.iconst 1, 1) := by decide +kernel
theorem dL_law_907 : decode cL_law 907 = .ok (.iadd, 1) := by decide +kernel
theorem dL_law_908 : decode cL_law 908 = .ok (.iaload, 1) := by decide +kernel
theorem dL_law_909 : decode cL_law 909 = .ok (.invokevirtual 140, 3) := by decide +kernel
theorem dL_law_912 : decode cL_law 912 = .ok (.if_icmp .eq 210, 3) := by decide +kernel
theorem dL_law_915 : decode cL_law 915 = .ok (.iconst 0, 1) := by decide +kernel
theorem dL_law_916 : decode cL_law 916 = .ok (.ireturn, 1) := by decide +kernel
theorem dL_law_917 : decode cL_law 917 = .ok (.aload_n 1, 1) := by decide +kernel
theorem dL_law_918 : decode cL_law 918 = .ok (.aload_n 0, 1) := by decide +kernel
theorem dL_law_919 : decode cL_law 919 = .ok (.iload_n 3, 1) := by decide +kernel
theorem dL_law_920 : decode cL_law 920 = .ok (.iconst 1, 1) := by decide +kernel
theorem dL_law_921 : decode cL_law 921 = .ok (.iadd, 1) := by decide +kernel
theorem dL_law_922 : decode cL_law 922 = .ok (.iaload, 1) := by decide +kernel
theorem dL_law_923 : decode cL_law 923 = .ok (.aload_n 0, 1) := by decide +kernel
theorem dL_law_924 : decode cL_law 924 = .ok (.iload_n 3, 1) := by decide +kernel
theorem dL_law_925 : decode cL_law 925 = .ok (.iconst 2, 1) := by decide +kernel
theorem dL_law_926 : decode cL_law 926 = .ok (.iadd, 1) := by decide +kernel
theorem dL_law_927 : decode cL_law 927 = .ok (.iaload, 1) := by decide +kernel
theorem dL_law_928 : decode cL_law 928 = .ok (.invokevirtual 141, 3) := by decide +kernel
theorem dL_law_931 : decode cL_law 931 = .ok (.aload_n 2, 1) := by decide +kernel
theorem dL_law_932 : decode cL_law 932 = .ok (.aload_n 0, 1) := by decide +kernel
theorem dL_law_933 : decode cL_law 933 = .ok (.iload_n 3, 1) := by decide +kernel
theorem dL_law_934 : decode cL_law 934 = .ok (.iconst 1, 1) := by decide +kernel
theorem dL_law_935 : decode cL_law 935 = .ok (.iadd, 1) := by decide +kernel
theorem dL_law_936 : decode cL_law 936 = .ok (.iaload, 1) := by decide +kernel
theorem dL_law_937 : decode cL_law 937 = .ok (.aload_n 0, 1) := by decide +kernel
theorem dL_law_938 : decode cL_law 938 = .ok (.iload_n 3, 1) := by decide +kernel
theorem dL_law_939 : decode cL_law 939 = .ok (.iconst 2, 1) := by decide +kernel
theorem dL_law_940 : decode cL_law 940 = .ok (.iadd, 1) := by decide +kernel
theorem dL_law_941 : decode cL_law 941 = .ok (.iaload, 1) := by decide +kernel
theorem dL_law_942 : decode cL_law 942 = .ok (.invokevirtual 145, 3) := by decide +kernel
theorem dL_law_945 : decode cL_law 945 = .ok (.lcmp, 1) := by decide +kernel
theorem dL_law_946 : decode cL_law 946 = .ok (.ifCond .eq 176, 3) := by decide +kernel
theorem dL_law_949 : decode cL_law 949 = .ok (.iconst 0, 1) := by decide +kernel
theorem dL_law_950 : decode cL_law 950 = .ok (.ireturn, 1) := by decide +kernel
theorem dL_law_951 : decode cL_law 951 = .ok (.aload_n 1, 1) := by decide +kernel
theorem dL_law_952 : decode cL_law 952 = .ok (.aload_n 0, 1) := by decide +kernel
theorem dL_law_953 : decode cL_law 953 = .ok (.iload_n 3, 1) := by decide +kernel
theorem dL_law_954 : decode cL_law 954 = .ok (.iconst 1, 1) := by decide +kernel
theorem dL_law_955 : decode cL_law 955 = .ok (.iadd, 1) := by decide +kernel
theorem dL_law_956 : decode cL_law 956 = .ok (.iaload, 1) := by decide +kernel
theorem dL_law_957 : decode cL_law 957 = .ok (.aload_n 0, 1) := by decide +kernel
theorem dL_law_958 : decode cL_law 958 = .ok (.iload_n 3, 1) := by decide +kernel
theorem dL_law_959 : decode cL_law 959 = .ok (.iconst 2, 1) := by decide +kernel
theorem dL_law_960 : decode cL_law 960 = .ok (.iadd, 1) := by decide +kernel
theorem dL_law_961 : decode cL_law 961 = .ok (.iaload, 1) := by decide +kernel
theorem dL_law_962 : decode cL_law 962 = .ok (.invokevirtual 146, 3) := by decide +kernel
theorem dL_law_965 : decode cL_law 965 = .ok (.aload_n 2, 1) := by decide +kernel
theorem dL_law_966 : decode cL_law 966 = .ok (.aload_n 0, 1) := by decide +kernel
theorem dL_law_967 : decode cL_law 967 = .ok (.iload_n 3, 1) := by decide +kernel
theorem dL_law_968 : decode cL_law 968 = .ok (.iconst 1, 1) := by decide +kernel
theorem dL_law_969 : decode cL_law 969 = .ok (.iadd, 1) := by decide +kernel
theorem dL_law_970 : decode cL_law 970 = .ok (.iaload, 1) := by decide +kernel
theorem dL_law_971 : decode cL_law 971 = .ok (.aload_n 0, 1) := by decide +kernel
theorem dL_law_972 : decode cL_law 972 = .ok (.iload_n 3, 1) := by decide +kernel
theorem dL_law_973 : decode cL_law 973 = .ok (.iconst 2, 1) := by decide +kernel
theorem dL_law_974 : decode cL_law 974 = .ok (.iadd, 1) := by decide +kernel
theorem dL_law_975 : decode cL_law 975 = .ok (.iaload, 1) := by decide +kernel
theorem dL_law_976 : decode cL_law 976 = .ok (.invokevirtual 149, 3) := by decide +kernel
theorem dL_law_979 : decode cL_law 979 = .ok (.if_icmp .eq 143, 3) := by decide +kernel
theorem dL_law_982 : decode cL_law 982 = .ok (.iconst 0, 1) := by decide +kernel
theorem dL_law_983 : decode cL_law 983 = .ok (.ireturn, 1) := by decide +kernel
theorem dL_law_984 : decode cL_law 984 = .ok (.aload_n 1, 1) := by decide +kernel
theorem dL_law_985 : decode cL_law 985 = .ok (.aload_n 0, 1) := by decide +kernel
theorem dL_law_986 : decode cL_law 986 = .ok (.iload_n 3, 1) := by decide +kernel
theorem dL_law_987 : decode cL_law 987 = .ok (.iconst 1, 1) := by decide +kernel
theorem dL_law_988 : decode cL_law 988 = .ok (.iadd, 1) := by decide +kernel
theorem dL_law_989 : decode cL_law 989 = .ok (.iaload, 1) := by decide +kernel
theorem dL_law_990 : decode cL_law 990 = .ok (.aload_n 0, 1) := by decide +kernel
theorem dL_law_991 : decode cL_law 991 = .ok (.iload_n 3, 1) := by decide +kernel
theorem dL_law_992 : decode cL_law 992 = .ok (.iconst 2, 1) := by decide +kernel
theorem dL_law_993 : decode cL_law 993 = .ok (.iadd, 1) := by decide +kernel
theorem dL_law_994 : decode cL_law 994 = .ok (.iaload, 1) := by decide +kernel
theorem dL_law_995 : decode cL_law 995 = .ok (.invokevirtual 150, 3) := by decide +kernel
theorem dL_law_998 : decode cL_law 998 = .ok (.aload_n 2, 1) := by decide +kernel
theorem dL_law_999 : decode cL_law 999 = .ok (.aload_n 0, 1) := by decide +kernel
theorem dL_law_1000 : decode cL_law 1000 = .ok (.iload_n 3, 1) := by decide +kernel
theorem dL_law_1001 : decode cL_law 1001 = .ok (.iconst 1, 1) := by decide +kernel
theorem dL_law_1002 : decode cL_law 1002 = .ok (.iadd, 1) := by decide +kernel
theorem dL_law_1003 : decode cL_law 1003 = .ok (.iaload, 1) := by decide +kernel
theorem dL_law_1004 : decode cL_law 1004 = .ok (.aload_n 0, 1) := by decide +kernel
theorem dL_law_1005 : decode cL_law 1005 = .ok (.iload_n 3, 1) := by decide +kernel
theorem dL_law_1006 : decode cL_law 1006 = .ok (.iconst 2, 1) := by decide +kernel
theorem dL_law_1007 : decode cL_law 1007 = .ok (.iadd, 1) := by decide +kernel
theorem dL_law_1008 : decode cL_law 1008 = .ok (.iaload, 1) := by decide +kernel
theorem dL_law_1009 : decode cL_law 1009 = .ok (.invokevirtual 153, 3) := by decide +kernel
theorem dL_law_1012 : decode cL_law 1012 = .ok (.if_icmp .eq 110, 3) := by decide +kernel
theorem dL_law_1015 : decode cL_law 1015 = .ok (.iconst 0, 1) := by decide +kernel
theorem dL_law_1016 : decode cL_law 1016 = .ok (.ireturn, 1) := by decide +kernel
theorem dL_law_1017 : decode cL_law 1017 = .ok (.aload_n 1, 1) := by decide +kernel
theorem dL_law_1018 : decode cL_law 1018 = .ok (.aload_n 0, 1) := by decide +kernel
theorem dL_law_1019 : decode cL_law 1019 = .ok (.iload_n 3, 1) := by decide +kernel
theorem dL_law_1020 : decode cL_law 1020 = .ok (.iconst 1, 1) := by decide +kernel
theorem dL_law_1021 : decode cL_law 1021 = .ok (.iadd, 1) := by decide +kernel
theorem dL_law_1022 : decode cL_law 1022 = .ok (.iaload, 1) := by decide +kernel
theorem dL_law_1023 : decode cL_law 1023 = .ok (.invokevirtual 154, 3) := by decide +kernel
theorem dL_law_1026 : decode cL_law 1026 = .ok (.aload_n 2, 1) := by decide +kernel
theorem dL_law_1027 : decode cL_law 1027 = .ok (.aload_n 0, 1) := by decide +kernel
theorem dL_law_1028 : decode cL_law 1028 = .ok (.iload_n 3, 1) := by decide +kernel
theorem dL_law_1029 : decode cL_law 1029 = .ok (.iconst 1, 1) := by decide +kernel
theorem dL_law_1030 : decode cL_law 1030 = .ok (.iadd, 1) := by decide +kernel
theorem dL_law_1031 : decode cL_law 1031 = .ok (.iaload, 1) := by decide +kernel
theorem dL_law_1032 : decode cL_law 1032 = .ok (.invokevirtual 157, 3) := by decide +kernel
theorem dL_law_1035 : decode cL_law 1035 = .ok (.if_icmp .eq 87, 3) := by decide +kernel
theorem dL_law_1038 : decode cL_law 1038 = .ok (.iconst 0, 1) := by decide +kernel
theorem dL_law_1039 : decode cL_law 1039 = .ok (.ireturn, 1) := by decide +kernel
theorem dL_law_1040 : decode cL_law 1040 = .ok (.aload_n 1, 1) := by decide +kernel
theorem dL_law_1041 : decode cL_law 1041 = .ok (.aload_n 0, 1) := by decide +kernel
theorem dL_law_1042 : decode cL_law 1042 = .ok (.iload_n 3, 1) := by decide +kernel
theorem dL_law_1043 : decode cL_law 1043 = .ok (.iconst 1, 1) := by decide +kernel
theorem dL_law_1044 : decode cL_law 1044 = .ok (.iadd, 1) := by decide +kernel
theorem dL_law_1045 : decode cL_law 1045 = .ok (.iaload, 1) := by decide +kernel
theorem dL_law_1046 : decode cL_law 1046 = .ok (.invokevirtual 158, 3) := by decide +kernel
theorem dL_law_1049 : decode cL_law 1049 = .ok (.aload_n 2, 1) := by decide +kernel
theorem dL_law_1050 : decode cL_law 1050 = .ok (.aload_n 0, 1) := by decide +kernel
theorem dL_law_1051 : decode cL_law 1051 = .ok (.iload_n 3, 1) := by decide +kernel
theorem dL_law_1052 : decode cL_law 1052 = .ok (.iconst 1, 1) := by decide +kernel
theorem dL_law_1053 : decode cL_law 1053 = .ok (.iadd, 1) := by decide +kernel
theorem dL_law_1054 : decode cL_law 1054 = .ok (.iaload, 1) := by decide +kernel
theorem dL_law_1055 : decode cL_law 1055 = .ok (.invokevirtual 161, 3) := by decide +kernel
theorem dL_law_1058 : decode cL_law 1058 = .ok (.if_icmp .eq 64, 3) := by decide +kernel
theorem dL_law_1061 : decode cL_law 1061 = .ok (.iconst 0, 1) := by decide +kernel
theorem dL_law_1062 : decode cL_law 1062 = .ok (.ireturn, 1) := by decide +kernel
theorem dL_law_1063 : decode cL_law 1063 = .ok (.aload_n 1, 1) := by decide +kernel
theorem dL_law_1064 : decode cL_law 1064 = .ok (.aload_n 0, 1) := by decide +kernel
theorem dL_law_1065 : decode cL_law 1065 = .ok (.iload_n 3, 1) := by decide +kernel
theorem dL_law_1066 : decode cL_law 1066 = .ok (.iconst 1, 1) := by decide +kernel
theorem dL_law_1067 : decode cL_law 1067 = .ok (.iadd, 1) := by decide +kernel
theorem dL_law_1068 : decode cL_law 1068 = .ok (.iaload, 1) := by decide +kernel
theorem dL_law_1069 : decode cL_law 1069 = .ok (.invokevirtual 162, 3) := by decide +kernel
theorem dL_law_1072 : decode cL_law 1072 = .ok (.aload_n 2, 1) := by decide +kernel
theorem dL_law_1073 : decode cL_law 1073 = .ok (.aload_n 0, 1) := by decide +kernel
theorem dL_law_1074 : decode cL_law 1074 = .ok (.iload_n 3, 1) := by decide +kernel
theorem dL_law_1075 : decode cL_law 1075 = .ok (.iconst 1, 1) := by decide +kernel
theorem dL_law_1076 : decode cL_law 1076 = .ok (.iadd, 1) := by decide +kernel
theorem dL_law_1077 : decode cL_law 1077 = .ok (.iaload, 1) := by decide +kernel
theorem dL_law_1078 : decode cL_law 1078 = .ok (.invokevirtual 165, 3) := by decide +kernel
theorem dL_law_1081 : decode cL_law 1081 = .ok (.if_icmp .eq 41, 3) := by decide +kernel
theorem dL_law_1084 : decode cL_law 1084 = .ok (.iconst 0, 1) := by decide +kernel
theorem dL_law_1085 : decode cL_law 1085 = .ok (.ireturn, 1) := by decide +kernel
theorem dL_law_1086 : decode cL_law 1086 = .ok (.aload_n 1, 1) := by decide +kernel
theorem dL_law_1087 : decode cL_law 1087 = .ok (.aload_n 0, 1) := by decide +kernel
theorem dL_law_1088 : decode cL_law 1088 = .ok (.iload_n 3, 1) := by decide +kernel
theorem dL_law_1089 : decode cL_law 1089 = .ok (.iconst 1, 1) := by decide +kernel
theorem dL_law_1090 : decode cL_law 1090 = .ok (.iadd, 1) := by decide +kernel
theorem dL_law_1091 : decode cL_law 1091 = .ok (.iaload, 1) := by decide +kernel
theorem dL_law_1092 : decode cL_law 1092 = .ok (.invokevirtual 166, 3) := by decide +kernel
theorem dL_law_1095 : decode cL_law 1095 = .ok (.aload_n 2, 1) := by decide +kernel
theorem dL_law_1096 : decode cL_law 1096 = .ok (.aload_n 0, 1) := by decide +kernel
theorem dL_law_1097 : decode cL_law 1097 = .ok (.iload_n 3, 1) := by decide +kernel
theorem dL_law_1098 : decode cL_law 1098 = .ok (.iconst 1, 1) := by decide +kernel
theorem dL_law_1099 : decode cL_law 1099 = .ok (.iadd, 1) := by decide +kernel
theorem dL_law_1100 : decode cL_law 1100 = .ok (.iaload, 1) := by decide +kernel
theorem dL_law_1101 : decode cL_law 1101 = .ok (.invokevirtual 169, 3) := by decide +kernel
theorem dL_law_1104 : decode cL_law 1104 = .ok (.if_icmp .eq 18, 3) := by decide +kernel
theorem dL_law_1107 : decode cL_law 1107 = .ok (.iconst 0, 1) := by decide +kernel
theorem dL_law_1108 : decode cL_law 1108 = .ok (.ireturn, 1) := by decide +kernel
theorem dL_law_1109 : decode cL_law 1109 = .ok (.aload_n 1, 1) := by decide +kernel
theorem dL_law_1110 : decode cL_law 1110 = .ok (.invokevirtual 170, 3) := by decide +kernel
theorem dL_law_1113 : decode cL_law 1113 = .ok (.aload_n 2, 1) := by decide +kernel
theorem dL_law_1114 : decode cL_law 1114 = .ok (.invokevirtual 173, 3) := by decide +kernel
theorem dL_law_1117 : decode cL_law 1117 = .ok (.if_icmp .eq 5, 3) := by decide +kernel
theorem dL_law_1120 : decode cL_law 1120 = .ok (.iconst 0, 1) := by decide +kernel
theorem dL_law_1121 : decode cL_law 1121 = .ok (.ireturn, 1) := by decide +kernel
theorem dL_law_1122 : decode cL_law 1122 = .ok (.iinc 3 6, 3) := by decide +kernel
theorem dL_law_1125 : decode cL_law 1125 = .ok (.goto (-1107), 3) := by decide +kernel
theorem dL_law_1128 : decode cL_law 1128 = .ok (.iconst 1, 1) := by decide +kernel
theorem dL_law_1129 : decode cL_law 1129 = .ok (.ireturn, 1) := by decide +kernel
